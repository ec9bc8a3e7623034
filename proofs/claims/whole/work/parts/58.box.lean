/-! a line through a box: both ways -/
def thrZ (dx dy L R lo hi : Int) : Prop := ¬ (dx = 0 ∧ (0 ≤ L ∨ R ≤ 0)) ∧ ¬ (dy = 0 ∧ (0 ≤ lo ∨ hi ≤ 0)) ∧ ¬ (dx ≠ 0 ∧ ((if 0 < dx then dx else -dx) ≤ (if 0 < dx then L else -R) ∨ (if 0 < dx then R else -L) ≤ 0)) ∧ ¬ (dy ≠ 0 ∧ ((if 0 < dy then dy else -dy) ≤ (if 0 < dy then lo else -hi) ∨ (if 0 < dy then hi else -lo) ≤ 0)) ∧ (dx = 0 ∨ dy = 0 ∨ ((if 0 < dx then L else -R) * (if 0 < dy then dy else -dy) < (if 0 < dy then hi else -lo) * (if 0 < dx then dx else -dx) ∧ (if 0 < dy then lo else -hi) * (if 0 < dx then dx else -dx) < (if 0 < dx then R else -L) * (if 0 < dy then dy else -dy)))
/-- the class's way, from the line's first end -/
def entS (dx dy L R lo hi : Int) : Prop := ¬ (max 0 dx ≤ L ∨ R ≤ min 0 dx ∨ max 0 dy ≤ lo ∨ hi ≤ min 0 dy) ∧ ((dx = 0 ∧ dy = 0) ∨ ((dx * lo - dy * L < 0 ∨ dx * hi - dy * L < 0 ∨ dx * lo - dy * R < 0 ∨ dx * hi - dy * R < 0) ∧ (0 < dx * lo - dy * L ∨ 0 < dx * hi - dy * L ∨ 0 < dx * lo - dy * R ∨ 0 < dx * hi - dy * R)))
theorem cor_pp {p q r s : Int} (h1 : p < q) (h2 : r < s) : ((p - r < 0 ∨ q - r < 0 ∨ p - s < 0 ∨ q - s < 0) ∧ (0 < p - r ∨ 0 < q - r ∨ 0 < p - s ∨ 0 < q - s)) ↔ (r < q ∧ p < s) := by omega
theorem cor_np {p q r s : Int} (h1 : q < p) (h2 : r < s) : ((p - r < 0 ∨ q - r < 0 ∨ p - s < 0 ∨ q - s < 0) ∧ (0 < p - r ∨ 0 < q - r ∨ 0 < p - s ∨ 0 < q - s)) ↔ (q < s ∧ r < p) := by omega
theorem cor_pn {p q r s : Int} (h1 : p < q) (h2 : s < r) : ((p - r < 0 ∨ q - r < 0 ∨ p - s < 0 ∨ q - s < 0) ∧ (0 < p - r ∨ 0 < q - r ∨ 0 < p - s ∨ 0 < q - s)) ↔ (p < r ∧ s < q) := by omega
theorem cor_nn {p q r s : Int} (h1 : q < p) (h2 : s < r) : ((p - r < 0 ∨ q - r < 0 ∨ p - s < 0 ∨ q - s < 0) ∧ (0 < p - r ∨ 0 < q - r ∨ 0 < p - s ∨ 0 < q - s)) ↔ (q < r ∧ s < p) := by omega
theorem mx0 : max (0 : Int) 0 = 0 := by decide
theorem mn0 : min (0 : Int) 0 = 0 := by decide
theorem thr_ent {dx dy L R lo hi : Int} (hL : L < R) (hl : lo < hi) : thrZ dx dy L R lo hi ↔ entS dx dy L R lo hi := by
  unfold thrZ entS
  rcases Int.lt_trichotomy dx 0 with hx | hx | hx
  · have m1 : dx * hi < dx * lo := Int.mul_lt_mul_of_neg_left hl hx
    rw [if_neg (by omega : ¬ 0 < dx), if_neg (by omega : ¬ 0 < dx), if_neg (by omega : ¬ 0 < dx)]
    rcases Int.lt_trichotomy dy 0 with hy | hy | hy
    · have m2 : dy * R < dy * L := Int.mul_lt_mul_of_neg_left hL hy
      rw [if_neg (by omega : ¬ 0 < dy), if_neg (by omega : ¬ 0 < dy), if_neg (by omega : ¬ 0 < dy), cor_nn m1 m2]
      have e1 : -R * -dy = dy * R := by rw [Int.neg_mul_neg, Int.mul_comm]
      have e2 : -lo * -dx = dx * lo := by rw [Int.neg_mul_neg, Int.mul_comm]
      have e3 : -hi * -dx = dx * hi := by rw [Int.neg_mul_neg, Int.mul_comm]
      have e4 : -L * -dy = dy * L := by rw [Int.neg_mul_neg, Int.mul_comm]
      rw [e1, e2, e3, e4]
      omega
    · subst hy
      rw [mx0, mn0]
      simp only [Int.zero_mul, Int.sub_zero, Int.lt_irrefl, if_false, ne_eq, not_true, false_and, and_false, not_false_iff, true_and, true_or, or_true, and_true]
      have k : 0 < dx * lo ∨ dx * lo ≤ 0 := by omega
      have s1 : dx * lo > 0 ↔ lo < 0 := by
        constructor
        · intro z; rcases Int.lt_or_le lo 0 with q | q
          · exact q
          · have := Int.mul_nonpos_of_nonpos_of_nonneg (Int.le_of_lt hx) q; omega
        · intro z; exact Int.mul_pos_of_neg_of_neg hx z
      have s2 : dx * hi < 0 ↔ 0 < hi := by
        constructor
        · intro z; rcases Int.lt_or_le 0 hi with q | q
          · exact q
          · have := Int.mul_nonneg_of_nonpos_of_nonpos (Int.le_of_lt hx) q; omega
        · intro z; exact Int.mul_neg_of_neg_of_pos hx z
      omega
    · have m2 : dy * L < dy * R := Int.mul_lt_mul_of_pos_left hL hy
      rw [if_pos hy, if_pos hy, if_pos hy, cor_np m1 m2]
      have e1 : -R * dy = -(dy * R) := by rw [Int.neg_mul, Int.mul_comm]
      have e2 : hi * -dx = -(dx * hi) := by rw [Int.mul_neg, Int.mul_comm]
      have e3 : lo * -dx = -(dx * lo) := by rw [Int.mul_neg, Int.mul_comm]
      have e4 : -L * dy = -(dy * L) := by rw [Int.neg_mul, Int.mul_comm]
      rw [e1, e2, e3, e4]
      omega
  · subst hx
    rw [mx0, mn0]
    simp only [Int.zero_mul, Int.zero_sub, Int.lt_irrefl, if_false, ne_eq, not_true, false_and, and_false, not_false_iff, true_and, true_or, or_true, and_true]
    rcases Int.lt_trichotomy dy 0 with hy | hy | hy
    · rw [if_neg (by omega : ¬ 0 < dy), if_neg (by omega : ¬ 0 < dy), if_neg (by omega : ¬ 0 < dy)]
      have s1 : L < 0 → dy * L > 0 := fun z => Int.mul_pos_of_neg_of_neg hy z
      have s2 : 0 < R → dy * R < 0 := fun z => Int.mul_neg_of_neg_of_pos hy z
      omega
    · subst hy
      rw [mx0, mn0]
      simp only [Int.zero_mul, Int.lt_irrefl, if_false, ne_eq, not_true, false_and, and_false, not_false_iff, true_and, true_or, or_true, and_true]
      omega
    · rw [if_pos hy, if_pos hy, if_pos hy]
      have s1 : L < 0 → dy * L < 0 := fun z => Int.mul_neg_of_pos_of_neg hy z
      have s2 : 0 < R → dy * R > 0 := fun z => Int.mul_pos hy z
      omega
  · have m1 : dx * lo < dx * hi := Int.mul_lt_mul_of_pos_left hl hx
    rw [if_pos hx, if_pos hx, if_pos hx]
    rcases Int.lt_trichotomy dy 0 with hy | hy | hy
    · have m2 : dy * R < dy * L := Int.mul_lt_mul_of_neg_left hL hy
      rw [if_neg (by omega : ¬ 0 < dy), if_neg (by omega : ¬ 0 < dy), if_neg (by omega : ¬ 0 < dy), cor_pn m1 m2]
      have e1 : L * -dy = -(dy * L) := by rw [Int.mul_neg, Int.mul_comm]
      have e2 : -lo * dx = -(dx * lo) := by rw [Int.neg_mul, Int.mul_comm]
      have e3 : -hi * dx = -(dx * hi) := by rw [Int.neg_mul, Int.mul_comm]
      have e4 : R * -dy = -(dy * R) := by rw [Int.mul_neg, Int.mul_comm]
      rw [e1, e2, e3, e4]
      omega
    · subst hy
      rw [mx0, mn0]
      simp only [Int.zero_mul, Int.sub_zero, Int.lt_irrefl, if_false, ne_eq, not_true, false_and, and_false, not_false_iff, true_and, true_or, or_true, and_true]
      have s1 : dx * lo < 0 ↔ lo < 0 := by
        constructor
        · intro z; rcases Int.lt_or_le lo 0 with q | q
          · exact q
          · have := Int.mul_nonneg (Int.le_of_lt hx) q; omega
        · intro z; exact Int.mul_neg_of_pos_of_neg hx z
      have s2 : 0 < dx * hi ↔ 0 < hi := by
        constructor
        · intro z; rcases Int.lt_or_le 0 hi with q | q
          · exact q
          · have := Int.mul_nonpos_of_nonneg_of_nonpos (Int.le_of_lt hx) q; omega
        · intro z; exact Int.mul_pos hx z
      omega
    · have m2 : dy * L < dy * R := Int.mul_lt_mul_of_pos_left hL hy
      rw [if_pos hy, if_pos hy, if_pos hy, cor_pp m1 m2]
      have e1 : L * dy = dy * L := Int.mul_comm _ _
      have e2 : hi * dx = dx * hi := Int.mul_comm _ _
      have e3 : lo * dx = dx * lo := Int.mul_comm _ _
      have e4 : R * dy = dy * R := Int.mul_comm _ _
      rw [e1, e2, e3, e4]
      omega
theorem ent_S (l : Ln) (a b c e : Int) : entZ l a b c e ↔ entS (l.2.2.1 - l.1) (l.2.2.2 - l.2.1) (a - l.1) (c - l.1) (b - l.2.1) (e - l.2.1) := by
  unfold entZ entS sdL sd
  omega
