/-! pure geometry: what the two sides say of lines is the same -/
theorem on_near {l : Ln} {x y g : Int} (h : cmL l x y 0 = 0) (hg : 0 < g) : cmL l x y g < 0 := by
  have q := Int.mul_pos hg hg
  unfold cmL cmS at *
  by_cases h1 : al l.1 l.2.1 l.2.2.1 l.2.2.2 x y ≤ 0
  · rw [if_pos h1] at *; omega
  · rw [if_neg h1] at *
    by_cases h2 : al l.1 l.2.1 l.2.2.1 l.2.2.2 l.2.2.1 l.2.2.2 ≤ al l.1 l.2.1 l.2.2.1 l.2.2.2 x y
    · rw [if_pos h2] at *; omega
    · rw [if_neg h2] at *
      have q2 := Int.mul_pos q (show 0 < al l.1 l.2.1 l.2.2.1 l.2.2.2 l.2.2.1 l.2.2.2 by omega)
      have e : (0 : Int) * 0 * al l.1 l.2.1 l.2.2.1 l.2.2.2 l.2.2.1 l.2.2.2 = 0 := by simp
      rw [e] at h
      omega
def meetZ (l m : Ln) : Prop := (cmL m l.1 l.2.1 0 = 0 ∨ cmL m l.2.2.1 l.2.2.2 0 = 0 ∨ cmL l m.1 m.2.1 0 = 0 ∨ cmL l m.2.2.1 m.2.2.2 0 = 0) ∨ cutZ l m
theorem near_meet (l m : Ln) (g : Int) : nearZ l m g ↔ (0 < g ∧ (meetZ l m ∨ cmL m l.1 l.2.1 g < 0 ∨ cmL m l.2.2.1 l.2.2.2 g < 0 ∨ cmL l m.1 m.2.1 g < 0 ∨ cmL l m.2.2.1 m.2.2.2 g < 0)) := by
  unfold nearZ meetZ
  constructor
  · rintro ⟨hg, h | h | h | h | h⟩
    · exact ⟨hg, Or.inl (Or.inr h)⟩
    · exact ⟨hg, Or.inr (Or.inr (Or.inr (Or.inl h)))⟩
    · exact ⟨hg, Or.inr (Or.inr (Or.inr (Or.inr h)))⟩
    · exact ⟨hg, Or.inr (Or.inl h)⟩
    · exact ⟨hg, Or.inr (Or.inr (Or.inl h))⟩
  · rintro ⟨hg, ((h | h | h | h) | h) | h | h | h | h⟩
    · exact ⟨hg, Or.inr (Or.inr (Or.inr (Or.inl (on_near h hg))))⟩
    · exact ⟨hg, Or.inr (Or.inr (Or.inr (Or.inr (on_near h hg))))⟩
    · exact ⟨hg, Or.inr (Or.inl (on_near h hg))⟩
    · exact ⟨hg, Or.inr (Or.inr (Or.inl (on_near h hg)))⟩
    · exact ⟨hg, Or.inl h⟩
    · exact ⟨hg, Or.inr (Or.inr (Or.inr (Or.inl h)))⟩
    · exact ⟨hg, Or.inr (Or.inr (Or.inr (Or.inr h)))⟩
    · exact ⟨hg, Or.inr (Or.inl h)⟩
    · exact ⟨hg, Or.inr (Or.inr (Or.inl h))⟩
theorem sc_p {N dx a b u v : Int} (hN : 0 < N) (hd : 0 < dx) (ha : a * dx = N * u) (hb : b * dx = N * v) : a < b ↔ u < v := by
  constructor
  · intro h
    have h1 : a * dx < b * dx := Int.mul_lt_mul_of_pos_right h hd
    rw [ha, hb] at h1
    exact Int.lt_of_mul_lt_mul_left h1 (by omega)
  · intro h
    have h1 : N * u < N * v := Int.mul_lt_mul_of_pos_left h hN
    rw [← ha, ← hb] at h1
    exact Int.lt_of_mul_lt_mul_right h1 (by omega)
theorem sc_n {N dx a b u v : Int} (hN : 0 < N) (hd : dx < 0) (ha : a * dx = N * u) (hb : b * dx = N * v) : a < b ↔ v < u := by
  have h := sc_p (N := N) (dx := -dx) (a := a) (b := b) (u := -u) (v := -v) hN (by omega) (by rw [Int.mul_neg, Int.mul_neg, ha]) (by rw [Int.mul_neg, Int.mul_neg, hb])
  rw [h]; omega
theorem mm_iff (A C P R : Int) : (max A (min P R) < min C (max P R)) ↔ (A < C ∧ (A < P ∨ A < R) ∧ (P < C ∨ R < C) ∧ (P < R ∨ R < P)) := by omega
theorem seg_p {X1 X2 P R a b N : Int} (hX : X1 < X2) (hN : 0 < N) (k1 : 0 < a ↔ X1 < P) (k2 : 0 < b ↔ X1 < R) (k3 : a < N ↔ P < X2) (k4 : b < N ↔ R < X2) (k5 : a < b ↔ P < R) (k6 : b < a ↔ R < P) : (max (min X1 X2) (min P R) < min (max X1 X2) (max P R)) ↔ max 0 (min a b) < min N (max a b) := by
  rw [show min X1 X2 = X1 by omega, show max X1 X2 = X2 by omega, mm_iff, mm_iff, k1, k2, k3, k4, k5, k6]
  exact ⟨fun h => ⟨hN, h.2⟩, fun h => ⟨hX, h.2⟩⟩
theorem seg_n {X1 X2 P R a b N : Int} (hX : X2 < X1) (hN : 0 < N) (k1 : 0 < a ↔ P < X1) (k2 : 0 < b ↔ R < X1) (k3 : a < N ↔ X2 < P) (k4 : b < N ↔ X2 < R) (k5 : a < b ↔ R < P) (k6 : b < a ↔ P < R) : (max (min X1 X2) (min P R) < min (max X1 X2) (max P R)) ↔ max 0 (min a b) < min N (max a b) := by
  rw [show min X1 X2 = X2 by omega, show max X1 X2 = X1 by omega, mm_iff, mm_iff, k1, k2, k3, k4, k5, k6]
  exact ⟨fun h => ⟨hN, h.2.2.1, h.2.1, h.2.2.2.symm⟩, fun h => ⟨hX, h.2.2.1, h.2.1, h.2.2.2.symm⟩⟩
/-- the model's way: both on one straight line, with more than a place in common -/
def overM (l m : Ln) : Prop := sdL l m.1 m.2.1 = 0 ∧ sdL l m.2.2.1 m.2.2.2 = 0 ∧ sdL m l.1 l.2.1 = 0 ∧ sdL m l.2.2.1 l.2.2.2 = 0 ∧ ¬ (l.1 = l.2.2.1 ∧ l.2.1 = l.2.2.2) ∧ ¬ (m.1 = m.2.2.1 ∧ m.2.1 = m.2.2.2) ∧ ((l.1 ≠ l.2.2.1 ∧ max (min l.1 l.2.2.1) (min m.1 m.2.2.1) < min (max l.1 l.2.2.1) (max m.1 m.2.2.1)) ∨ (l.1 = l.2.2.1 ∧ max (min l.2.1 l.2.2.2) (min m.2.1 m.2.2.2) < min (max l.2.1 l.2.2.2) (max m.2.1 m.2.2.2)))
theorem lg_id (dx dy ux uy vx vy : Int) : (dx * dx + dy * dy) * (ux * vy - uy * vx) = (dx * ux + dy * uy) * (dx * vy - dy * vx) - (dx * uy - dy * ux) * (dx * vx + dy * vy) := by grind
theorem over_iff (l m : Ln) : overM l m ↔ overZ l m := by
  obtain ⟨x1, y1, x2, y2⟩ := l
  obtain ⟨p, q, r, s⟩ := m
  unfold overM overZ sdL
  dsimp only
  by_cases hs1 : sd x1 y1 x2 y2 p q = 0
  case neg => constructor <;> intro h <;> exact absurd h.1 hs1
  by_cases hs2 : sd x1 y1 x2 y2 r s = 0
  case neg => constructor <;> intro h <;> exact absurd h.2.1 hs2
  obtain ⟨dx, hdx⟩ : ∃ dx, dx = x2 - x1 := ⟨_, rfl⟩
  obtain ⟨dy, hdy⟩ : ∃ dy, dy = y2 - y1 := ⟨_, rfl⟩
  obtain ⟨N, hNe⟩ : ∃ N, N = dx * dx + dy * dy := ⟨_, rfl⟩
  obtain ⟨a, ha⟩ : ∃ a, a = al x1 y1 x2 y2 p q := ⟨_, rfl⟩
  obtain ⟨b, hb⟩ : ∃ b, b = al x1 y1 x2 y2 r s := ⟨_, rfl⟩
  have hN2 : al x1 y1 x2 y2 x2 y2 = N := by rw [hNe, hdx, hdy]; rfl
  rw [hN2, ← ha, ← hb]
  have t1 : dx * (q - y1) - dy * (p - x1) = 0 := by rw [hdx, hdy]; exact hs1
  have t2 : dx * (s - y1) - dy * (r - x1) = 0 := by rw [hdx, hdy]; exact hs2
  have a1 : a = dx * (p - x1) + dy * (q - y1) := by rw [ha, hdx, hdy]; rfl
  have b1 : b = dx * (r - x1) + dy * (s - y1) := by rw [hb, hdx, hdy]; rfl
  have ax : a * dx = N * (p - x1) := by rw [a1, hNe]; grind
  have ay : a * dy = N * (q - y1) := by rw [a1, hNe]; grind
  have bx : b * dx = N * (r - x1) := by rw [b1, hNe]; grind
  have by' : b * dy = N * (s - y1) := by rw [b1, hNe]; grind
  have qx := sq_nn dx
  have qy := sq_nn dy
  by_cases hN : N = 0
  · have f1 : dx = 0 := by rcases Int.mul_eq_zero.mp (show dx * dx = 0 by omega) with h | h <;> exact h
    have f2 : dy = 0 := by rcases Int.mul_eq_zero.mp (show dy * dy = 0 by omega) with h | h <;> exact h
    rw [f1, f2] at a1 b1
    simp only [Int.zero_mul, Int.add_zero] at a1 b1
    constructor
    · intro h; exact absurd ⟨by omega, by omega⟩ h.2.2.2.2.1
    · intro h; omega
  · have hNp : 0 < N := by omega
    have nd : ¬ (x1 = x2 ∧ y1 = y2) := by
      rintro ⟨h1, h2⟩
      have f1 : dx = 0 := by omega
      have f2 : dy = 0 := by omega
      rw [f1, f2] at hNe
      simp at hNe
      exact hN hNe
    have c1 : sd p q r s x1 y1 = 0 := by
      have id1 := lg_id dx dy (p - x1) (q - y1) (r - x1) (s - y1)
      rw [t1, t2, ← hNe] at id1
      simp only [Int.mul_zero, Int.zero_mul, Int.sub_self] at id1
      have e : sd p q r s x1 y1 = (p - x1) * (s - y1) - (q - y1) * (r - x1) := by unfold sd; grind
      rw [e]
      rcases Int.mul_eq_zero.mp id1 with h | h
      · exact absurd h hN
      · exact h
    have c2 : sd p q r s x2 y2 = 0 := by
      have e : sd p q r s x2 y2 = sd p q r s x1 y1 - ((dx * (s - y1) - dy * (r - x1)) - (dx * (q - y1) - dy * (p - x1))) := by rw [hdx, hdy]; unfold sd; grind
      rw [e, c1, t1, t2]; simp
    have mk : (¬ (p = r ∧ q = s) ∧ ((x1 ≠ x2 ∧ max (min x1 x2) (min p r) < min (max x1 x2) (max p r)) ∨ (x1 = x2 ∧ max (min y1 y2) (min q s) < min (max y1 y2) (max q s)))) ↔ max 0 (min a b) < min N (max a b) := by
      by_cases hx : x1 = x2
      · have f1 : dx = 0 := by omega
        have hyn : dy ≠ 0 := fun z => nd ⟨hx, by omega⟩
        rw [f1] at t1 t2
        simp only [Int.zero_mul, Int.zero_sub] at t1 t2
        have pz : p = x1 := by
          rcases Int.mul_eq_zero.mp (show dy * (p - x1) = 0 by omega) with h | h
          · exact absurd h hyn
          · omega
        have rz : r = x1 := by
          rcases Int.mul_eq_zero.mp (show dy * (r - x1) = 0 by omega) with h | h
          · exact absurd h hyn
          · omega
        have main : (max (min y1 y2) (min q s) < min (max y1 y2) (max q s)) ↔ max 0 (min a b) < min N (max a b) := by
          rcases Int.lt_or_lt_of_ne hyn with hd | hd
          · refine seg_n (by omega) hNp ((sc_n hNp hd (show (0 : Int) * dy = N * 0 by simp) ay).trans ?_) ((sc_n hNp hd (show (0 : Int) * dy = N * 0 by simp) by').trans ?_) ((sc_n hNp hd ay (show N * dy = N * dy from rfl)).trans ?_) ((sc_n hNp hd by' (show N * dy = N * dy from rfl)).trans ?_) ((sc_n hNp hd ay by').trans ?_) ((sc_n hNp hd by' ay).trans ?_)
            all_goals (clear ay by' ax bx t1 t2 a1 b1 hNe qx qy; omega)
          · refine seg_p (by omega) hNp ((sc_p hNp hd (show (0 : Int) * dy = N * 0 by simp) ay).trans ?_) ((sc_p hNp hd (show (0 : Int) * dy = N * 0 by simp) by').trans ?_) ((sc_p hNp hd ay (show N * dy = N * dy from rfl)).trans ?_) ((sc_p hNp hd by' (show N * dy = N * dy from rfl)).trans ?_) ((sc_p hNp hd ay by').trans ?_) ((sc_p hNp hd by' ay).trans ?_)
            all_goals (clear ay by' ax bx t1 t2 a1 b1 hNe qx qy; omega)
        constructor
        · rintro ⟨_, ⟨h, _⟩ | ⟨_, h⟩⟩
          · exact absurd hx h
          · exact main.mp h
        · intro h
          have h2 := main.mpr h
          refine ⟨fun z => ?_, Or.inr ⟨hx, h2⟩⟩
          rw [z.2] at h2
          clear ay by' ax bx t1 t2 a1 b1 hNe qx qy main h
          omega
      · have hxn : dx ≠ 0 := by omega
        have main : (max (min x1 x2) (min p r) < min (max x1 x2) (max p r)) ↔ max 0 (min a b) < min N (max a b) := by
          rcases Int.lt_or_lt_of_ne hxn with hd | hd
          · refine seg_n (by omega) hNp ((sc_n hNp hd (show (0 : Int) * dx = N * 0 by simp) ax).trans ?_) ((sc_n hNp hd (show (0 : Int) * dx = N * 0 by simp) bx).trans ?_) ((sc_n hNp hd ax (show N * dx = N * dx from rfl)).trans ?_) ((sc_n hNp hd bx (show N * dx = N * dx from rfl)).trans ?_) ((sc_n hNp hd ax bx).trans ?_) ((sc_n hNp hd bx ax).trans ?_)
            all_goals (clear ay by' ax bx t1 t2 a1 b1 hNe qx qy; omega)
          · refine seg_p (by omega) hNp ((sc_p hNp hd (show (0 : Int) * dx = N * 0 by simp) ax).trans ?_) ((sc_p hNp hd (show (0 : Int) * dx = N * 0 by simp) bx).trans ?_) ((sc_p hNp hd ax (show N * dx = N * dx from rfl)).trans ?_) ((sc_p hNp hd bx (show N * dx = N * dx from rfl)).trans ?_) ((sc_p hNp hd ax bx).trans ?_) ((sc_p hNp hd bx ax).trans ?_)
            all_goals (clear ay by' ax bx t1 t2 a1 b1 hNe qx qy; omega)
        constructor
        · rintro ⟨_, ⟨_, h⟩ | ⟨h, _⟩⟩
          · exact main.mp h
          · exact absurd h hx
        · intro h
          have h2 := main.mpr h
          refine ⟨fun z => ?_, Or.inl ⟨hx, h2⟩⟩
          rw [z.1] at h2
          clear ay by' ax bx t1 t2 a1 b1 hNe qx qy main h
          omega
    constructor
    · intro h
      exact ⟨hs1, hs2, mk.mp ⟨h.2.2.2.2.2.1, h.2.2.2.2.2.2⟩⟩
    · intro h
      have k := mk.mpr h.2.2
      exact ⟨hs1, hs2, c1, c2, nd, k.1, k.2⟩
