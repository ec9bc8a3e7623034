/-! keep: the pure side -/
def fS (x : Int32) : Nat → Nat := fun i => if bI x i = true then 0 else 1
theorem fS_0 {x : Int32} {i : Nat} : fS x i = 0 ↔ bI x i = true := by unfold fS; split <;> simp [*]
theorem fS_lt {x : Int32} {i : Nat} : fS x i < 1 ↔ bI x i = true := by unfold fS; split <;> simp [*]
theorem fS_le (x : Int32) (i : Nat) : fS x i ≤ 1 := by unfold fS; split <;> omega
theorem bI_nI {m u : Nat} (hm : m < 4294967296) : bI (nI m) u = m.testBit u := by rw [bI_nat, pk_tn hm, Nat.testBit_eq_decide_div_mod_eq]
theorem maskN (p : Nat → Prop) : ∀ n, ∃ m, m < 2 ^ n ∧ ∀ u, u < n → (m.testBit u = true ↔ p u) := by
  intro n
  induction n with
  | zero => exact ⟨0, by decide, fun u hu => by omega⟩
  | succ n ih =>
    obtain ⟨m, hm, hp⟩ := ih
    have h2 : 2 ^ n < 2 ^ (n + 1) := Nat.pow_lt_pow_right (by decide) (by omega)
    by_cases h : p n
    · refine ⟨m ||| 2 ^ n, Nat.or_lt_two_pow (by omega) h2, fun u hu => ?_⟩
      rw [Nat.testBit_or, Nat.testBit_two_pow]
      by_cases e : u = n
      · subst e; simp [h]
      · have := hp u (by omega)
        rw [decide_eq_false (by omega), Bool.or_false]; exact this
    · refine ⟨m, by omega, fun u hu => ?_⟩
      by_cases e : u = n
      · subst e
        rw [Nat.testBit_lt_two_pow hm]
        simp [h]
      · exact hp u (by omega)
theorem mask12 (p : Nat → Prop) : ∃ m, m < 4096 ∧ ∀ u, u < 12 → (bI (nI m) u = true ↔ p u) := by
  obtain ⟨m, hm, hp⟩ := maskN p 12
  refine ⟨m, hm, fun u hu => ?_⟩
  have : m < 4096 := hm
  rw [bI_nI (by omega)]; exact hp u hu
theorem bI_big {m u : Nat} (hm : m < 4096) (hu : 12 ≤ u) : bI (nI m) u = false := by
  rw [bI_nI (by omega)]
  refine Nat.testBit_lt_two_pow (Nat.lt_of_lt_of_le hm ?_)
  exact Nat.pow_le_pow_right (n := 2) (by decide) hu
/-- the lowest bit in which two sets are unlike -/
theorem first_bit (x a : Int32) : ¬ ((x &&& -x) &&& a) = 0 ↔ ∃ i, i < 32 ∧ bI x i = true ∧ (∀ j, j < i → bI x j = false) ∧ bI a i = true := by
  have hb : ∀ i, i < 32 → bI ((x &&& -x) &&& a) i = (bI x i && (!decide (∃ j, j < i ∧ bI x j = true)) && bI a i) := by
    intro i hi
    rw [bI_and, bI_and]
    have e : bI (-x) i = (bI x i ^^ decide (∃ j, j < i ∧ bI x j = true)) := by
      unfold bI
      rw [Int32.toBitVec_neg, BitVec.getLsbD_neg]
      rw [decide_eq_true hi, Bool.true_and]
    rw [e]
    cases bI x i <;> simp
  constructor
  · intro h
    have h2 : ∃ i, i < 32 ∧ bI ((x &&& -x) &&& a) i = true := by
      apply Classical.byContradiction
      intro hn
      apply h
      apply bI_ext
      intro i hi
      rw [bI_0]
      cases e : bI ((x &&& -x) &&& a) i
      · rfl
      · exact absurd ⟨i, hi, e⟩ hn
    obtain ⟨i, hi, h3⟩ := h2
    rw [hb i hi] at h3
    simp only [Bool.and_eq_true, Bool.not_eq_true', decide_eq_false_iff_not] at h3
    refine ⟨i, hi, h3.1.1, fun j hj => ?_, h3.2⟩
    cases e : bI x j
    · rfl
    · exact absurd ⟨j, hj, e⟩ h3.1.2
  · rintro ⟨i, hi, h1, h2, h3⟩ h
    have h4 := hb i hi
    rw [h, bI_0, h1, h3] at h4
    have : ¬ ∃ j, j < i ∧ bI x j = true := by
      rintro ⟨j, hj, e⟩
      rw [h2 j hj] at e
      exact absurd e (by decide)
    rw [decide_eq_false this] at h4
    exact absurd h4 (by decide)
theorem first_lex {a b : Int32} (ha : ∀ i, 12 ≤ i → bI a i = false) (hb : ∀ i, 12 ≤ i → bI b i = false) : (¬ (((a ^^^ b) &&& -(a ^^^ b)) &&& a) = 0) ↔ lexlt 0 12 (fS a) (fS b) := by
  rw [first_bit]
  constructor
  · rintro ⟨i, hi, h1, h2, h3⟩
    rw [bI_xor, h3] at h1
    have hbi : bI b i = false := by cases e : bI b i <;> simp_all
    have i12 : i < 12 := by
      rcases Nat.lt_or_ge i 12 with q | q
      · exact q
      · rw [ha i q] at h3; exact absurd h3 (by decide)
    refine ⟨i, Nat.zero_le i, i12, fun c _ hc => ?_, ?_⟩
    · have := h2 c hc
      rw [bI_xor] at this
      have e : bI a c = bI b c := by cases e1 : bI a c <;> cases e2 : bI b c <;> simp_all
      unfold fS; rw [e]
    · rw [fS_0.mpr h3]; unfold fS; rw [hbi]; decide
  · rintro ⟨i, _, i12, h2, h3⟩
    have ha1 : bI a i = true := fS_0.mp (by have := fS_le b i; omega)
    have hb1 : bI b i = false := by
      cases e : bI b i
      · rfl
      · have := fS_0.mpr e; omega
    refine ⟨i, by omega, by rw [bI_xor, ha1, hb1]; rfl, fun j hj => ?_, ha1⟩
    have := h2 j (Nat.zero_le j) hj
    rw [bI_xor]
    unfold fS at this
    cases e1 : bI a j <;> cases e2 : bI b j <;> simp_all
/-- sums in both ways -/
theorem vF_lin {wt : Nat → Nat} {f : Nat → Nat} : ∀ (k a : Nat), vF 1 (fun i => wt i * 16 + 1) f a k = 16 * vF 1 wt f a k + vF 1 (fun _ => 1) f a k := by
  intro k
  induction k with
  | zero => intro a; rfl
  | succ k ih =>
    intro a
    rw [vF_s, vF_s, vF_s, ih (a + 1)]
    unfold gn
    dsimp only
    split <;> omega
theorem vF_split {o : Nat} {g f : Nat → Nat} : ∀ (k a : Nat), vF o g f a (k + 1) = vF o g f a k + gn o g f (a + k) := by
  intro k
  induction k with
  | zero => intro a; show gn o g f a + 0 = 0 + gn o g f (a + 0); rw [Nat.add_zero, Nat.zero_add, Nat.add_zero]
  | succ k ih =>
    intro a
    rw [vF_s, ih (a + 1), vF_s, show a + 1 + k = a + (k + 1) by omega, Nat.add_assoc]
theorem vF_ones (x : Int32) : ∀ k, vF 1 (fun _ => 1) (fS x) 0 k = cN (fun i => bI x i = true) k := by
  intro k
  induction k with
  | zero => rfl
  | succ k ih =>
    rw [vF_split, ih, Nat.zero_add]
    unfold gn
    by_cases h : bI x k = true
    · rw [if_pos (fS_lt.mpr h), cN_t (p := fun i => bI x i = true) h]
    · rw [if_neg (fun z => h (fS_lt.mp z)), cN_f (p := fun i => bI x i = true) h]; rfl
theorem vF_one_le (f : Nat → Nat) : vF 1 (fun _ => 1) f 0 12 ≤ 12 := by
  have := vF_le (o := 1) (g := fun _ => 1) (f := f) 12 0 (fun _ _ => Nat.le_refl 1)
  omega
/-- what may be kept: there, all dangers, none near another -/
def KpF (th dg : Nat → Prop) (nr : Nat → Nat → Prop) (f : Nat → Nat) : Prop := (∀ i, i < 12 → f i ≤ 1 ∧ (f i = 0 → th i)) ∧ (∀ i, i < 12 → dg i → f i = 0) ∧ ∀ i j, i < 12 → j < 12 → f i = 0 → f j = 0 → ¬ nr i j
def KpO (th dg : Nat → Prop) (nr : Nat → Nat → Prop) (wt : Nat → Nat) (f : Nat → Nat) : Prop := KpF th dg nr f ∧ ∀ h, KpF th dg nr h → vF 1 (fun i => wt i * 16 + 1) h 0 12 < vF 1 (fun i => wt i * 16 + 1) f 0 12 ∨ (vF 1 (fun i => wt i * 16 + 1) h 0 12 = vF 1 (fun i => wt i * 16 + 1) f 0 12 ∧ lexle 0 12 f h)
theorem KpO.uni {th dg : Nat → Prop} {nr : Nat → Nat → Prop} {wt f f' : Nat → Nat} (h : KpO th dg nr wt f) (h' : KpO th dg nr wt f') : ∀ i, i < 12 → f i = f' i := by
  have a := h.2 f' h'.1
  have b := h'.2 f h.1
  have l1 : lexle 0 12 f f' := by
    rcases a with a | a
    · omega
    · exact a.2
  have l2 : lexle 0 12 f' f := by
    rcases b with b | b
    · omega
    · exact b.2
  exact fun i hi => lexle_anti l1 l2 i (Nat.zero_le i) hi
theorem vF_up {g f : Nat → Nat} {i : Nat} (hf : f i = 1) : ∀ (k a : Nat), a ≤ i → i < a + k → vF 1 g (setF f i 0) a k = vF 1 g f a k + g i := by
  intro k
  induction k with
  | zero => intro a h1 h2; omega
  | succ k ih =>
    intro a h1 h2
    rw [vF_s, vF_s]
    rcases Nat.lt_or_ge a i with q | q
    · rw [ih (a + 1) (by omega) (by omega)]
      unfold gn
      rw [setF_n f (by omega)]
      omega
    · obtain rfl : a = i := by omega
      rw [vF_congr (f := setF f a 0) (f' := f) k (a + 1) (fun x x1 x2 => setF_n f (by omega))]
      unfold gn
      rw [setF_s, hf, if_pos (by omega), if_neg (by omega)]
      omega
/-- the class's choice is the best keeping -/
theorem ChO_KpO {th dg : Nat → Prop} {nr : Nat → Nat → Prop} {wt f : Nat → Nat} {v : Nat} (hs : ∀ i j, nr i j → nr j i) (hirr : ∀ i, ¬ nr i i) (hdt : ∀ i, i < 12 → dg i → th i) (hok : ∀ i j, i < 12 → j < 12 → dg i → dg j → ¬ nr i j) (h : ChO 12 1 (fun i => wt i * 16 + 1) (fun p q => nr p q) (fun q => q < 12 ∧ th q ∧ ∀ w, w < 12 → dg w → ¬ nr w q) v f) : KpO th dg nr wt f ∧ v = vF 1 (fun i => wt i * 16 + 1) f 0 12 := by
  obtain ⟨h1, h2, h3⟩ := h
  have e1 : ∀ i, i * 1 + 0 = i := fun i => by omega
  have val : ∀ i, i < 12 → f i = 0 → (th i ∧ ∀ w, w < 12 → dg w → ¬ nr w i) ∧ ∀ j, j < i → f j = 0 → ¬ nr j i := by
    intro i hi h0
    have z := (h1 i (Nat.zero_le i) hi).2 (by omega)
    rw [h0, e1] at z
    refine ⟨⟨z.1.2.1, z.1.2.2⟩, fun j hj hj0 => ?_⟩
    have y := z.2 j (Nat.zero_le j) hj (by omega)
    rw [hj0, e1] at y
    exact y
  have dang : ∀ i, i < 12 → dg i → f i = 0 := by
    intro i hi hd
    apply Classical.byContradiction
    intro hne
    have hf1 : f i = 1 := by have := (h1 i (Nat.zero_le i) hi).1; omega
    have had : AdF 12 1 (fun p q => nr p q) (fun q => q < 12 ∧ th q ∧ ∀ w, w < 12 → dg w → ¬ nr w q) 0 (setF f i 0) := by
      intro j _ hj
      by_cases e : j = i
      · subst e
        rw [setF_s]
        refine ⟨by omega, fun _ => ?_⟩
        rw [e1]
        refine ⟨⟨hj, hdt j hj hd, fun w hw hdw => hok w j hw hj hdw hd⟩, fun j' _ hj' hj0 => ?_⟩
        rw [setF_n f (by omega)] at hj0 ⊢
        have z : f j' = 0 := by omega
        rw [z, e1]
        exact fun y => (val j' (by omega) z).1.2 j hj hd (hs _ _ y)
      · rw [setF_n f e]
        have z := h1 j (Nat.zero_le j) hj
        refine ⟨z.1, fun hj0 => ⟨(z.2 hj0).1, fun j' _ hj' hj0' => ?_⟩⟩
        by_cases e2 : j' = i
        · subst e2
          rw [setF_s, e1]
          have z0 : f j = 0 := by omega
          rw [z0, e1]
          exact fun y => (val j hj z0).1.2 j' hi hd y
        · rw [setF_n f e2] at hj0' ⊢
          exact (z.2 hj0).2 j' (Nat.zero_le j') hj' hj0'
    have y := h3 _ had
    rw [vF_up hf1 12 0 (Nat.zero_le i) (by omega), h2] at y
    omega
  refine ⟨⟨⟨fun i hi => ⟨(h1 i (Nat.zero_le i) hi).1, fun h0 => (val i hi h0).1.1⟩, dang, fun i j hi hj hi0 hj0 hn => ?_⟩, fun e he => ?_⟩, h2⟩
  · rcases Nat.lt_trichotomy i j with q | q | q
    · exact (val j hj hj0).2 i q hi0 hn
    · subst q
      exact hirr i hn
    · exact (val i hi hi0).2 j q hj0 (hs _ _ hn)
  · rw [← h2]
    refine h3 e (fun i _ hi => ⟨(he.1 i hi).1, fun h0 => ?_⟩)
    have z : e i = 0 := by omega
    rw [z, e1]
    refine ⟨⟨hi, (he.1 i hi).2 z, fun w hw hdw => he.2.2 w i hw hi (he.2.1 w hw hdw) z⟩, fun j _ hj hj0 => ?_⟩
    have z2 : e j = 0 := by omega
    rw [z2, e1]
    exact he.2.2 j i (by omega) hi z2 z
