/-! textures: the pure side -/
def okA (T U : Nat → Nat → Prop) (n : Nat) (f : Nat → Nat) : Prop := ∀ b, b < n → f b < 5 ∧ ∀ a, a < b → T a b → U (f a) (f b)
def lexlt (a n : Nat) (f g : Nat → Nat) : Prop := ∃ b, a ≤ b ∧ b < n ∧ (∀ c, a ≤ c → c < b → f c = g c) ∧ f b < g b
def lexle (a n : Nat) (f g : Nat → Nat) : Prop := (∀ c, a ≤ c → c < n → f c = g c) ∨ lexlt a n f g
theorem lexle_total (a n : Nat) (f g : Nat → Nat) : lexle a n f g ∨ lexlt a n g f := by
  by_cases h : ∃ b, a ≤ b ∧ b < n ∧ f b ≠ g b
  · obtain ⟨b, hb⟩ := h
    have key : ∀ m b, b ≤ m → a ≤ b → b < n → f b ≠ g b → lexle a n f g ∨ lexlt a n g f := by
      intro m
      induction m with
      | zero =>
        intro b h1 h2 h3 h4
        have : b = 0 := by omega
        subst this
        rcases Nat.lt_or_gt_of_ne h4 with q | q
        · exact Or.inl (Or.inr ⟨0, h2, h3, fun c _ hc => by omega, q⟩)
        · exact Or.inr ⟨0, h2, h3, fun c _ hc => by omega, q⟩
      | succ m ih =>
        intro b h1 h2 h3 h4
        by_cases hx : ∃ c, a ≤ c ∧ c < b ∧ f c ≠ g c
        · obtain ⟨c, c1, c2, c3⟩ := hx
          exact ih c (by omega) c1 (by omega) c3
        · have hx2 : ∀ c, a ≤ c → c < b → f c = g c := fun c c1 c2 => Classical.byContradiction (fun c3 => hx ⟨c, c1, c2, c3⟩)
          rcases Nat.lt_or_gt_of_ne h4 with q | q
          · exact Or.inl (Or.inr ⟨b, h2, h3, hx2, q⟩)
          · exact Or.inr ⟨b, h2, h3, fun c c1 c2 => (hx2 c c1 c2).symm, q⟩
    exact key b b (Nat.le_refl b) hb.1 hb.2.1 hb.2.2
  · exact Or.inl (Or.inl (fun c h1 h2 => Classical.byContradiction (fun h3 => h ⟨c, h1, h2, h3⟩)))
theorem lexlt_irr {a n : Nat} {f g : Nat → Nat} (h : lexlt a n f g) (h2 : lexle a n g f) : False := by
  obtain ⟨b, b1, b2, b3, b4⟩ := h
  rcases h2 with h2 | ⟨c, c1, c2, c3, c4⟩
  · have := h2 b b1 b2; omega
  · rcases Nat.lt_trichotomy b c with q | q | q
    · have := c3 b b1 q; omega
    · subst q; omega
    · have := b3 c c1 q; omega
theorem lexle_anti {a n : Nat} {f g : Nat → Nat} (h : lexle a n f g) (h2 : lexle a n g f) : ∀ c, a ≤ c → c < n → f c = g c := by
  rcases h with h | h
  · exact h
  · exact absurd h2 (fun z => lexlt_irr h z)
theorem lexlt_tr {a n : Nat} {f g k : Nat → Nat} (h : lexlt a n f g) (h2 : lexle a n g k) : lexlt a n f k := by
  obtain ⟨b, b1, b2, b3, b4⟩ := h
  rcases h2 with h2 | ⟨c, c1, c2, c3, c4⟩
  · exact ⟨b, b1, b2, fun c x y => (b3 c x y).trans (h2 c x (by omega)), by rw [← h2 b b1 b2]; exact b4⟩
  · rcases Nat.lt_trichotomy b c with q | q | q
    · exact ⟨b, b1, b2, fun e x y => (b3 e x y).trans (c3 e x (by omega)), by rw [← c3 b b1 q]; exact b4⟩
    · subst q; exact ⟨b, b1, b2, fun e x y => (b3 e x y).trans (c3 e x y), by omega⟩
    · exact ⟨c, c1, c2, fun e x y => (b3 e x (by omega)).trans (c3 e x y), by rw [b3 c c1 q]; exact c4⟩
theorem lexle_tr {a n : Nat} {f g k : Nat → Nat} (h : lexle a n f g) (h2 : lexle a n g k) : lexle a n f k := by
  rcases h with h | h
  · rcases h2 with h2 | ⟨c, c1, c2, c3, c4⟩
    · exact Or.inl (fun c x y => (h c x y).trans (h2 c x y))
    · exact Or.inr ⟨c, c1, c2, fun e x y => (h e x (by omega)).trans (c3 e x y), by rw [h c c1 c2]; exact c4⟩
  · exact Or.inr (lexlt_tr h h2)
/-- from an area on, with what is open -/
def CpA (T U O : Nat → Nat → Prop) (a n : Nat) (f : Nat → Nat) : Prop := ∀ b, a ≤ b → b < n → f b < 5 ∧ O b (f b) ∧ ∀ c, a ≤ c → c < b → T c b → U (f c) (f b)
def nrw (T U O : Nat → Nat → Prop) (a n t : Nat) (b u : Nat) : Prop := O b u ∧ b ≠ a ∧ (a < b → b < n → T a b → U t u)
theorem CpA.mono {T U O O' : Nat → Nat → Prop} {a n : Nat} {f : Nat → Nat} (h : CpA T U O a n f) (hO : ∀ b u, b < n → u < 5 → O b u → O' b u) : CpA T U O' a n f := fun b h1 h2 => ⟨(h b h1 h2).1, hO _ _ h2 (h b h1 h2).1 (h b h1 h2).2.1, (h b h1 h2).2.2⟩
theorem CpA.down {T U O : Nat → Nat → Prop} {a n : Nat} {f : Nat → Nat} (h : CpA T U O a n f) (ha : a < n) : f a < 5 ∧ O a (f a) ∧ CpA T U (nrw T U O a n (f a)) (a + 1) n f := by
  refine ⟨(h a (Nat.le_refl a) ha).1, (h a (Nat.le_refl a) ha).2.1, fun b h1 h2 => ?_⟩
  have q := h b (by omega) h2
  exact ⟨q.1, ⟨q.2.1, by omega, fun _ _ z => q.2.2 a (Nat.le_refl a) (by omega) z⟩, fun c c1 c2 => q.2.2 c (by omega) c2⟩
theorem CpA.up {T U O : Nat → Nat → Prop} {a n : Nat} {f : Nat → Nat} (ha : a < n) (h5 : f a < 5) (hO : O a (f a)) (h : CpA T U (nrw T U O a n (f a)) (a + 1) n f) : CpA T U O a n f := by
  intro b h1 h2
  rcases Nat.lt_or_ge a b with q | q
  · have z := h b q h2
    refine ⟨z.1, z.2.1.1, fun c c1 c2 => ?_⟩
    rcases Nat.lt_or_ge a c with p | p
    · exact z.2.2 c p c2
    · have : c = a := by omega
      subst this
      exact z.2.1.2.2 q h2
  · have : b = a := by omega
    subst this
    exact ⟨h5, hO, fun c c1 c2 => by omega⟩
/-- the least of all that can be -/
def LL (T U O : Nat → Nat → Prop) (a n : Nat) (f : Nat → Nat) : Prop := CpA T U O a n f ∧ ∀ g, CpA T U O a n g → lexle a n f g
theorem LL.up {T U O : Nat → Nat → Prop} {a n : Nat} {f : Nat → Nat} (ha : a < n) (h5 : f a < 5) (hO : O a (f a)) (h : LL T U (nrw T U O a n (f a)) (a + 1) n f) (hn : ∀ g, CpA T U O a n g → f a ≤ g a) : LL T U O a n f := by
  refine ⟨CpA.up ha h5 hO h.1, fun g hg => ?_⟩
  rcases Nat.lt_or_ge (f a) (g a) with q | q
  · exact Or.inr ⟨a, Nat.le_refl a, ha, fun c c1 c2 => by omega, q⟩
  · have e : g a = f a := Nat.le_antisymm q (hn g hg)
    have g2 := (hg.down ha).2.2
    rw [e] at g2
    rcases h.2 g g2 with z | ⟨b, b1, b2, b3, b4⟩
    · refine Or.inl (fun c c1 c2 => ?_)
      rcases Nat.lt_or_ge a c with p | p
      · exact z c p c2
      · have : c = a := by omega
        rw [this, e]
    · refine Or.inr ⟨b, by omega, b2, fun c c1 c2 => ?_, b4⟩
      rcases Nat.lt_or_ge a c with p | p
      · exact b3 c p c2
      · have : c = a := by omega
        rw [this, e]
/-- how many unlike textures -/
noncomputable def dn (n : Nat) (g : Nat → Nat) : Nat := cN (fun u => ∃ b, b < n ∧ g b = u) 5
def pc5 (m : Nat) : Nat := (bI (nI m) 0).toNat + (bI (nI m) 1).toNat + (bI (nI m) 2).toNat + (bI (nI m) 3).toNat + (bI (nI m) 4).toNat
theorem cN5 (h : Nat → Bool) : cN (fun u => h u = true) 5 = (h 0).toNat + (h 1).toNat + (h 2).toNat + (h 3).toNat + (h 4).toNat := by
  have s : ∀ n, cN (fun u => h u = true) (n + 1) = cN (fun u => h u = true) n + (h n).toNat := by
    intro n
    cases e : h n
    · rw [cN_f (p := fun u => h u = true) (by rw [e]; decide)]; rfl
    · rw [cN_t (p := fun u => h u = true) e]; rfl
  rw [s 4, s 3, s 2, s 1, s 0]
  show 0 + _ + _ + _ + _ + _ = _
  rw [Nat.zero_add]
theorem pc5_cN (m : Nat) : pc5 m = cN (fun u => bI (nI m) u = true) 5 := (cN5 (fun u => bI (nI m) u)).symm
theorem mask5B : ∀ h0 h1 h2 h3 h4 : Bool, ∃ m, m < 32 ∧ bI (nI m) 0 = h0 ∧ bI (nI m) 1 = h1 ∧ bI (nI m) 2 = h2 ∧ bI (nI m) 3 = h3 ∧ bI (nI m) 4 = h4 := by
  intro h0 h1 h2 h3 h4
  refine ⟨h0.toNat + 2 * h1.toNat + 4 * h2.toNat + 8 * h3.toNat + 16 * h4.toNat, ?_⟩
  revert h0 h1 h2 h3 h4
  decide +kernel
theorem mask5 (p : Nat → Prop) : ∃ m, m < 32 ∧ ∀ u, u < 5 → (bI (nI m) u = true ↔ p u) := by
  have := Classical.propDecidable
  obtain ⟨m, hm, e0, e1, e2, e3, e4⟩ := mask5B (decide (p 0)) (decide (p 1)) (decide (p 2)) (decide (p 3)) (decide (p 4))
  refine ⟨m, hm, fun u hu => ?_⟩
  match u, hu with
  | 0, _ => rw [e0]; exact decide_eq_true_iff
  | 1, _ => rw [e1]; exact decide_eq_true_iff
  | 2, _ => rw [e2]; exact decide_eq_true_iff
  | 3, _ => rw [e3]; exact decide_eq_true_iff
  | 4, _ => rw [e4]; exact decide_eq_true_iff
theorem cN_mono {p q : Nat → Prop} {n : Nat} (h : ∀ i, i < n → p i → q i) : cN p n ≤ cN q n := by
  induction n with
  | zero => exact Nat.le_refl _
  | succ n ih =>
    have e := ih (fun i hi => h i (by omega))
    by_cases hp : p n
    · rw [cN_t hp, cN_t (h n (by omega) hp)]; omega
    · rw [cN_f hp]
      by_cases hq : q n
      · rw [cN_t hq]; omega
      · rw [cN_f hq]; exact e
/-- what both find: nothing, or the fewest textures and of those the least -/
def LayO (T U : Nat → Nat → Prop) (n s : Nat) (f : Nat → Nat) : Prop := okA T U n f ∧ dn n f = s ∧ ∀ g, okA T U n g → s < dn n g ∨ (dn n g = s ∧ lexle 0 n f g)
theorem LayO.uni {T U : Nat → Nat → Prop} {n s s' : Nat} {f f' : Nat → Nat} (h : LayO T U n s f) (h' : LayO T U n s' f') : s = s' ∧ ∀ c, c < n → f c = f' c := by
  have h1 := h.2.2 f' h'.1
  have h2 := h'.2.2 f h.1
  have e1 := h.2.1
  have e2 := h'.2.1
  have es : s = s' := by omega
  refine ⟨es, fun c hc => ?_⟩
  have l1 : lexle 0 n f f' := by
    rcases h1 with q | q
    · omega
    · exact q.2
  have l2 : lexle 0 n f' f := by
    rcases h2 with q | q
    · omega
    · exact q.2
  exact lexle_anti l1 l2 c (Nat.zero_le c) hc
def inM (m n : Nat) (f : Nat → Nat) : Prop := ∀ b, b < n → bI (nI m) (f b) = true
theorem okA_CpA {T U : Nat → Nat → Prop} {n m : Nat} {f : Nat → Nat} : (okA T U n f ∧ inM m n f) ↔ CpA T U (fun b u => b < n ∧ bI (nI m) u = true) 0 n f := by
  constructor
  · rintro ⟨h1, h2⟩ b _ hb
    exact ⟨(h1 b hb).1, ⟨hb, h2 b hb⟩, fun c _ hc => (h1 b hb).2 c hc⟩
  · intro h
    exact ⟨fun b hb => ⟨(h b (Nat.zero_le b) hb).1, fun a ha => (h b (Nat.zero_le b) hb).2.2 a (Nat.zero_le a) ha⟩, fun b hb => (h b (Nat.zero_le b) hb).2.1.2⟩
/-- sizes that can't be -/
def noSz (T U : Nat → Nat → Prop) (n s : Nat) : Prop := ∀ m, m < 32 → pc5 m = s → ∀ f, okA T U n f → ¬ inM m n f
theorem dn_mask {n : Nat} {g : Nat → Nat} (h5 : ∀ b, b < n → g b < 5) : ∃ m, m < 32 ∧ pc5 m = dn n g ∧ inM m n g := by
  obtain ⟨m, hm, hp⟩ := mask5 (fun u => ∃ b, b < n ∧ g b = u)
  refine ⟨m, hm, ?_, fun b hb => (hp _ (h5 b hb)).mpr ⟨b, hb, rfl⟩⟩
  rw [pc5_cN]
  exact cN_congr hp
theorem dn_le {n m : Nat} {g : Nat → Nat} (hi : inM m n g) : dn n g ≤ pc5 m := by
  rw [pc5_cN]
  refine cN_mono (fun u _ hu => ?_)
  obtain ⟨b, hb, rfl⟩ := hu
  exact hi b hb
theorem layO_of {T U : Nat → Nat → Prop} {n s : Nat} {f : Nat → Nat} {m : Nat} (hm : m < 32) (hs : pc5 m = s) (hf : okA T U n f) (hi : inM m n f) (hlo : ∀ s', s' < s → noSz T U n s') (hle : ∀ m', m' < 32 → pc5 m' = s → ∀ g, okA T U n g → inM m' n g → lexle 0 n f g) : LayO T U n s f := by
  have lo : ∀ g, okA T U n g → s ≤ dn n g := by
    intro g hg
    obtain ⟨mg, h1, h2, h3⟩ := dn_mask (n := n) (g := g) (fun b hb => (hg b hb).1)
    rcases Nat.lt_or_ge (dn n g) s with q | q
    · exact absurd h3 (hlo _ q mg h1 h2 g hg)
    · exact q
  refine ⟨hf, ?_, fun g hg => ?_⟩
  · have := lo f hf
    have := dn_le hi
    omega
  · rcases Nat.lt_or_ge s (dn n g) with q | q
    · exact Or.inl q
    · have e : dn n g = s := Nat.le_antisymm q (lo g hg)
      obtain ⟨mg, h1, h2, h3⟩ := dn_mask (n := n) (g := g) (fun b hb => (hg b hb).1)
      exact Or.inr ⟨e, hle mg h1 (h2.trans e) g hg h3⟩
theorem layN_of {T U : Nat → Nat → Prop} {n : Nat} (h : ∀ s, s < 6 → noSz T U n s) (g : Nat → Nat) : ¬ okA T U n g := by
  intro hg
  obtain ⟨mg, h1, h2, h3⟩ := dn_mask (n := n) (g := g) (fun b hb => (hg b hb).1)
  have := cN_le (fun u => ∃ b, b < n ∧ g b = u) 5
  exact h (dn n g) (by unfold dn; omega) mg h1 h2 g hg h3
