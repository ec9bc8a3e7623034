/-! spelling: the pure side -/
def LsA (st : Nat → Nat → Prop) (len m : Nat → Nat) (i : Nat) : Prop := m i ≤ m (i + 1) + 1 ∧ (∀ k, k < 10 → st k i → m i ≤ m (i + len k) + 1) ∧ (m i = m (i + 1) + 1 ∨ ∃ k, k < 10 ∧ st k i ∧ m i = m (i + len k) + 1)
def Lst (L : Nat) (st : Nat → Nat → Prop) (len m : Nat → Nat) : Prop := m L = 0 ∧ ∀ i, i < L → LsA st len m i
def SpS (st : Nat → Nat → Prop) (len m : Nat → Nat) (lc ck : Nat → Int32) (i p : Nat) (c : Int32) : Prop := (p = 1 ∧ c = lc i ∧ m i = m (i + 1) + 1 ∧ ∀ k, k < 10 → st k i → m i ≠ m (i + len k) + 1) ∨ ∃ k, k < 10 ∧ st k i ∧ m i = m (i + len k) + 1 ∧ p = len k ∧ c = ck k ∧ (∀ k', k' < 10 → st k' i → m i = m (i + len k') + 1 → len k' ≤ len k) ∧ ∀ k', k' < k → st k' i → m i = m (i + len k') + 1 → len k' < len k
def SpO (L : Nat) (st : Nat → Nat → Prop) (len : Nat → Nat) (lc ck : Nat → Int32) (N : Nat) (cells : Nat → Int32) : Prop := ∃ (m idx : Nat → Nat), Lst L st len m ∧ N = m 0 ∧ idx 0 = 0 ∧ ∀ j, j < N → idx j < L ∧ ∃ p, SpS st len m lc ck (idx j) p (cells j) ∧ idx (j + 1) = idx j + p
def stOK (L : Nat) (st : Nat → Nat → Prop) (len : Nat → Nat) : Prop := ∀ k i, k < 10 → st k i → 2 ≤ len k ∧ i + len k ≤ L
theorem Lst.uni {L : Nat} {st : Nat → Nat → Prop} {len m m' : Nat → Nat} (hs : stOK L st len) (h : Lst L st len m) (h' : Lst L st len m') : ∀ i, i ≤ L → m i = m' i := by
  have key : ∀ e i, i ≤ L → L - i ≤ e → m i = m' i := by
    intro e
    induction e with
    | zero =>
      intro i h1 h2
      rw [show i = L by omega, h.1, h'.1]
    | succ e ih =>
      intro i h1 h2
      rcases Nat.lt_or_ge i L with q | q
      · have a := h.2 i q
        have a' := h'.2 i q
        have e1 := ih (i + 1) (by omega) (by omega)
        have ek : ∀ k, k < 10 → st k i → m (i + len k) = m' (i + len k) := fun k k1 k2 => by
          have := hs k i k1 k2
          exact ih (i + len k) (by omega) (by omega)
        apply Nat.le_antisymm
        · rcases a'.2.2 with z | ⟨k, k1, k2, z⟩
          · have := a.1; omega
          · have := a.2.1 k k1 k2; have := ek k k1 k2; omega
        · rcases a.2.2 with z | ⟨k, k1, k2, z⟩
          · have := a'.1; omega
          · have := a'.2.1 k k1 k2; have := ek k k1 k2; omega
      · rw [show i = L by omega, h.1, h'.1]
  exact fun i hi => key (L - i) i hi (Nat.le_refl _)
theorem Lst.le {L : Nat} {st : Nat → Nat → Prop} {len m : Nat → Nat} (h : Lst L st len m) : ∀ i, i ≤ L → m i ≤ L - i := by
  have key : ∀ e i, i + e = L → m i ≤ e := by
    intro e
    induction e with
    | zero => intro i hi; rw [show i = L by omega, h.1]; exact Nat.le_refl 0
    | succ e ih =>
      intro i hi
      have := (h.2 i (by omega)).1
      have := ih (i + 1) (by omega)
      omega
  exact fun i hi => key (L - i) i (by omega)
theorem SpS.uni {L : Nat} {st : Nat → Nat → Prop} {len m m' : Nat → Nat} {lc ck : Nat → Int32} {i p p' : Nat} {c c' : Int32} (hs : stOK L st len) (hm : ∀ i, i ≤ L → m i = m' i) (hi : i < L) (h : SpS st len m lc ck i p c) (h' : SpS st len m' lc ck i p' c') : p = p' ∧ c = c' := by
  have ek : ∀ k, k < 10 → st k i → m (i + len k) = m' (i + len k) := fun k k1 k2 => hm _ (hs k i k1 k2).2
  have e0 := hm i (by omega)
  rcases h with ⟨h1, h2, h3, h4⟩ | ⟨k, k1, k2, k3, k4, k5, k6, k7⟩
  · rcases h' with ⟨g1, g2, g3, g4⟩ | ⟨q, q1, q2, q3, q4, q5, q6, q7⟩
    · exact ⟨h1.trans g1.symm, h2.trans g2.symm⟩
    · exact absurd (by rw [e0, ek q q1 q2]; exact q3) (h4 q q1 q2)
  · rcases h' with ⟨g1, g2, g3, g4⟩ | ⟨q, q1, q2, q3, q4, q5, q6, q7⟩
    · exact absurd (by rw [← e0, ← ek k k1 k2]; exact k3) (g4 k k1 k2)
    · have a1 := k6 q q1 q2 (by rw [e0, ek q q1 q2]; exact q3)
      have a2 := q6 k k1 k2 (by rw [← e0, ← ek k k1 k2]; exact k3)
      have ekq : k = q := by
        rcases Nat.lt_trichotomy k q with z | z | z
        · have := q7 k z k2 (by rw [← e0, ← ek k k1 k2]; exact k3); omega
        · exact z
        · have := k7 q z q2 (by rw [e0, ek q q1 q2]; exact q3); omega
      subst ekq
      exact ⟨k4.trans q4.symm, k5.trans q5.symm⟩
theorem SpO.uni {L : Nat} {st : Nat → Nat → Prop} {len : Nat → Nat} {lc ck : Nat → Int32} {N N' : Nat} {cells cells' : Nat → Int32} (hs : stOK L st len) (h : SpO L st len lc ck N cells) (h' : SpO L st len lc ck N' cells') : N = N' ∧ ∀ j, j < N → cells j = cells' j := by
  obtain ⟨m, idx, h1, h2, h3, h4⟩ := h
  obtain ⟨m', idx', g1, g2, g3, g4⟩ := h'
  have hm := Lst.uni hs h1 g1
  have eN : N = N' := by rw [h2, g2, hm 0 (Nat.zero_le L)]
  subst eN
  have key : ∀ j, j ≤ N → idx j = idx' j := by
    intro j
    induction j with
    | zero => intro _; rw [h3, g3]
    | succ j ih =>
      intro hj
      obtain ⟨a1, p, a2, a3⟩ := h4 j (by omega)
      obtain ⟨b1, p', b2, b3⟩ := g4 j (by omega)
      rw [← ih (by omega)] at b2 b3
      rw [a3, b3, (SpS.uni hs hm a1 a2 b2).1]
  refine ⟨rfl, fun j hj => ?_⟩
  obtain ⟨a1, p, a2, a3⟩ := h4 j hj
  obtain ⟨b1, p', b2, b3⟩ := g4 j hj
  rw [← key j (by omega)] at b2
  exact (SpS.uni hs hm a1 a2 b2).2
theorem SpO.congr {L : Nat} {st st' : Nat → Nat → Prop} {len len' : Nat → Nat} {lc lc' ck ck' : Nat → Int32} {N : Nat} {cells cells' : Nat → Int32} (h : SpO L st len lc ck N cells) (hs : ∀ k i, k < 10 → i < L → (st k i ↔ st' k i)) (hl : ∀ k i, k < 10 → i < L → st k i → len k = len' k ∧ ck k = ck' k) (hc : ∀ i, i < L → lc i = lc' i) (hcell : ∀ j, j < N → cells j = cells' j) : SpO L st' len' lc' ck' N cells' := by
  obtain ⟨m, idx, h1, h2, h3, h4⟩ := h
  refine ⟨m, idx, ⟨h1.1, fun i hi => ?_⟩, h2, h3, fun j hj => ?_⟩
  · have a := h1.2 i hi
    refine ⟨a.1, fun k k1 k2 => ?_, ?_⟩
    · have z := (hs k i k1 hi).mpr k2
      rw [← (hl k i k1 hi z).1]; exact a.2.1 k k1 z
    · rcases a.2.2 with z | ⟨k, k1, k2, z⟩
      · exact Or.inl z
      · exact Or.inr ⟨k, k1, (hs k i k1 hi).mp k2, by rw [← (hl k i k1 hi k2).1]; exact z⟩
  · obtain ⟨a1, p, a2, a3⟩ := h4 j hj
    refine ⟨a1, p, ?_, a3⟩
    rw [← hcell j hj]
    rcases a2 with ⟨q1, q2, q3, q4⟩ | ⟨k, k1, k2, k3, k4, k5, k6, k7⟩
    · refine Or.inl ⟨q1, by rw [← hc _ a1]; exact q2, q3, fun k k1 k2 => ?_⟩
      have z := (hs k _ k1 a1).mpr k2
      rw [← (hl k _ k1 a1 z).1]; exact q4 k k1 z
    · have ll := fun k k1 k2 => (hl k _ k1 a1 k2).1
      refine Or.inr ⟨k, k1, (hs k _ k1 a1).mp k2, by rw [← ll k k1 k2]; exact k3, by rw [← ll k k1 k2]; exact k4, by rw [← (hl k _ k1 a1 k2).2]; exact k5, fun k' q1 q2 q3 => ?_, fun k' q1 q2 q3 => ?_⟩
      · have z := (hs k' _ q1 a1).mpr q2
        rw [← ll k k1 k2, ← ll k' q1 z]
        exact k6 k' q1 z (by rw [ll k' q1 z]; exact q3)
      · have z := (hs k' _ (by omega) a1).mpr q2
        rw [← ll k k1 k2, ← ll k' (by omega) z]
        exact k7 k' q1 z (by rw [ll k' (by omega) z]; exact q3)
/-- the best step among the first contractions -/
def FSt (st : Nat → Nat → Prop) (len m : Nat → Nat) (lc ck : Nat → Int32) (i k c s : Nat) (f : Int32) : Prop := c ≤ m (i + 1) + 1 ∧ (∀ k', k' < k → st k' i → c ≤ m (i + len k') + 1) ∧ ((s = 1 ∧ f = lc i ∧ c = m (i + 1) + 1 ∧ ∀ k', k' < k → st k' i → c ≠ m (i + len k') + 1) ∨ ∃ k0, k0 < k ∧ st k0 i ∧ c = m (i + len k0) + 1 ∧ s = len k0 ∧ f = ck k0 ∧ (∀ k', k' < k → st k' i → c = m (i + len k') + 1 → len k' ≤ len k0) ∧ ∀ k', k' < k0 → st k' i → c = m (i + len k') + 1 → len k' < len k0)
theorem FSt.z {st : Nat → Nat → Prop} {len m : Nat → Nat} {lc ck : Nat → Int32} {i : Nat} : FSt st len m lc ck i 0 (m (i + 1) + 1) 1 (lc i) := ⟨Nat.le_refl _, fun k h => by omega, Or.inl ⟨rfl, rfl, rfl, fun k h => by omega⟩⟩
theorem FSt.no {st : Nat → Nat → Prop} {len m : Nat → Nat} {lc ck : Nat → Int32} {i k c s : Nat} {f : Int32} (h : FSt st len m lc ck i k c s f) (hk : ¬ st k i) : FSt st len m lc ck i (k + 1) c s f := by
  have ext : ∀ k', k' < k + 1 → st k' i → k' < k := fun k' h1 h2 => by
    rcases Nat.lt_or_ge k' k with q | q
    · exact q
    · exact absurd (by rw [show k = k' by omega]; exact h2) hk
  refine ⟨h.1, fun k' h1 h2 => h.2.1 k' (ext k' h1 h2) h2, ?_⟩
  rcases h.2.2 with ⟨a, b, c', e⟩ | ⟨k0, k1, k2, k3, k4, k5, k6, k7⟩
  · exact Or.inl ⟨a, b, c', fun k' h1 h2 => e k' (ext k' h1 h2) h2⟩
  · exact Or.inr ⟨k0, by omega, k2, k3, k4, k5, fun k' h1 h2 => k6 k' (ext k' h1 h2) h2, k7⟩
theorem FSt.take {st : Nat → Nat → Prop} {len m : Nat → Nat} {lc ck : Nat → Int32} {i k c s : Nat} {f : Int32} (h : FSt st len m lc ck i k c s f) (hk : st k i) (ht : m (i + len k) + 1 < c ∨ (m (i + len k) + 1 = c ∧ s < len k)) : FSt st len m lc ck i (k + 1) (m (i + len k) + 1) (len k) (ck k) := by
  have old : ∀ k', k' < k → st k' i → m (i + len k) + 1 = m (i + len k') + 1 → len k' < len k := by
    intro k' h1 h2 h3
    have a := h.2.1 k' h1 h2
    rcases ht with z | ⟨z1, z2⟩
    · omega
    · rcases h.2.2 with ⟨b1, b2, b3, b4⟩ | ⟨k0, k1, k2, k3, k4, k5, k6, k7⟩
      · exact absurd (by omega) (b4 k' h1 h2)
      · have := k6 k' h1 h2 (by omega); omega
  refine ⟨by have := h.1; omega, fun k' h1 h2 => ?_, Or.inr ⟨k, by omega, hk, rfl, rfl, rfl, fun k' h1 h2 h3 => ?_, old⟩⟩
  · rcases Nat.lt_or_ge k' k with q | q
    · have := h.2.1 k' q h2; omega
    · rw [show k' = k by omega]; exact Nat.le_refl _
  · rcases Nat.lt_or_ge k' k with q | q
    · exact Nat.le_of_lt (old k' q h2 h3)
    · rw [show k' = k by omega]; exact Nat.le_refl _
theorem FSt.keep {st : Nat → Nat → Prop} {len m : Nat → Nat} {lc ck : Nat → Int32} {i k c s : Nat} {f : Int32} (h : FSt st len m lc ck i k c s f) (hl : 2 ≤ len k) (ht : ¬ (m (i + len k) + 1 < c ∨ (m (i + len k) + 1 = c ∧ s < len k))) : FSt st len m lc ck i (k + 1) c s f := by
  refine ⟨h.1, fun k' h1 h2 => ?_, ?_⟩
  · rcases Nat.lt_or_ge k' k with q | q
    · exact h.2.1 k' q h2
    · rw [show k' = k by omega]; omega
  · rcases h.2.2 with ⟨a, b, c', e⟩ | ⟨k0, k1, k2, k3, k4, k5, k6, k7⟩
    · refine Or.inl ⟨a, b, c', fun k' h1 h2 h3 => ?_⟩
      rcases Nat.lt_or_ge k' k with q | q
      · exact e k' q h2 h3
      · rw [show k' = k by omega] at h3; omega
    · refine Or.inr ⟨k0, by omega, k2, k3, k4, k5, fun k' h1 h2 h3 => ?_, k7⟩
      rcases Nat.lt_or_ge k' k with q | q
      · exact k6 k' q h2 h3
      · rw [show k' = k by omega] at h3 ⊢; omega
/-- all ten offered -/
theorem FSt.done {st : Nat → Nat → Prop} {len m : Nat → Nat} {lc ck : Nat → Int32} {i s : Nat} {f : Int32} (h : FSt st len m lc ck i 10 (m i) s f) : LsA st len m i ∧ SpS st len m lc ck i s f := by
  refine ⟨⟨h.1, h.2.1, ?_⟩, ?_⟩
  · rcases h.2.2 with ⟨a, b, c', e⟩ | ⟨k0, k1, k2, k3, k4, k5, k6, k7⟩
    · exact Or.inl c'
    · exact Or.inr ⟨k0, k1, k2, k3⟩
  · rcases h.2.2 with ⟨a, b, c', e⟩ | ⟨k0, k1, k2, k3, k4, k5, k6, k7⟩
    · exact Or.inl ⟨a, b, c', e⟩
    · exact Or.inr ⟨k0, k1, k2, k3, k4, k5, k6, k7⟩
theorem SpS.step {st : Nat → Nat → Prop} {len m : Nat → Nat} {lc ck : Nat → Int32} {i p : Nat} {c : Int32} (h : SpS st len m lc ck i p c) : m i = m (i + p) + 1 := by
  rcases h with ⟨h1, h2, h3, h4⟩ | ⟨k, k1, k2, k3, k4, k5, k6, k7⟩
  · rw [h1]; exact h3
  · rw [k4]; exact k3
theorem SpS.in {L : Nat} {st : Nat → Nat → Prop} {len m : Nat → Nat} {lc ck : Nat → Int32} {i p : Nat} {c : Int32} (hs : stOK L st len) (hi : i < L) (h : SpS st len m lc ck i p c) : 1 ≤ p ∧ i + p ≤ L := by
  rcases h with ⟨h1, h2, h3, h4⟩ | ⟨k, k1, k2, k3, k4, k5, k6, k7⟩
  · omega
  · have := hs k i k1 k2; omega
