/-! contracts: the speller -/
def Chn (L : Nat) (st : Nat → Nat → Prop) (len m : Nat → Nat) (lc ck cells : Nat → Int32) (j cur : Nat) : Prop := ∃ idx : Nat → Nat, idx 0 = 0 ∧ idx j = cur ∧ ∀ j', j' < j → idx j' < L ∧ ∃ p, SpS st len m lc ck (idx j') p (cells j') ∧ idx (j' + 1) = idx j' + p
theorem Chn.z {L : Nat} {st : Nat → Nat → Prop} {len m : Nat → Nat} {lc ck cells : Nat → Int32} : Chn L st len m lc ck cells 0 0 := ⟨fun _ => 0, rfl, rfl, fun j h => by omega⟩
theorem Chn.s {L : Nat} {st : Nat → Nat → Prop} {len m : Nat → Nat} {lc ck cells cells' : Nat → Int32} {j cur p : Nat} (h : Chn L st len m lc ck cells j cur) (hc : cur < L) (hp : SpS st len m lc ck cur p (cells' j)) (he : ∀ j', j' < j → cells' j' = cells j') : Chn L st len m lc ck cells' (j + 1) (cur + p) := by
  obtain ⟨idx, h1, h2, h3⟩ := h
  refine ⟨setF idx (j + 1) (cur + p), by rw [setF_n idx (by omega)]; exact h1, setF_s _ _ _, fun j' hj => ?_⟩
  rcases Nat.lt_or_ge j' j with q | q
  · obtain ⟨a, p', b, c⟩ := h3 j' q
    rw [setF_n idx (by omega), setF_n idx (by omega), he j' q]
    exact ⟨a, p', b, c⟩
  · rw [show j' = j by omega, setF_n idx (by omega), setF_s, h2]
    exact ⟨hc, p, hp, rfl⟩
theorem Chn.inv {L : Nat} {st : Nat → Nat → Prop} {len m : Nat → Nat} {lc ck cells : Nat → Int32} {j cur : Nat} (hs : stOK L st len) (h : Chn L st len m lc ck cells j cur) : m cur + j = m 0 ∧ cur ≤ L := by
  obtain ⟨idx, h1, h2, h3⟩ := h
  have key : ∀ i, i ≤ j → m (idx i) + i = m 0 ∧ idx i ≤ L := by
    intro i
    induction i with
    | zero => intro _; rw [h1]; exact ⟨rfl, Nat.zero_le L⟩
    | succ i ih =>
      intro hi
      obtain ⟨a, p, b, c⟩ := h3 i (by omega)
      have e := ih (by omega)
      have e2 := b.step
      have e3 := b.in hs a
      rw [c]
      omega
  have := key j (Nat.le_refl j)
  rw [h2] at this
  exact this
theorem Chn.fin {L : Nat} {st : Nat → Nat → Prop} {len m : Nat → Nat} {lc ck cells : Nat → Int32} {N cur : Nat} (hm : Lst L st len m) (hN : N = m 0) (h : Chn L st len m lc ck cells N cur) : SpO L st len lc ck N cells := by
  obtain ⟨idx, h1, h2, h3⟩ := h
  exact ⟨m, idx, hm, hN, h1, h3⟩
theorem LsA.cg {st : Nat → Nat → Prop} {len m m' : Nat → Nat} {i : Nat} (h : LsA st len m i) (e : ∀ x, i ≤ x → m' x = m x) : LsA st len m' i := by
  refine ⟨by rw [e i (Nat.le_refl i), e (i + 1) (by omega)]; exact h.1, fun k k1 k2 => by rw [e i (Nat.le_refl i), e (i + len k) (by omega)]; exact h.2.1 k k1 k2, ?_⟩
  rw [e i (Nat.le_refl i), e (i + 1) (by omega)]
  rcases h.2.2 with z | ⟨k, k1, k2, z⟩
  · exact Or.inl z
  · exact Or.inr ⟨k, k1, k2, by rw [e (i + len k) (by omega)]; exact z⟩
theorem SpS.cg {st : Nat → Nat → Prop} {len m m' : Nat → Nat} {lc ck : Nat → Int32} {i p : Nat} {c : Int32} (h : SpS st len m lc ck i p c) (e : ∀ x, i ≤ x → m' x = m x) : SpS st len m' lc ck i p c := by
  rcases h with ⟨h1, h2, h3, h4⟩ | ⟨k, k1, k2, k3, k4, k5, k6, k7⟩
  · exact Or.inl ⟨h1, h2, by rw [e i (Nat.le_refl i), e (i + 1) (by omega)]; exact h3, fun k a b => by rw [e i (Nat.le_refl i), e (i + len k) (by omega)]; exact h4 k a b⟩
  · refine Or.inr ⟨k, k1, k2, by rw [e i (Nat.le_refl i), e (i + len k) (by omega)]; exact k3, k4, k5, fun k' a b c => k6 k' a b ?_, fun k' a b c => k7 k' a b ?_⟩
    · rw [e i (Nat.le_refl i), e (i + len k') (by omega)] at c; exact c
    · rw [e i (Nat.le_refl i), e (i + len k') (by omega)] at c; exact c
theorem FSt.cg {st : Nat → Nat → Prop} {len m m' : Nat → Nat} {lc ck : Nat → Int32} {i k c s : Nat} {f : Int32} (h : FSt st len m lc ck i k c s f) (hl : ∀ k, st k i → 0 < len k) (e : ∀ x, i < x → m' x = m x) : FSt st len m' lc ck i k c s f := by
  have ek : ∀ k', st k' i → m' (i + len k') = m (i + len k') := fun k' a => e _ (by have := hl k' a; omega)
  refine ⟨by rw [e (i + 1) (by omega)]; exact h.1, fun k' a b => by rw [ek k' b]; exact h.2.1 k' a b, ?_⟩
  rcases h.2.2 with ⟨h1, h2, h3, h4⟩ | ⟨k0, k1, k2, k3, k4, k5, k6, k7⟩
  · exact Or.inl ⟨h1, h2, by rw [e (i + 1) (by omega)]; exact h3, fun k' a b => by rw [ek k' b]; exact h4 k' a b⟩
  · refine Or.inr ⟨k0, k1, k2, by rw [ek k0 k2]; exact k3, k4, k5, fun k' a b c => k6 k' a b ?_, fun k' a b c => k7 k' a b ?_⟩
    · rw [ek k' b] at c; exact c
    · rw [ek k' b] at c; exact c
theorem FSt.bd {st : Nat → Nat → Prop} {len m : Nat → Nat} {lc ck : Nat → Int32} {i k c s : Nat} {f : Int32} (h : FSt st len m lc ck i k c s f) (hl : ∀ k, st k i → len k ≤ 4) : c ≤ m (i + 1) + 1 ∧ s ≤ 4 := by
  refine ⟨h.1, ?_⟩
  rcases h.2.2 with ⟨h1, h2, h3, h4⟩ | ⟨k0, k1, k2, k3, k4, k5, k6, k7⟩
  · omega
  · rw [k4]; exact hl k0 k2
/-- a step set down -/
def StS (σ τ : Mem) (i c s : Nat) (f : Int32) : Prop := Eqs [27, 28, 29] σ τ ∧ gI τ 27 0 i = nI c ∧ gI τ 28 0 i = nI s ∧ gI τ 29 0 i = f ∧ ∀ a j, j ≠ i → gI τ a 0 j = gI σ a 0 j
theorem stS {σ σ1 σ2 σ3 : Mem} {i c s : Nat} {f : Int32} (h1 : σ1 = pI σ 27 0 i (nI c)) (h2 : σ2 = pI σ1 28 0 i (nI s)) (h3 : σ3 = pI σ2 29 0 i f) : StS σ σ3 i c s f := by
  refine ⟨?_, ?_, ?_, ?_, fun a j hj => ?_⟩
  · rw [h3, h2, h1]; exact ((Eqs.rf.pI (by decide)).pI (by decide)).pI (by decide)
  · rw [h3, gI_pI, if_neg (by omega), h2, gI_pI, if_neg (by omega), h1, gI_pI, if_pos ⟨rfl, rfl, rfl⟩]
  · rw [h3, gI_pI, if_neg (by omega), h2, gI_pI, if_pos ⟨rfl, rfl, rfl⟩]
  · rw [h3, gI_pI, if_pos ⟨rfl, rfl, rfl⟩]
  · rw [h3, gI_pI, if_neg (by omega), h2, gI_pI, if_neg (by omega), h1, gI_pI, if_neg (by omega)]
theorem StS.tr {σ τ υ : Mem} {i c s c' s' : Nat} {f f' : Int32} (h : StS σ τ i c s f) (h' : StS τ υ i c' s' f') : StS σ υ i c' s' f' := ⟨h.1.tr h'.1, h'.2.1, h'.2.2.1, h'.2.2.2.1, fun a j hj => (h'.2.2.2.2 a j hj).trans (h.2.2.2.2 a j hj)⟩
theorem c_offerStep {d : Nat} {σ : Mem} {Post : Option AV → Mem → Prop} {i l c s m : Nat} {x : Int32} (hi : i < 12) (hl : i + l ≤ 12) (hc : gI σ 27 0 i = nI c) (hs : gI σ 28 0 i = nI s) (hm : gI σ 27 0 (i + l) = nI m) (c1 : c ≤ 100) (s1 : s ≤ 100) (m1 : m ≤ 100) (h1 : (m + 1 < c ∨ (m + 1 = c ∧ s < l)) → ∀ τ : Mem, StS σ τ i (m + 1) l x → Post none τ) (h0 : ¬ (m + 1 < c ∨ (m + 1 = c ∧ s < l)) → Post none σ) : MM d M_Speller_offerStep [vR 24 0, vI (nI i), vI (nI l), vI x] σ Post := by
  refine MM.of ok_Speller_offerStep rfl ?_
  refine b_Speller_offerStep_0 ?_
  have v13 : vp_in (nI i) 13 := vp_n (by omega) (by omega)
  have v12 : vp_in (nI i) 12 := vp_n (by omega) (by omega)
  rw [nI_add, cl_n (by omega), cl_n (by omega), hm, hc, hs, nI_1]
  refine ⟨vp_n (by omega) (by omega), v13, pk_lt (m + 1) c (fun q => ⟨v13, fun σ1 e1 => ⟨v12, fun σ2 e2 => ⟨v12, fun σ3 e3 => h1 (Or.inl q) σ3 (stS e1 e2 e3)⟩⟩⟩) (fun q => ⟨v13, pk_eq (m + 1) c (fun q2 => ⟨v12, pk_le l s (fun q3 => h0 (by omega)) (fun q3 => ⟨v13, fun σ1 e1 => ⟨v12, fun σ2 e2 => ⟨v12, fun σ3 e3 => h1 (Or.inr ⟨q2, q3⟩) σ3 (stS e1 e2 e3)⟩⟩⟩)⟩) (fun q2 => h0 (by omega))⟩)⟩
def lnP (σ : Mem) (k : Nat) : Nat := (gI σ 31 k 1).toNatClampNeg
def CtrOK (σ : Mem) : Prop := ∀ k, k < 10 → gI σ 31 k 1 = nI (lnP σ k) ∧ lnP σ k ≤ 4 ∧ (gI σ 26 0 k ≠ 0 → 2 ≤ lnP σ k)
def ckC (σ : Mem) (k : Nat) : Int32 := gI σ 26 0 k
def WdC22 (σ : Mem) (w L : Nat) : Prop := gI σ 22 w 1 = nI L ∧ L ≤ 12 ∧ ∀ j, j < L → 97 ≤ (gI σ 23 w j).toInt ∧ (gI σ 23 w j).toInt ≤ 122
def stC22 (σ : Mem) (w L k i : Nat) : Prop := k < 10 ∧ gI σ 26 0 k ≠ 0 ∧ i + lnP σ k ≤ L ∧ ∀ j, j < lnP σ k → gI σ 23 w (i + j) = gI σ 32 k j
def lcC22 (σ : Mem) (w i : Nat) : Int32 := gI σ 85 0 (gI σ 23 w i - 97).toNatClampNeg
theorem stOK22 {σ : Mem} {w L : Nat} (hc : CtrOK σ) : stOK L (stC22 σ w L) (lnP σ) := fun k i hk h => ⟨(hc k hk).2.2 h.2.1, h.2.2.1⟩
theorem c_hasAt22 {d : Nat} {σ : Mem} {Post : Option AV → Mem → Prop} {w i k L l : Nat} (hw0 : w = 0) (hw : gI σ 22 w 1 = nI L) (hL : L ≤ 12) (hl : gI σ 31 k 1 = nI l) (hl4 : l ≤ 4) (hi : i < 12) (h1 : (i + l ≤ L ∧ ∀ j, j < l → gI σ 23 w (i + j) = gI σ 32 k j) → Post (some (vI 1)) σ) (h0 : ¬ (i + l ≤ L ∧ ∀ j, j < l → gI σ 23 w (i + j) = gI σ 32 k j) → Post (some (vI 0)) σ) : MM d M_Word_hasAt [vR 22 w, vI (nI i), vR 31 k] σ Post := by
  subst hw0
  refine MM.of ok_Word_hasAt rfl ?_
  refine b_Word_hasAt22_0 ?_
  rw [hl, hw, nI_add]
  refine pk_le (i + l) L (fun q => ?_) (fun q => h0 (fun z => by omega))
  have key : ∀ j, j ≤ l → (∀ j', j' < j → gI σ 23 0 (i + j') = gI σ 32 k j') → WS d M_Word_hasAt 17 [vR 22 0, vI (nI i), vR 31 k, vI (nI j)] [] σ Post := by
    refine upto l ?_ ?_
    · intro hj
      refine b_Word_hasAt22_17 ?_
      rw [hl]
      exact pk_le l l (fun _ => h1 ⟨q, hj⟩) (fun z => absurd z (Nat.lt_irrefl l))
    · intro j hj ih hh
      refine b_Word_hasAt22_17 ?_
      rw [hl, nI_add, cl_n (by omega), cl_n (by omega), nI_1]
      refine pk_le l j (fun z => by omega) (fun _ => ⟨vp_n (by omega) (by omega), vp_n (by omega) (by omega), fun e => ih (fun j' hj' => ?_), fun e => h0 (fun z => e (z.2 j hj))⟩)
      rcases Nat.lt_or_ge j' j with p | p
      · exact hh j' p
      · rw [show j' = j by omega]; exact e
  exact key 0 (by omega) (fun j' hj => by omega)
theorem c_findStep22 {d : Nat} {σ : Mem} {Post : Option AV → Mem → Prop} {w i L : Nat} (hw0 : w = 0) (hw : WdC22 σ w L) (hC : CtrOK σ) (hi : i < L) {m : Nat → Nat} (hm : ∀ j, i < j → j ≤ L → gI σ 27 0 j = nI (m j) ∧ m j ≤ 12) (h : ∀ (τ : Mem) (c s : Nat) (f : Int32), StS σ τ i c s f → FSt (stC22 σ w L) (lnP σ) m (lcC22 σ w) (ckC σ) i 10 c s f → Post none τ) : MM (d + 1) M_Speller_findStep [vR 24 0, vR 22 w, vI (nI i)] σ Post := by
  subst hw0
  obtain ⟨hw1, hL, hlet⟩ := hw
  refine MM.of ok_Speller_findStep rfl ?_
  have e_i : (nI i).toNatClampNeg = i := cl_n (by omega)
  have v13 : vp_in (nI i) 13 := vp_n (by omega) (by omega)
  have v12 : vp_in (nI i) 12 := vp_n (by omega) (by omega)
  have key : ∀ k, k ≤ 10 → ∀ (τ : Mem) (c s : Nat) (f : Int32), StS σ τ i c s f → FSt (stC22 σ 0 L) (lnP σ) m (lcC22 σ 0) (ckC σ) i k c s f → WS (d + 1) M_Speller_findStep 44 [vR 24 0, vR 22 0, vI (nI i), vI (nI k)] [] τ Post := by
    refine upto 10 ?_ ?_
    · intro τ c s f hS hF
      exact b_Speller_findStep22_44 (pk_le 10 10 (fun _ => h τ c s f hS hF) (fun q => by omega))
    · intro k hk ih τ c s f hS hF
      have e26 : gI τ 26 0 k = gI σ 26 0 k := hS.1.1 26 0 k (by decide)
      have e31 : gI τ 31 k 1 = nI (lnP σ k) := (hS.1.1 31 k 1 (by decide)).trans (hC k hk).1
      have e32 : ∀ j, gI τ 32 k j = gI σ 32 k j := fun j => hS.1.1 32 k j (by decide)
      have eN : ∀ j, gI τ 23 0 j = gI σ 23 0 j := fun j => hS.1.1 23 0 j (by decide)
      have vk : vp_in (nI k) 10 := vp_n hk (by omega)
      have l4 := (hC k hk).2.1
      refine b_Speller_findStep22_44 (pk_le 10 k (fun q => by omega) (fun _ => ⟨vk, ?_⟩))
      rw [cl_n (by omega), e26]
      refine ⟨fun q => b_Speller_findStep22_93 (by rw [nI_1]; exact ih τ c s f hS (hF.no (fun z => z.2.1 q))), fun q => ⟨vk, ?_⟩⟩
      have l2 := (hC k hk).2.2 q
      refine c_hasAt22 rfl ((hS.1.1 22 0 1 (by decide)).trans hw1) hL e31 l4 (by omega) (fun z => ?_) (fun z => ?_)
      · have hst : stC22 σ 0 L k i := ⟨hk, q, z.1, fun j hj => by rw [← eN, ← e32]; exact z.2 j hj⟩
        refine b_Speller_findStep22_70t ⟨vk, vk, ?_⟩
        rw [cl_n (by omega), e31, e26]
        have hmk := hm (i + lnP σ k) (by omega) (by have := z.1; omega)
        have hbd := hF.bd (fun k' hk' => (hC k' hk'.1).2.1)
        have hm1 := hm (i + 1) (by omega) (by omega)
        refine c_offerStep (c := c) (s := s) (m := m (i + lnP σ k)) (by omega) (by have := z.1; omega) hS.2.1 hS.2.2.1 ((hS.2.2.2.2 27 _ (by omega)).trans hmk.1) (by omega) (by omega) (by omega) (fun t υ hU => ?_) (fun t => ?_)
        · exact b_Speller_findStep22_93 (by rw [nI_1]; exact ih υ _ _ _ (hS.tr hU) (hF.take hst t))
        · exact b_Speller_findStep22_93 (by rw [nI_1]; exact ih τ c s f hS (hF.keep l2 t))
      · refine b_Speller_findStep22_70f (b_Speller_findStep22_93 (by rw [nI_1]; exact ih τ c s f hS (hF.no (fun y => z ⟨y.2.2.1, fun j hj => by rw [eN, e32]; exact y.2.2.2 j hj⟩))))
  refine b_Speller_findStep22_0 ?_
  have hm1 := hm (i + 1) (by omega) (by omega)
  rw [nI_1, e_i, cl_n (i := i + 1) (by omega), hm1.1, nI_1]
  refine ⟨vp_n (by omega) (by omega), v13, fun σ1 e1 => ⟨v12, fun σ2 e2 => ⟨v12, ?_, v12, fun σ3 e3 => ?_⟩⟩⟩
  · have el : gI σ2 23 0 i = gI σ 23 0 i := by rw [e2, gI_pI, if_neg (by omega), e1, gI_pI, if_neg (by omega)]
    rw [el]
    have hb := hlet i hi
    have es : (gI σ 23 0 i - 97).toInt = (gI σ 23 0 i).toInt - 97 := by rw [t_sub, t_97] <;> rw [t_97] <;> omega
    exact vp_t (by omega) (by omega)
  · have el : ∀ j, gI σ2 23 0 j = gI σ 23 0 j := fun j => by rw [e2, gI_pI, if_neg (by omega), e1, gI_pI, if_neg (by omega)]
    have ea : ∀ j, gI σ2 85 0 j = gI σ 85 0 j := fun j => by rw [e2, gI_pI, if_neg (by omega), e1, gI_pI, if_neg (by omega)]
    rw [el, ea] at e3
    exact key 0 (by omega) σ3 (m (i + 1) + 1) 1 (lcC22 σ 0 i) (stS e1 e2 e3) FSt.z
theorem c_spell22 {d : Nat} {σ : Mem} {Post : Option AV → Mem → Prop} {w L : Nat} (hw0 : w = 0) (hw : WdC22 σ w L) (hC : CtrOK σ) (h : ∀ (τ : Mem) (N : Nat) (cells : Nat → Int32), Eqs [27, 28, 29, 30] σ τ → N ≤ L → SpO L (stC22 σ w L) (lnP σ) (lcC22 σ w) (ckC σ) N cells → (∀ j, j < N → gI τ 30 0 j = cells j) → Post (some (vI (nI N))) τ) : MM (d + 2) M_Speller_spell [vR 24 0, vR 22 w] σ Post := by
  subst hw0
  have hL := hw.2.1
  have hsO : stOK L (stC22 σ 0 L) (lnP σ) := stOK22 hC
  refine MM.of ok_Speller_spell rfl ?_
  -- the second loop
  have out : ∀ (m p : Nat → Nat) (q : Nat → Int32) (τ0 : Mem), Eqs [27, 28, 29, 30] σ τ0 → (∀ j, j ≤ L → gI τ0 27 0 j = nI (m j)) → Lst L (stC22 σ 0 L) (lnP σ) m → (∀ j, j < L → SpS (stC22 σ 0 L) (lnP σ) m (lcC22 σ 0) (ckC σ) j (p j) (q j) ∧ gI τ0 28 0 j = nI (p j) ∧ gI τ0 29 0 j = q j) → WS (d + 1 + 1) M_Speller_spell 37 [vR 24 0, vR 22 0, vI (0 : Int32), vI (0 : Int32)] [] τ0 Post := by
    intro m p q τ0 hE0 hm hL0 hp
    have hN := hL0.le 0 (Nat.zero_le L)
    have key2 : ∀ j, j ≤ m 0 → ∀ (τ : Mem) (cur : Nat), Eqs [30] τ0 τ → Chn L (stC22 σ 0 L) (lnP σ) m (lcC22 σ 0) (ckC σ) (fun j => gI τ 30 0 j) j cur → WS (d + 1 + 1) M_Speller_spell 37 [vR 24 0, vR 22 0, vI (nI cur), vI (nI j)] [] τ Post := by
      refine upto (m 0) ?_ ?_
      · intro τ cur hE hc
        refine b_Speller_spell22_37 ⟨vp_n (i := 0) (by omega) (by omega), ?_⟩
        rw [show (0 : Int32).toNatClampNeg = 0 from rfl, hE.1 27 0 0 (by decide), hm 0 (Nat.zero_le L)]
        refine pk_le (m 0) (m 0) (fun _ => ⟨vp_n (i := 0) (by omega) (by omega), ?_⟩) (fun z => absurd z (Nat.lt_irrefl _))
        exact h τ (m 0) (fun j => gI τ 30 0 j) (hE0.tr (hE.mono (by decide))) (by omega) (Chn.fin hL0 rfl hc) (fun j _ => rfl)
      · intro j hj ih τ cur hE hc
        have iv := hc.inv hsO
        have hcur : cur < L := by
          rcases Nat.lt_or_ge cur L with z | z
          · exact z
          · rw [show cur = L by omega, hL0.1] at iv; omega
        obtain ⟨s1, s2, s3⟩ := hp cur hcur
        have s4 := s1.in hsO hcur
        refine b_Speller_spell22_37 ⟨vp_n (i := 0) (by omega) (by omega), ?_⟩
        rw [show (0 : Int32).toNatClampNeg = 0 from rfl, hE.1 27 0 0 (by decide), hm 0 (Nat.zero_le L)]
        refine pk_le (m 0) j (fun z => by omega) (fun _ => ⟨vp_n (by omega) (by omega), vp_n (by omega) (by omega), fun σ1 e1 => ⟨vp_n (by omega) (by omega), ?_⟩⟩)
        rw [cl_n (by omega), cl_n (by omega), hE.1 29 0 cur (by decide), s3] at e1
        have E1 : Eqs [30] τ0 σ1 := by rw [e1]; exact hE.pI (by decide)
        rw [cl_n (by omega), E1.1 28 0 cur (by decide), s2, nI_add, nI_1]
        refine ih σ1 (cur + p cur) E1 (hc.s hcur (by show SpS _ _ _ _ _ _ _ (gI σ1 30 0 j); rw [e1, gI_pI, if_pos ⟨rfl, rfl, rfl⟩]; exact s1) (fun j' hj' => ?_))
        show gI σ1 30 0 j' = gI τ 30 0 j'
        rw [e1, gI_pI, if_neg (by omega)]
    exact key2 0 (by omega) τ0 0 Eqs.rf Chn.z
  have key : ∀ i, i ≤ L → ∀ (τ : Mem) (m p : Nat → Nat) (q : Nat → Int32), Eqs [27, 28, 29] σ τ → (∀ j, i ≤ j → j ≤ L → gI τ 27 0 j = nI (m j) ∧ m j ≤ 12) → m L = 0 → (∀ j, i ≤ j → j < L → LsA (stC22 σ 0 L) (lnP σ) m j ∧ m j ≤ L - j ∧ SpS (stC22 σ 0 L) (lnP σ) m (lcC22 σ 0) (ckC σ) j (p j) (q j) ∧ gI τ 28 0 j = nI (p j) ∧ gI τ 29 0 j = q j) → WS (d + 1 + 1) M_Speller_spell 17 [vR 24 0, vR 22 0, vI (nI i + (-1)), vU] [] τ Post := by
    intro i
    induction i with
    | zero =>
      intro _ τ m p q hE hm hmL hj
      refine b_Speller_spell22_17 ⟨fun _ => ?_, fun z => absurd (by decide) z⟩
      exact out m p q τ (hE.mono (by decide)) (fun j hjL => (hm j (Nat.zero_le j) hjL).1) ⟨hmL, fun j hjL => (hj j (Nat.zero_le j) hjL).1⟩ (fun j hjL => (hj j (Nat.zero_le j) hjL).2.2)
    | succ i ih =>
      intro hiL τ m p q hE hm hmL hj
      rw [pk_m1]
      refine b_Speller_spell22_17 (pk_lt i 0 (fun z => by omega) (fun _ => ?_))
      have eC : CtrOK τ := fun k hk => by
        have e31 := hE.1 31 k 1 (by decide)
        have e26 := hE.1 26 0 k (by decide)
        unfold lnP
        rw [e31, e26]
        exact hC k hk
      have eln : lnP τ = lnP σ := by funext k; unfold lnP; rw [hE.1 31 k 1 (by decide)]
      have eck : ckC τ = ckC σ := by funext k; unfold ckC; rw [hE.1 26 0 k (by decide)]
      have elc : lcC22 τ 0 = lcC22 σ 0 := by funext k; unfold lcC22; rw [hE.1 85 _ _ (by decide), hE.1 23 _ _ (by decide)]
      have est : stC22 τ 0 L = stC22 σ 0 L := by
        funext k i
        unfold stC22
        rw [eln, hE.1 26 0 k (by decide)]
        have : (∀ j, j < lnP σ k → gI τ 23 0 (i + j) = gI τ 32 k j) = (∀ j, j < lnP σ k → gI σ 23 0 (i + j) = gI σ 32 k j) := by
          apply forall_congr; intro j
          rw [hE.1 23 _ _ (by decide), hE.1 32 _ _ (by decide)]
        rw [this]
      have eW : WdC22 τ 0 L := ⟨(hE.1 22 0 1 (by decide)).trans hw.1, hL, fun j hj => by rw [hE.1 23 0 j (by decide)]; exact hw.2.2 j hj⟩
      refine c_findStep22 (L := L) rfl eW eC (by omega) (m := m) (fun j h1 h2 => hm j (by omega) h2) (fun υ c s f hS hF => ?_)
      rw [eln, eck, elc, est] at hF
      refine b_Speller_spell22_27 ?_
      have hlen : ∀ k, stC22 σ 0 L k i → 0 < lnP σ k := fun k hk => by have := hsO k i hk.1 hk; omega
      have hF2 : FSt (stC22 σ 0 L) (lnP σ) (setF m i c) (lcC22 σ 0) (ckC σ) i 10 (setF m i c i) s f := by
        rw [setF_s]
        exact hF.cg hlen (fun x hx => setF_n m (by omega))
      have hfd := hF2.done
      have hmi : m (i + 1) ≤ L - (i + 1) := by
        rcases Nat.lt_or_ge (i + 1) L with z | z
        · exact (hj (i + 1) (Nat.le_refl _) z).2.1
        · rw [show i + 1 = L by omega, hmL]; omega
      have hci : c ≤ L - i := by have := hF.1; omega
      refine ih (by omega) υ (setF m i c) (setF p i s) (fun x => if x = i then f else q x) (hE.tr hS.1) (fun j h1 h2 => ?_) (by rw [setF_n m (by omega)]; exact hmL) (fun j h1 h2 => ?_)
      · by_cases z : j = i
        · subst z; rw [setF_s]; exact ⟨hS.2.1, by omega⟩
        · rw [setF_n m z, hS.2.2.2.2 27 j z]; exact hm j (by omega) h2
      · by_cases z : j = i
        · subst z
          rw [setF_s, setF_s, if_pos rfl]
          exact ⟨hfd.1, hci, hfd.2, hS.2.2.1, hS.2.2.2.1⟩
        · obtain ⟨a1, a2, a3, a4, a5⟩ := hj j (by omega) h2
          rw [setF_n m z, setF_n p z, if_neg z]
          exact ⟨a1.cg (fun x hx => setF_n m (by omega)), a2, a3.cg (fun x hx => setF_n m (by omega)), by rw [hS.2.2.2.2 28 j z]; exact a4, by rw [hS.2.2.2.2 29 j z]; exact a5⟩
  refine b_Speller_spell22_0 ?_
  rw [hw.1, cl_n (by omega)]
  refine ⟨vp_n (by omega) (by omega), fun σ1 e1 => ?_⟩
  have E1 : Eqs [27, 28, 29] σ σ1 := by rw [e1]; exact Eqs.rf.pI (by decide)
  rw [E1.1 22 0 1 (by decide), hw.1, Int32.sub_eq_add_neg]
  refine key L (Nat.le_refl L) σ1 (fun _ => 0) (fun _ => 0) (fun _ => 0) E1 (fun j h1 h2 => ?_) rfl (fun j h1 h2 => by omega)
  rw [show j = L by omega, e1, gI_pI, if_pos ⟨rfl, rfl, rfl⟩]
  exact ⟨rfl, by omega⟩
def WdC8 (σ : Mem) (w L : Nat) : Prop := gI σ 8 w 1 = nI L ∧ L ≤ 12 ∧ ∀ j, j < L → 97 ≤ (gI σ 9 w j).toInt ∧ (gI σ 9 w j).toInt ≤ 122
def stC8 (σ : Mem) (w L k i : Nat) : Prop := k < 10 ∧ gI σ 26 0 k ≠ 0 ∧ i + lnP σ k ≤ L ∧ ∀ j, j < lnP σ k → gI σ 9 w (i + j) = gI σ 32 k j
def lcC8 (σ : Mem) (w i : Nat) : Int32 := gI σ 85 0 (gI σ 9 w i - 97).toNatClampNeg
theorem stOK8 {σ : Mem} {w L : Nat} (hc : CtrOK σ) : stOK L (stC8 σ w L) (lnP σ) := fun k i hk h => ⟨(hc k hk).2.2 h.2.1, h.2.2.1⟩
theorem c_hasAt8 {d : Nat} {σ : Mem} {Post : Option AV → Mem → Prop} {w i k L l : Nat} (hw0 : True) (hw : gI σ 8 w 1 = nI L) (hL : L ≤ 12) (hl : gI σ 31 k 1 = nI l) (hl4 : l ≤ 4) (hi : i < 12) (h1 : (i + l ≤ L ∧ ∀ j, j < l → gI σ 9 w (i + j) = gI σ 32 k j) → Post (some (vI 1)) σ) (h0 : ¬ (i + l ≤ L ∧ ∀ j, j < l → gI σ 9 w (i + j) = gI σ 32 k j) → Post (some (vI 0)) σ) : MM d M_Word_hasAt [vR 8 w, vI (nI i), vR 31 k] σ Post := by
  clear hw0
  refine MM.of ok_Word_hasAt rfl ?_
  refine b_Word_hasAt8_0 ?_
  rw [hl, hw, nI_add]
  refine pk_le (i + l) L (fun q => ?_) (fun q => h0 (fun z => by omega))
  have key : ∀ j, j ≤ l → (∀ j', j' < j → gI σ 9 w (i + j') = gI σ 32 k j') → WS d M_Word_hasAt 17 [vR 8 w, vI (nI i), vR 31 k, vI (nI j)] [] σ Post := by
    refine upto l ?_ ?_
    · intro hj
      refine b_Word_hasAt8_17 ?_
      rw [hl]
      exact pk_le l l (fun _ => h1 ⟨q, hj⟩) (fun z => absurd z (Nat.lt_irrefl l))
    · intro j hj ih hh
      refine b_Word_hasAt8_17 ?_
      rw [hl, nI_add, cl_n (by omega), cl_n (by omega), nI_1]
      refine pk_le l j (fun z => by omega) (fun _ => ⟨vp_n (by omega) (by omega), vp_n (by omega) (by omega), fun e => ih (fun j' hj' => ?_), fun e => h0 (fun z => e (z.2 j hj))⟩)
      rcases Nat.lt_or_ge j' j with p | p
      · exact hh j' p
      · rw [show j' = j by omega]; exact e
  exact key 0 (by omega) (fun j' hj => by omega)
theorem c_findStep8 {d : Nat} {σ : Mem} {Post : Option AV → Mem → Prop} {w i L : Nat} (hw0 : True) (hw : WdC8 σ w L) (hC : CtrOK σ) (hi : i < L) {m : Nat → Nat} (hm : ∀ j, i < j → j ≤ L → gI σ 27 0 j = nI (m j) ∧ m j ≤ 12) (h : ∀ (τ : Mem) (c s : Nat) (f : Int32), StS σ τ i c s f → FSt (stC8 σ w L) (lnP σ) m (lcC8 σ w) (ckC σ) i 10 c s f → Post none τ) : MM (d + 1) M_Speller_findStep [vR 24 0, vR 8 w, vI (nI i)] σ Post := by
  clear hw0
  obtain ⟨hw1, hL, hlet⟩ := hw
  refine MM.of ok_Speller_findStep rfl ?_
  have e_i : (nI i).toNatClampNeg = i := cl_n (by omega)
  have v13 : vp_in (nI i) 13 := vp_n (by omega) (by omega)
  have v12 : vp_in (nI i) 12 := vp_n (by omega) (by omega)
  have key : ∀ k, k ≤ 10 → ∀ (τ : Mem) (c s : Nat) (f : Int32), StS σ τ i c s f → FSt (stC8 σ w L) (lnP σ) m (lcC8 σ w) (ckC σ) i k c s f → WS (d + 1) M_Speller_findStep 44 [vR 24 0, vR 8 w, vI (nI i), vI (nI k)] [] τ Post := by
    refine upto 10 ?_ ?_
    · intro τ c s f hS hF
      exact b_Speller_findStep8_44 (pk_le 10 10 (fun _ => h τ c s f hS hF) (fun q => by omega))
    · intro k hk ih τ c s f hS hF
      have e26 : gI τ 26 0 k = gI σ 26 0 k := hS.1.1 26 0 k (by decide)
      have e31 : gI τ 31 k 1 = nI (lnP σ k) := (hS.1.1 31 k 1 (by decide)).trans (hC k hk).1
      have e32 : ∀ j, gI τ 32 k j = gI σ 32 k j := fun j => hS.1.1 32 k j (by decide)
      have eN : ∀ j, gI τ 9 w j = gI σ 9 w j := fun j => hS.1.1 9 w j (by decide)
      have vk : vp_in (nI k) 10 := vp_n hk (by omega)
      have l4 := (hC k hk).2.1
      refine b_Speller_findStep8_44 (pk_le 10 k (fun q => by omega) (fun _ => ⟨vk, ?_⟩))
      rw [cl_n (by omega), e26]
      refine ⟨fun q => b_Speller_findStep8_93 (by rw [nI_1]; exact ih τ c s f hS (hF.no (fun z => z.2.1 q))), fun q => ⟨vk, ?_⟩⟩
      have l2 := (hC k hk).2.2 q
      refine c_hasAt8 trivial ((hS.1.1 8 w 1 (by decide)).trans hw1) hL e31 l4 (by omega) (fun z => ?_) (fun z => ?_)
      · have hst : stC8 σ w L k i := ⟨hk, q, z.1, fun j hj => by rw [← eN, ← e32]; exact z.2 j hj⟩
        refine b_Speller_findStep8_70t ⟨vk, vk, ?_⟩
        rw [cl_n (by omega), e31, e26]
        have hmk := hm (i + lnP σ k) (by omega) (by have := z.1; omega)
        have hbd := hF.bd (fun k' hk' => (hC k' hk'.1).2.1)
        have hm1 := hm (i + 1) (by omega) (by omega)
        refine c_offerStep (c := c) (s := s) (m := m (i + lnP σ k)) (by omega) (by have := z.1; omega) hS.2.1 hS.2.2.1 ((hS.2.2.2.2 27 _ (by omega)).trans hmk.1) (by omega) (by omega) (by omega) (fun t υ hU => ?_) (fun t => ?_)
        · exact b_Speller_findStep8_93 (by rw [nI_1]; exact ih υ _ _ _ (hS.tr hU) (hF.take hst t))
        · exact b_Speller_findStep8_93 (by rw [nI_1]; exact ih τ c s f hS (hF.keep l2 t))
      · refine b_Speller_findStep8_70f (b_Speller_findStep8_93 (by rw [nI_1]; exact ih τ c s f hS (hF.no (fun y => z ⟨y.2.2.1, fun j hj => by rw [eN, e32]; exact y.2.2.2 j hj⟩))))
  refine b_Speller_findStep8_0 ?_
  have hm1 := hm (i + 1) (by omega) (by omega)
  rw [nI_1, e_i, cl_n (i := i + 1) (by omega), hm1.1, nI_1]
  refine ⟨vp_n (by omega) (by omega), v13, fun σ1 e1 => ⟨v12, fun σ2 e2 => ⟨v12, ?_, v12, fun σ3 e3 => ?_⟩⟩⟩
  · have el : gI σ2 9 w i = gI σ 9 w i := by rw [e2, gI_pI, if_neg (by omega), e1, gI_pI, if_neg (by omega)]
    rw [el]
    have hb := hlet i hi
    have es : (gI σ 9 w i - 97).toInt = (gI σ 9 w i).toInt - 97 := by rw [t_sub, t_97] <;> rw [t_97] <;> omega
    exact vp_t (by omega) (by omega)
  · have el : ∀ j, gI σ2 9 w j = gI σ 9 w j := fun j => by rw [e2, gI_pI, if_neg (by omega), e1, gI_pI, if_neg (by omega)]
    have ea : ∀ j, gI σ2 85 0 j = gI σ 85 0 j := fun j => by rw [e2, gI_pI, if_neg (by omega), e1, gI_pI, if_neg (by omega)]
    rw [el, ea] at e3
    exact key 0 (by omega) σ3 (m (i + 1) + 1) 1 (lcC8 σ w i) (stS e1 e2 e3) FSt.z
theorem c_spell8 {d : Nat} {σ : Mem} {Post : Option AV → Mem → Prop} {w L : Nat} (hw0 : True) (hw : WdC8 σ w L) (hC : CtrOK σ) (h : ∀ (τ : Mem) (N : Nat) (cells : Nat → Int32), Eqs [27, 28, 29, 30] σ τ → N ≤ L → SpO L (stC8 σ w L) (lnP σ) (lcC8 σ w) (ckC σ) N cells → (∀ j, j < N → gI τ 30 0 j = cells j) → Post (some (vI (nI N))) τ) : MM (d + 2) M_Speller_spell [vR 24 0, vR 8 w] σ Post := by
  clear hw0
  have hL := hw.2.1
  have hsO : stOK L (stC8 σ w L) (lnP σ) := stOK8 hC
  refine MM.of ok_Speller_spell rfl ?_
  -- the second loop
  have out : ∀ (m p : Nat → Nat) (q : Nat → Int32) (τ0 : Mem), Eqs [27, 28, 29, 30] σ τ0 → (∀ j, j ≤ L → gI τ0 27 0 j = nI (m j)) → Lst L (stC8 σ w L) (lnP σ) m → (∀ j, j < L → SpS (stC8 σ w L) (lnP σ) m (lcC8 σ w) (ckC σ) j (p j) (q j) ∧ gI τ0 28 0 j = nI (p j) ∧ gI τ0 29 0 j = q j) → WS (d + 1 + 1) M_Speller_spell 37 [vR 24 0, vR 8 w, vI (0 : Int32), vI (0 : Int32)] [] τ0 Post := by
    intro m p q τ0 hE0 hm hL0 hp
    have hN := hL0.le 0 (Nat.zero_le L)
    have key2 : ∀ j, j ≤ m 0 → ∀ (τ : Mem) (cur : Nat), Eqs [30] τ0 τ → Chn L (stC8 σ w L) (lnP σ) m (lcC8 σ w) (ckC σ) (fun j => gI τ 30 0 j) j cur → WS (d + 1 + 1) M_Speller_spell 37 [vR 24 0, vR 8 w, vI (nI cur), vI (nI j)] [] τ Post := by
      refine upto (m 0) ?_ ?_
      · intro τ cur hE hc
        refine b_Speller_spell8_37 ⟨vp_n (i := 0) (by omega) (by omega), ?_⟩
        rw [show (0 : Int32).toNatClampNeg = 0 from rfl, hE.1 27 0 0 (by decide), hm 0 (Nat.zero_le L)]
        refine pk_le (m 0) (m 0) (fun _ => ⟨vp_n (i := 0) (by omega) (by omega), ?_⟩) (fun z => absurd z (Nat.lt_irrefl _))
        exact h τ (m 0) (fun j => gI τ 30 0 j) (hE0.tr (hE.mono (by decide))) (by omega) (Chn.fin hL0 rfl hc) (fun j _ => rfl)
      · intro j hj ih τ cur hE hc
        have iv := hc.inv hsO
        have hcur : cur < L := by
          rcases Nat.lt_or_ge cur L with z | z
          · exact z
          · rw [show cur = L by omega, hL0.1] at iv; omega
        obtain ⟨s1, s2, s3⟩ := hp cur hcur
        have s4 := s1.in hsO hcur
        refine b_Speller_spell8_37 ⟨vp_n (i := 0) (by omega) (by omega), ?_⟩
        rw [show (0 : Int32).toNatClampNeg = 0 from rfl, hE.1 27 0 0 (by decide), hm 0 (Nat.zero_le L)]
        refine pk_le (m 0) j (fun z => by omega) (fun _ => ⟨vp_n (by omega) (by omega), vp_n (by omega) (by omega), fun σ1 e1 => ⟨vp_n (by omega) (by omega), ?_⟩⟩)
        rw [cl_n (by omega), cl_n (by omega), hE.1 29 0 cur (by decide), s3] at e1
        have E1 : Eqs [30] τ0 σ1 := by rw [e1]; exact hE.pI (by decide)
        rw [cl_n (by omega), E1.1 28 0 cur (by decide), s2, nI_add, nI_1]
        refine ih σ1 (cur + p cur) E1 (hc.s hcur (by show SpS _ _ _ _ _ _ _ (gI σ1 30 0 j); rw [e1, gI_pI, if_pos ⟨rfl, rfl, rfl⟩]; exact s1) (fun j' hj' => ?_))
        show gI σ1 30 0 j' = gI τ 30 0 j'
        rw [e1, gI_pI, if_neg (by omega)]
    exact key2 0 (by omega) τ0 0 Eqs.rf Chn.z
  have key : ∀ i, i ≤ L → ∀ (τ : Mem) (m p : Nat → Nat) (q : Nat → Int32), Eqs [27, 28, 29] σ τ → (∀ j, i ≤ j → j ≤ L → gI τ 27 0 j = nI (m j) ∧ m j ≤ 12) → m L = 0 → (∀ j, i ≤ j → j < L → LsA (stC8 σ w L) (lnP σ) m j ∧ m j ≤ L - j ∧ SpS (stC8 σ w L) (lnP σ) m (lcC8 σ w) (ckC σ) j (p j) (q j) ∧ gI τ 28 0 j = nI (p j) ∧ gI τ 29 0 j = q j) → WS (d + 1 + 1) M_Speller_spell 17 [vR 24 0, vR 8 w, vI (nI i + (-1)), vU] [] τ Post := by
    intro i
    induction i with
    | zero =>
      intro _ τ m p q hE hm hmL hj
      refine b_Speller_spell8_17 ⟨fun _ => ?_, fun z => absurd (by decide) z⟩
      exact out m p q τ (hE.mono (by decide)) (fun j hjL => (hm j (Nat.zero_le j) hjL).1) ⟨hmL, fun j hjL => (hj j (Nat.zero_le j) hjL).1⟩ (fun j hjL => (hj j (Nat.zero_le j) hjL).2.2)
    | succ i ih =>
      intro hiL τ m p q hE hm hmL hj
      rw [pk_m1]
      refine b_Speller_spell8_17 (pk_lt i 0 (fun z => by omega) (fun _ => ?_))
      have eC : CtrOK τ := fun k hk => by
        have e31 := hE.1 31 k 1 (by decide)
        have e26 := hE.1 26 0 k (by decide)
        unfold lnP
        rw [e31, e26]
        exact hC k hk
      have eln : lnP τ = lnP σ := by funext k; unfold lnP; rw [hE.1 31 k 1 (by decide)]
      have eck : ckC τ = ckC σ := by funext k; unfold ckC; rw [hE.1 26 0 k (by decide)]
      have elc : lcC8 τ w = lcC8 σ w := by funext k; unfold lcC8; rw [hE.1 85 _ _ (by decide), hE.1 9 _ _ (by decide)]
      have est : stC8 τ w L = stC8 σ w L := by
        funext k i
        unfold stC8
        rw [eln, hE.1 26 0 k (by decide)]
        have : (∀ j, j < lnP σ k → gI τ 9 w (i + j) = gI τ 32 k j) = (∀ j, j < lnP σ k → gI σ 9 w (i + j) = gI σ 32 k j) := by
          apply forall_congr; intro j
          rw [hE.1 9 _ _ (by decide), hE.1 32 _ _ (by decide)]
        rw [this]
      have eW : WdC8 τ w L := ⟨(hE.1 8 w 1 (by decide)).trans hw.1, hL, fun j hj => by rw [hE.1 9 w j (by decide)]; exact hw.2.2 j hj⟩
      refine c_findStep8 (L := L) trivial eW eC (by omega) (m := m) (fun j h1 h2 => hm j (by omega) h2) (fun υ c s f hS hF => ?_)
      rw [eln, eck, elc, est] at hF
      refine b_Speller_spell8_27 ?_
      have hlen : ∀ k, stC8 σ w L k i → 0 < lnP σ k := fun k hk => by have := hsO k i hk.1 hk; omega
      have hF2 : FSt (stC8 σ w L) (lnP σ) (setF m i c) (lcC8 σ w) (ckC σ) i 10 (setF m i c i) s f := by
        rw [setF_s]
        exact hF.cg hlen (fun x hx => setF_n m (by omega))
      have hfd := hF2.done
      have hmi : m (i + 1) ≤ L - (i + 1) := by
        rcases Nat.lt_or_ge (i + 1) L with z | z
        · exact (hj (i + 1) (Nat.le_refl _) z).2.1
        · rw [show i + 1 = L by omega, hmL]; omega
      have hci : c ≤ L - i := by have := hF.1; omega
      refine ih (by omega) υ (setF m i c) (setF p i s) (fun x => if x = i then f else q x) (hE.tr hS.1) (fun j h1 h2 => ?_) (by rw [setF_n m (by omega)]; exact hmL) (fun j h1 h2 => ?_)
      · by_cases z : j = i
        · subst z; rw [setF_s]; exact ⟨hS.2.1, by omega⟩
        · rw [setF_n m z, hS.2.2.2.2 27 j z]; exact hm j (by omega) h2
      · by_cases z : j = i
        · subst z
          rw [setF_s, setF_s, if_pos rfl]
          exact ⟨hfd.1, hci, hfd.2, hS.2.2.1, hS.2.2.2.1⟩
        · obtain ⟨a1, a2, a3, a4, a5⟩ := hj j (by omega) h2
          rw [setF_n m z, setF_n p z, if_neg z]
          exact ⟨a1.cg (fun x hx => setF_n m (by omega)), a2, a3.cg (fun x hx => setF_n m (by omega)), by rw [hS.2.2.2.2 28 j z]; exact a4, by rw [hS.2.2.2.2 29 j z]; exact a5⟩
  refine b_Speller_spell8_0 ?_
  rw [hw.1, cl_n (by omega)]
  refine ⟨vp_n (by omega) (by omega), fun σ1 e1 => ?_⟩
  have E1 : Eqs [27, 28, 29] σ σ1 := by rw [e1]; exact Eqs.rf.pI (by decide)
  rw [E1.1 8 w 1 (by decide), hw.1, Int32.sub_eq_add_neg]
  refine key L (Nat.le_refl L) σ1 (fun _ => 0) (fun _ => 0) (fun _ => 0) E1 (fun j h1 h2 => ?_) rfl (fun j h1 h2 => by omega)
  rw [show j = L by omega, e1, gI_pI, if_pos ⟨rfl, rfl, rfl⟩]
  exact ⟨rfl, by omega⟩
