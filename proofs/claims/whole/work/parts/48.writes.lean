/-! contracts: words, names, contractions of the model -/
theorem m12 (a : Nat) : (12 : Int32) * nI a = nI (12 * a) := pk_mul 12 a
theorem m4 (a : Nat) : (4 : Int32) * nI a = nI (4 * a) := pk_mul 4 a
def lnS (σ : Mem) (k : Nat) : Nat := (gI σ 64 0 k).toNatClampNeg
def CtrM (σ : Mem) : Prop := ∀ k, k < 10 → gI σ 64 0 k = nI (lnS σ k) ∧ lnS σ k ≤ 4 ∧ (lnS σ k ≠ 0 → 2 ≤ lnS σ k)
def WdM (σ : Mem) (n L : Nat) : Prop := gI σ 67 0 n = nI L ∧ L ≤ 12 ∧ ∀ j, j < L → 97 ≤ (gI σ 68 0 (12 * n + j)).toInt ∧ (gI σ 68 0 (12 * n + j)).toInt ≤ 122
def stM (σ : Mem) (n L k i : Nat) : Prop := k < 10 ∧ lnS σ k ≠ 0 ∧ i + lnS σ k ≤ L ∧ ∀ j, j < lnS σ k → gI σ 68 0 (12 * n + i + j) = gI σ 65 0 (4 * k + j)
def lcM (σ : Mem) (n i : Nat) : Int32 := gI σ 62 0 (gI σ 68 0 (12 * n + i) - 97).toNatClampNeg
def ckM (σ : Mem) (k : Nat) : Int32 := gI σ 66 0 k
theorem stOKM {σ : Mem} {n L : Nat} (hc : CtrM σ) : stOK L (stM σ n L) (lnS σ) := fun k i hk h => ⟨(hc k hk).2.2 h.2.1, h.2.2.1⟩
theorem c_Mstands {d : Nat} {σ : Mem} {Post : Option AV → Mem → Prop} {n k i L : Nat} (hn : n < 8) (hk : k < 10) (hi : i ≤ 12) (hw : WdM σ n L) (hC : CtrM σ) (h1 : stM σ n L k i → Post (some (vI 1)) σ) (h0 : ¬ stM σ n L k i → Post (some (vI 0)) σ) : MM d M_MD_stands [vR 51 0, vI (nI k), vI (nI n), vI (nI i)] σ Post := by
  obtain ⟨c1, c2, c3⟩ := hC k hk
  have hL := hw.2.1
  refine MM.of ok_MD_stands rfl ?_
  have vk : vp_in (nI k) 10 := vp_n hk (by omega)
  have ek : (nI k).toNatClampNeg = k := cl_n (by omega)
  have en : (nI n).toNatClampNeg = n := cl_n (by omega)
  have key : i + lnS σ k ≤ L → lnS σ k ≠ 0 → ∀ j, j ≤ lnS σ k → (∀ j', j' < j → gI σ 68 0 (12 * n + i + j') = gI σ 65 0 (4 * k + j')) → WS d M_MD_stands 31 [vR 51 0, vI (nI k), vI (nI n), vI (nI i), vI (nI j)] [] σ Post := by
    intro z1 z2
    refine upto (lnS σ k) ?_ ?_
    · intro hj
      refine b_MD_stands_31 ⟨vk, ?_⟩
      rw [ek, c1]
      exact pk_le _ _ (fun _ => h1 ⟨hk, z2, z1, hj⟩) (fun z => absurd z (Nat.lt_irrefl _))
    · intro j hj ih hh
      refine b_MD_stands_31 ⟨vk, ?_⟩
      rw [ek, c1, m12, nI_add, nI_add, m4, nI_add, cl_n (by omega), cl_n (by omega), nI_1]
      refine pk_le (lnS σ k) j (fun z => by omega) (fun _ => ⟨vp_n (by omega) (by omega), vp_n (by omega) (by omega), fun e => ih (fun j' hj' => ?_), fun e => h0 (fun z => e (z.2.2.2 j hj))⟩)
      rcases Nat.lt_or_ge j' j with p | p
      · exact hh j' p
      · rw [show j' = j by omega]; exact e
  refine b_MD_stands_0 ⟨vk, ?_⟩
  rw [ek, en, c1, hw.1, nI_add]
  refine pk_eq (lnS σ k) 0 (fun e => h0 (fun z => z.2.1 e)) (fun e => ⟨vk, vp_n hn (by omega), pk_le (i + lnS σ k) L (fun q => ?_) (fun q => h0 (fun z => by have := z.2.2.1; omega))⟩)
  exact key q e 0 (by omega) (fun j' hj => by omega)
/-- the least among the letter's and the first contractions -/
def LsP (st : Nat → Nat → Prop) (len m : Nat → Nat) (i k c : Nat) : Prop := c ≤ m (i + 1) + 1 ∧ (∀ k', k' < k → st k' i → c ≤ m (i + len k') + 1) ∧ (c = m (i + 1) + 1 ∨ ∃ k', k' < k ∧ st k' i ∧ c = m (i + len k') + 1)
theorem LsP.no {st : Nat → Nat → Prop} {len m : Nat → Nat} {i k c : Nat} (h : LsP st len m i k c) (hk : st k i → c ≤ m (i + len k) + 1) : LsP st len m i (k + 1) c := by
  refine ⟨h.1, fun k' h1 h2 => ?_, ?_⟩
  · rcases Nat.lt_or_ge k' k with q | q
    · exact h.2.1 k' q h2
    · rw [show k' = k by omega] at h2 ⊢; exact hk h2
  · rcases h.2.2 with z | ⟨k', a, b, c⟩
    · exact Or.inl z
    · exact Or.inr ⟨k', by omega, b, c⟩
theorem LsP.take {st : Nat → Nat → Prop} {len m : Nat → Nat} {i k c : Nat} (h : LsP st len m i k c) (hk : st k i) (hc : m (i + len k) + 1 < c) : LsP st len m i (k + 1) (m (i + len k) + 1) := by
  refine ⟨by have := h.1; omega, fun k' h1 h2 => ?_, Or.inr ⟨k, by omega, hk, rfl⟩⟩
  rcases Nat.lt_or_ge k' k with q | q
  · have := h.2.1 k' q h2; omega
  · rw [show k' = k by omega]; exact Nat.le_refl _
theorem LsP.done {st : Nat → Nat → Prop} {len m : Nat → Nat} {i c : Nat} (h : LsP st len m i 10 c) (hl : ∀ k, st k i → 0 < len k) : LsA st len (setF m i c) i := by
  have ek : ∀ k', st k' i → setF m i c (i + len k') = m (i + len k') := fun k' a => setF_n m (by have := hl k' a; omega)
  refine ⟨by rw [setF_s, setF_n m (by omega)]; exact h.1, fun k a b => by rw [setF_s, ek k b]; exact h.2.1 k a b, ?_⟩
  rw [setF_s, setF_n m (by omega)]
  rcases h.2.2 with z | ⟨k', a, b, z⟩
  · exact Or.inl z
  · exact Or.inr ⟨k', a, b, by rw [ek k' b]; exact z⟩
/-- the longest best part among the first contractions -/
def MSt (st : Nat → Nat → Prop) (len m : Nat → Nat) (lc ck : Nat → Int32) (i k p : Nat) (f : Int32) : Prop := (p = 1 ∧ f = lc i ∧ ∀ k', k' < k → st k' i → m i ≠ m (i + len k') + 1) ∨ ∃ k0, k0 < k ∧ st k0 i ∧ m i = m (i + len k0) + 1 ∧ p = len k0 ∧ f = ck k0 ∧ (∀ k', k' < k → st k' i → m i = m (i + len k') + 1 → len k' ≤ len k0) ∧ ∀ k', k' < k0 → st k' i → m i = m (i + len k') + 1 → len k' < len k0
theorem MSt.no {st : Nat → Nat → Prop} {len m : Nat → Nat} {lc ck : Nat → Int32} {i k p : Nat} {f : Int32} (h : MSt st len m lc ck i k p f) (hk : st k i → m i = m (i + len k) + 1 → 2 ≤ len k ∧ len k ≤ p) : MSt st len m lc ck i (k + 1) p f := by
  rcases h with ⟨h1, h2, h3⟩ | ⟨k0, k1, k2, k3, k4, k5, k6, k7⟩
  · refine Or.inl ⟨h1, h2, fun k' a b c => ?_⟩
    rcases Nat.lt_or_ge k' k with q | q
    · exact h3 k' q b c
    · rw [show k' = k by omega] at b c
      have := hk b c; omega
  · refine Or.inr ⟨k0, by omega, k2, k3, k4, k5, fun k' a b c => ?_, k7⟩
    rcases Nat.lt_or_ge k' k with q | q
    · exact k6 k' q b c
    · rw [show k' = k by omega] at b c ⊢
      have := hk b c; omega
theorem MSt.take {st : Nat → Nat → Prop} {len m : Nat → Nat} {lc ck : Nat → Int32} {i k p : Nat} {f : Int32} (h : MSt st len m lc ck i k p f) (hk : st k i) (he : m i = m (i + len k) + 1) (hl : p < len k) : MSt st len m lc ck i (k + 1) (len k) (ck k) := by
  have old : ∀ k', k' < k → st k' i → m i = m (i + len k') + 1 → len k' < len k := by
    intro k' a b c
    rcases h with ⟨h1, h2, h3⟩ | ⟨k0, k1, k2, k3, k4, k5, k6, k7⟩
    · exact absurd c (h3 k' a b)
    · have := k6 k' a b c; omega
  refine Or.inr ⟨k, by omega, hk, he, rfl, rfl, fun k' a b c => ?_, old⟩
  rcases Nat.lt_or_ge k' k with q | q
  · exact Nat.le_of_lt (old k' q b c)
  · rw [show k' = k by omega]; exact Nat.le_refl _
theorem MSt.done {st : Nat → Nat → Prop} {len m : Nat → Nat} {lc ck : Nat → Int32} {i p : Nat} {f : Int32} (h : MSt st len m lc ck i 10 p f) (ha : LsA st len m i) : SpS st len m lc ck i p f := by
  rcases h with ⟨h1, h2, h3⟩ | ⟨k0, k1, k2, k3, k4, k5, k6, k7⟩
  · refine Or.inl ⟨h1, h2, ?_, h3⟩
    rcases ha.2.2 with z | ⟨k', a, b, z⟩
    · exact z
    · exact absurd z (h3 k' a b)
  · exact Or.inr ⟨k0, k1, k2, k3, k4, k5, k6, k7⟩
theorem stM_eq {σ τ : Mem} {n L : Nat} (hE : Eqs [72, 73] σ τ) : stM τ n L = stM σ n L ∧ lnS τ = lnS σ := by
  have eln : lnS τ = lnS σ := by funext k; unfold lnS; rw [hE.1 64 0 k (by decide)]
  refine ⟨?_, eln⟩
  funext k i
  unfold stM
  rw [eln]
  have : (∀ j, j < lnS σ k → gI τ 68 0 (12 * n + i + j) = gI τ 65 0 (4 * k + j)) = (∀ j, j < lnS σ k → gI σ 68 0 (12 * n + i + j) = gI σ 65 0 (4 * k + j)) := by
    apply forall_congr; intro j
    rw [hE.1 68 _ _ (by decide), hE.1 65 _ _ (by decide)]
  rw [this]
theorem WdM.eq {σ τ : Mem} {n L : Nat} (h : WdM σ n L) (hE : Eqs [72, 73] σ τ) : WdM τ n L := ⟨(hE.1 67 0 n (by decide)).trans h.1, h.2.1, fun j hj => by rw [hE.1 68 _ _ (by decide)]; exact h.2.2 j hj⟩
theorem CtrM.eq {σ τ : Mem} (h : CtrM σ) (hE : Eqs [72, 73] σ τ) : CtrM τ := fun k hk => by
  unfold lnS; rw [hE.1 64 0 k (by decide)]; exact h k hk
theorem c_Mwrites {d : Nat} {σ : Mem} {Post : Option AV → Mem → Prop} {n L : Nat} (hn : n < 8) (hw : WdM σ n L) (hC : CtrM σ) (h : ∀ (τ : Mem) (N : Nat) (cells : Nat → Int32), Eqs [72, 73] σ τ → N ≤ L → SpO L (stM σ n L) (lnS σ) (lcM σ n) (ckM σ) N cells → (∀ j, j < N → gI τ 73 0 j = cells j) → Post (some (vI (nI N))) τ) : MM (d + 1) M_MD_writes [vR 51 0, vI (nI n)] σ Post := by
  have hL := hw.2.1
  have hsO : stOK L (stM σ n L) (lnS σ) := stOKM hC
  have hlen : ∀ k i, stM σ n L k i → 0 < lnS σ k := fun k i hk => by have := hsO k i hk.1 hk; omega
  have en : (nI n).toNatClampNeg = n := cl_n (by omega)
  refine MM.of ok_MD_writes rfl ?_
  have out : ∀ (m : Nat → Nat) (τ0 : Mem), Eqs [72, 73] σ τ0 → (∀ j, j ≤ L → gI τ0 72 0 j = nI (m j)) → Lst L (stM σ n L) (lnS σ) m → WS (d + 1) M_MD_writes 123 [vR 51 0, vI (nI n), vI (nI L), vI (0 : Int32), vI (0 : Int32), vU, vU] [] τ0 Post := by
    intro m τ0 hE0 hm hL0
    have hN := hL0.le 0 (Nat.zero_le L)
    have key2 : ∀ e cur j, cur + e = L → ∀ (τ : Mem) (v5 v6 : AV), Eqs [73] τ0 τ → Chn L (stM σ n L) (lnS σ) m (lcM σ n) (ckM σ) (fun j => gI τ 73 0 j) j cur → WS (d + 1) M_MD_writes 123 [vR 51 0, vI (nI n), vI (nI L), vI (nI cur), vI (nI j), v5, v6] [] τ Post := by
      intro e
      induction e using Nat.strongRecOn with
      | ind e ih =>
        intro cur j hce τ v5 v6 hE hc
        have iv := hc.inv hsO
        have E0 : Eqs [72, 73] σ τ := hE0.tr (hE.mono (by decide))
        refine b_MD_writes_123 (pk_le L cur (fun z => ⟨vp_n (i := 0) (by omega) (by omega), ?_⟩) (fun z => ?_))
        · have ecur : cur = L := by omega
          have ej : j = m 0 := by rw [ecur, hL0.1] at iv; omega
          subst ej
          rw [show (0 : Int32).toNatClampNeg = 0 from rfl, hE.1 72 0 0 (by decide), hm 0 (Nat.zero_le L)]
          exact h τ (m 0) (fun j => gI τ 73 0 j) E0 (by omega) (Chn.fin hL0 rfl hc) (fun j _ => rfl)
        · have hj : j < m 0 := by
            have a := (hL0.2 cur z).2.2
            rcases a with a | ⟨k, _, _, a⟩ <;> omega
          have eL : gI τ 68 0 (12 * n + cur) = gI σ 68 0 (12 * n + cur) := E0.1 68 _ _ (by decide)
          have hb := hw.2.2 cur z
          have es : (gI σ 68 0 (12 * n + cur) - 97).toInt = (gI σ 68 0 (12 * n + cur)).toInt - 97 := by rw [t_sub, t_97] <;> rw [t_97] <;> omega
          rw [m12, nI_add, cl_n (i := 12 * n + cur) (by omega), cl_n (i := j) (by omega), eL, E0.1 62 _ _ (by decide)]
          refine ⟨vp_n (by omega) (by omega), vp_t (by omega) (by omega), vp_n (by omega) (by omega), fun σ1 e1 => ?_⟩
          have E1 : Eqs [73] τ0 σ1 := by rw [e1]; exact hE.pI (by decide)
          have key3 : ∀ k, k ≤ 10 → ∀ (υ : Mem) (p : Nat) (f : Int32), Eqs [73] τ0 υ → (∀ j', j' < j → gI υ 73 0 j' = gI τ 73 0 j') → gI υ 73 0 j = f → p ≤ 4 → MSt (stM σ n L) (lnS σ) m (lcM σ n) (ckM σ) cur k p f → WS (d + 1) M_MD_writes 160 [vR 51 0, vI (nI n), vI (nI L), vI (nI cur), vI (nI j), vI (nI p), vI (nI k)] [] υ Post := by
            refine upto 10 ?_ ?_
            · intro υ p f hU hlow hcell hp4 hM
              refine b_MD_writes_160 (pk_le 10 10 (fun _ => ?_) (fun q => by omega))
              rw [nI_add, nI_1]
              have sps := hM.done (hL0.2 cur z)
              have s4 := sps.in hsO z
              refine ih (L - (cur + p)) (by omega) (cur + p) (j + 1) (by omega) υ _ _ hU (hc.s z (by show SpS _ _ _ _ _ _ _ (gI υ 73 0 j); rw [hcell]; exact sps) hlow)
            · intro k hk ihk υ p f hU hlow hcell hp4 hM
              have EU : Eqs [72, 73] σ υ := hE0.tr (hU.mono (by decide))
              have vk : vp_in (nI k) 10 := vp_n hk (by omega)
              have ek : (nI k).toNatClampNeg = k := cl_n (by omega)
              obtain ⟨c1, c2, c3⟩ := hC k hk
              have c1' : gI υ 64 0 k = nI (lnS σ k) := (EU.1 64 0 k (by decide)).trans c1
              refine b_MD_writes_160 (pk_le 10 k (fun q => by omega) (fun _ => ?_))
              refine c_Mstands hn hk (by omega) (hw.eq EU) (hC.eq EU) (fun q => ?_) (fun q => ?_)
              · rw [(stM_eq EU).1] at q
                have q3 := q.2.2.1
                have q2 := hsO k cur hk q
                refine b_MD_writes_175t ⟨vk, ?_⟩
                rw [ek, c1', nI_add, cl_n (i := cur + lnS σ k) (by omega), cl_n (i := cur) (by omega), hU.1 72 0 _ (by decide), hU.1 72 0 _ (by decide), hm _ q3, hm cur (by omega), nI_1, nI_1]
                have hb1 := hL0.le cur (by omega)
                have hb2 := hL0.le (cur + lnS σ k) q3
                refine ⟨vp_n (by omega) (by omega), vp_n (by omega) (by omega), pk_eq (m (cur + lnS σ k) + 1) (m cur) (fun e => ⟨vk, pk_lt p (lnS σ k) (fun e2 => ⟨vk, vk, vp_n (by omega) (by omega), fun σ2 e3 => ?_⟩) (fun e2 => ?_)⟩) (fun e => ?_)⟩
                · rw [cl_n (by omega), EU.1 66 0 k (by decide)] at e3
                  refine ihk σ2 (lnS σ k) (ckM σ k) (by rw [e3]; exact hU.pI (by decide)) (fun j' hj' => by rw [e3, gI_pI, if_neg (by omega)]; exact hlow j' hj') (by rw [e3, gI_pI, if_pos ⟨rfl, rfl, rfl⟩]; rfl) (by omega) (hM.take q e.symm e2)
                · exact ihk υ p f hU hlow hcell hp4 (hM.no (fun _ _ => ⟨q2.1, e2⟩))
                · exact ihk υ p f hU hlow hcell hp4 (hM.no (fun _ z => absurd z.symm e))
              · rw [(stM_eq EU).1] at q
                refine b_MD_writes_175f ?_
                rw [nI_1]
                exact ihk υ p f hU hlow hcell hp4 (hM.no (fun z => absurd z q))
          exact key3 0 (by omega) σ1 1 (lcM σ n cur) E1 (fun j' hj' => by rw [e1, gI_pI, if_neg (by omega)]) (by rw [e1, gI_pI, if_pos ⟨rfl, rfl, rfl⟩]; rfl) (by omega) (Or.inl ⟨rfl, rfl, fun k' hk' => by omega⟩)
    exact key2 L 0 0 (by omega) τ0 vU vU Eqs.rf Chn.z
  have key : ∀ i, i ≤ L → ∀ (τ : Mem) (m : Nat → Nat) (v4 : AV), Eqs [72, 73] σ τ → (∀ j, i ≤ j → j ≤ L → gI τ 72 0 j = nI (m j)) → m L = 0 → (∀ j, i ≤ j → j < L → LsA (stM σ n L) (lnS σ) m j ∧ m j ≤ L - j) → WS (d + 1) M_MD_writes 18 [vR 51 0, vI (nI n), vI (nI L), vI (nI i + (-1)), v4, vU, vU] [] τ Post := by
    intro i
    induction i with
    | zero =>
      intro _ τ m v4 hE hm hmL hj
      refine b_MD_writes_18 ⟨fun _ => ?_, fun z => absurd (by decide) z⟩
      exact out m τ hE (fun j hjL => hm j (Nat.zero_le j) hjL) ⟨hmL, fun j hjL => (hj j (Nat.zero_le j) hjL).1⟩
    | succ i ih =>
      intro hiL τ m v4 hE hm hmL hj
      rw [pk_m1]
      have ei : (nI i).toNatClampNeg = i := cl_n (by omega)
      have mbd : ∀ j, i + 1 ≤ j → j ≤ L → m j ≤ L - j := fun j h1 h2 => by
        rcases Nat.lt_or_ge j L with z | z
        · exact (hj j h1 z).2
        · rw [show j = L by omega, hmL]; omega
      refine b_MD_writes_18 (pk_lt i 0 (fun z => by omega) (fun _ => ?_))
      have v13 : vp_in (nI i) 13 := vp_n (by omega) (by omega)
      rw [nI_1, ei, cl_n (i := i + 1) (by omega), hm (i + 1) (Nat.le_refl _) hiL, nI_1]
      refine ⟨vp_n (by omega) (by omega), v13, fun σ1 e1 => ?_⟩
      have key3 : ∀ k, k ≤ 10 → ∀ (υ : Mem) (c : Nat), Eqs [72] σ1 υ → gI υ 72 0 i = nI c → (∀ j, j ≠ i → gI υ 72 0 j = gI σ1 72 0 j) → LsP (stM σ n L) (lnS σ) m i k c → WS (d + 1) M_MD_writes 41 [vR 51 0, vI (nI n), vI (nI L), vI (nI i), vI (nI k), vU, vU] [] υ Post := by
        have E1 : Eqs [72, 73] σ σ1 := by rw [e1]; exact hE.pI (by decide)
        have hm1 : ∀ j, i < j → j ≤ L → gI σ1 72 0 j = nI (m j) := fun j h1 h2 => by rw [e1, gI_pI, if_neg (by omega)]; exact hm j (by omega) h2
        refine upto 10 ?_ ?_
        · intro υ c hU hc hoth hP
          refine b_MD_writes_41 (pk_le 10 10 (fun _ => ?_) (fun q => by omega))
          have EU : Eqs [72, 73] σ υ := E1.tr (hU.mono (by decide))
          have hci : c ≤ L - i := by have := hP.1; have := mbd (i + 1) (by omega) hiL; omega
          refine ih (by omega) υ (setF m i c) _ EU (fun j h1 h2 => ?_) (by rw [setF_n m (by omega)]; exact hmL) (fun j h1 h2 => ?_)
          · by_cases z : j = i
            · subst z; rw [setF_s]; exact hc
            · rw [setF_n m z, hoth j z]; exact hm1 j (by omega) h2
          · by_cases z : j = i
            · subst z
              refine ⟨hP.done (fun k hk => hlen k j hk), ?_⟩
              rw [setF_s]; exact hci
            · rw [setF_n m z]
              have a := hj j (by omega) h2
              exact ⟨a.1.cg (fun x hx => setF_n m (by omega)), a.2⟩
        · intro k hk ihk υ c hU hc hoth hP
          have EU : Eqs [72, 73] σ υ := E1.tr (hU.mono (by decide))
          have vk : vp_in (nI k) 10 := vp_n hk (by omega)
          have ek : (nI k).toNatClampNeg = k := cl_n (by omega)
          obtain ⟨c1, c2, c3⟩ := hC k hk
          have c1' : gI υ 64 0 k = nI (lnS σ k) := (EU.1 64 0 k (by decide)).trans c1
          refine b_MD_writes_41 (pk_le 10 k (fun q => by omega) (fun _ => ?_))
          refine c_Mstands hn hk (by omega) (hw.eq EU) (hC.eq EU) (fun q => ?_) (fun q => ?_)
          · rw [(stM_eq EU).1] at q
            have q3 := q.2.2.1
            have q2 := hsO k i hk q
            have hmk : gI υ 72 0 (i + lnS σ k) = nI (m (i + lnS σ k)) := (hoth _ (by omega)).trans (hm1 _ (by omega) q3)
            have hb1 := mbd (i + lnS σ k) (by omega) q3
            have hb2 : c ≤ L - i := by have := hP.1; have := mbd (i + 1) (by omega) hiL; omega
            refine b_MD_writes_56t ⟨vk, ?_⟩
            rw [ek, c1', nI_add, cl_n (i := i + lnS σ k) (by omega), ei, hmk, hc, nI_1, nI_1]
            refine ⟨vp_n (by omega) (by omega), v13, pk_le c (m (i + lnS σ k) + 1) (fun e => ?_) (fun e => ⟨vk, vp_n (by omega) (by omega), v13, fun σ2 e2 => ?_⟩)⟩
            · exact ihk υ c hU hc hoth (hP.no (fun _ => e))
            · refine ihk σ2 _ (by rw [e2]; exact hU.pI (by decide)) (by rw [e2, gI_pI, if_pos ⟨rfl, rfl, rfl⟩]) (fun j hj => ?_) (hP.take q e)
              rw [e2, gI_pI, if_neg (by omega)]; exact hoth j hj
          · rw [(stM_eq EU).1] at q
            refine b_MD_writes_56f ?_
            rw [nI_1]
            exact ihk υ c hU hc hoth (hP.no (fun z => absurd z q))
      exact key3 0 (by omega) σ1 (m (i + 1) + 1) Eqs.rf (by rw [e1, gI_pI, if_pos ⟨rfl, rfl, rfl⟩]) (fun _ _ => rfl) ⟨Nat.le_refl _, fun k' hk' => by omega, Or.inl rfl⟩
  refine b_MD_writes_0 ?_
  rw [en, hw.1, cl_n (by omega), Int32.sub_eq_add_neg]
  refine ⟨vp_n hn (by omega), vp_n (by omega) (by omega), fun σ1 e1 => ?_⟩
  have E1 : Eqs [72, 73] σ σ1 := by rw [e1]; exact Eqs.rf.pI (by decide)
  refine key L (Nat.le_refl L) σ1 (fun _ => 0) vU E1 (fun j h1 h2 => ?_) rfl (fun j h1 h2 => by omega)
  rw [show j = L by omega, e1, gI_pI, if_pos ⟨rfl, rfl, rfl⟩]
  rfl
