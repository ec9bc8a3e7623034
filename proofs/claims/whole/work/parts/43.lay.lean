/-! contracts: lay of the class -/
theorem c_isTrialLess {d : Nat} {σ : Mem} {Post : Option AV → Mem → Prop} {n : Nat} {f g : Nat → Nat} (hn : n ≤ 8) (hf : ∀ b, b < n → gI σ 48 0 b = nI (f b)) (hg : ∀ b, b < n → gI σ 49 0 b = nI (g b)) (f5 : ∀ b, b < n → f b < 5) (g5 : ∀ b, b < n → g b < 5) (h1 : lexlt 0 n f g → Post (some (vI 1)) σ) (h0 : lexle 0 n g f → Post (some (vI 0)) σ) : MM d M_Layer_isTrialLess [vR 45 0, vI (nI n)] σ Post := by
  refine MM.of ok_Layer_isTrialLess rfl ?_
  have key : ∀ a, a ≤ n → (∀ c, c < a → f c = g c) → WS d M_Layer_isTrialLess 2 [vR 45 0, vI (nI n), vI (nI a)] [] σ Post := by
    refine upto n ?_ ?_
    · intro hc
      exact b_Layer_isTrialLess_2 (pk_le n n (fun _ => h0 (Or.inl (fun c _ c2 => (hc c c2).symm))) (fun q => absurd q (Nat.lt_irrefl n)))
    · intro a ha ih hc
      have va : vp_in (nI a) 8 := vp_n (by omega) (by omega)
      have := f5 a ha
      have := g5 a ha
      refine b_Layer_isTrialLess_2 (pk_le n a (fun q => by omega) (fun _ => ⟨va, va, ?_⟩))
      rw [cl_n (by omega), hf a ha, hg a ha, nI_1]
      refine pk_eq (f a) (g a) (fun e => ?_) (fun e => ⟨va, va, pk_le (g a) (f a) (fun q => ?_) (fun q => ?_)⟩)
      · refine ih (fun c hc2 => ?_)
        rcases Nat.lt_or_ge c a with p | p
        · exact hc c p
        · rw [show c = a by omega]; exact e
      · exact h0 (Or.inr ⟨a, Nat.zero_le a, ha, fun c _ c2 => (hc c c2).symm, by omega⟩)
      · exact h1 ⟨a, Nat.zero_le a, ha, fun c _ c2 => hc c c2, q⟩
  refine b_Layer_isTrialLess_0 ?_
  exact key 0 (by omega) (fun c hc => by omega)
theorem c_findOfSize {d : Nat} {σ : Mem} {Post : Option AV → Mem → Prop} (T U : Nat → Nat → Prop) {n s : Nat} (hn : n ≤ 8) (hs : s ≤ 5) (hT : TA σ = T) (hU : UA σ = U) (hD : DeadOK T U σ n)
    (h1 : ∀ (τ : Mem) (f : Nat → Nat) (m : Nat), EqL [48, 49] σ τ → m < 32 → pc5 m = s → okA T U n f → inM m n f → (∀ m', m' < 32 → pc5 m' = s → ∀ g, okA T U n g → inM m' n g → lexle 0 n f g) → (∀ c, c < n → gI τ 49 0 c = nI (f c)) → Post (some (vI 1)) τ)
    (h0 : ∀ τ : Mem, EqL [48] σ τ → DeadOK T U τ n → noSz T U n s → Post (some (vI 0)) τ) : MM (d + n + 2) M_Layer_findOfSize [vR 45 0, vI (nI n), vI (nI s)] σ Post := by
  refine MM.of ok_Layer_findOfSize rfl ?_
  have key : ∀ m, m ≤ 32 → ∀ (τ : Mem) (x : Int32), DeadOK T U τ n → EqL [48, 49] σ τ → ((x = 0 ∧ EqL [48] σ τ ∧ ∀ m', m' < m → pc5 m' = s → ∀ f, okA T U n f → ¬ inM m' n f) ∨ (x = 1 ∧ ∃ (f : Nat → Nat) (mf : Nat), mf < m ∧ pc5 mf = s ∧ okA T U n f ∧ inM mf n f ∧ (∀ m', m' < m → pc5 m' = s → ∀ g, okA T U n g → inM m' n g → lexle 0 n f g) ∧ ∀ c, c < n → gI τ 49 0 c = nI (f c))) → WS (d + n + 1 + 1) M_Layer_findOfSize 5 [vR 45 0, vI (nI n), vI (nI s), vI x, vI (nI m)] [] τ Post := by
    refine upto 32 ?_ ?_
    · intro τ x hDt hE hx
      refine b_Layer_findOfSize_5 (pk_lt 31 32 (fun _ => ?_) (fun q => by omega))
      rcases hx with ⟨rfl, hE2, hx⟩ | ⟨rfl, f, mf, k1, k2, k3, k4, k5, k6⟩
      · exact ⟨Or.inl rfl, h0 τ hE2 hDt (fun m hm hp f hf => hx m hm hp f hf)⟩
      · exact ⟨Or.inr rfl, h1 τ f mf hE k1 k2 k3 k4 k5 k6⟩
    · intro m hm ih τ x hDt hE hx
      refine b_Layer_findOfSize_5 (pk_lt 31 m (fun q => by omega) (fun _ => ?_))
      refine c_bitCount hm ?_
      have hpc : pc5 m ≤ 5 := by rw [pc5_cN]; exact cN_le _ 5
      -- nothing of this mask
      have skip : ∀ τ' : Mem, DeadOK T U τ' n → EqL [48] τ τ' → (pc5 m = s → ∀ f, okA T U n f → ¬ inM m n f) → WS (d + n + 1 + 1) M_Layer_findOfSize 5 [vR 45 0, vI (nI n), vI (nI s), vI x, vI (nI (m + 1))] [] τ' Post := by
        intro τ' hD' hE' hno
        refine ih τ' x hD' (hE.tr (hE'.mono (by decide))) ?_
        rcases hx with ⟨e, hE2, hx⟩ | ⟨e, f, mf, k1, k2, k3, k4, k5, k6⟩
        · refine Or.inl ⟨e, hE2.tr hE', fun m' hm' hp => ?_⟩
          rcases Nat.lt_or_ge m' m with p | p
          · exact hx m' p hp
          · have : m' = m := by omega
            subst this; exact hno hp
        · refine Or.inr ⟨e, f, mf, by omega, k2, k3, k4, fun m' hm' hp g hg hi => ?_, fun c hc => by rw [hE'.1 49 0 c (by decide)]; exact k6 c hc⟩
          rcases Nat.lt_or_ge m' m with p | p
          · exact k5 m' p hp g hg hi
          · have : m' = m := by omega
            subst this; exact absurd hi (hno hp g hg)
      refine b_Layer_findOfSize_17 (pk_eq (pc5 m) s (fun e => ?_) (fun e => ?_))
      · refine c_openAll hn hm (fun z hz => ?_)
        refine b_Layer_findOfSize_30 ?_
        have hto : ∀ f, CpA T U (OJ z) 0 n f ↔ (okA T U n f ∧ inM m n f) := by
          intro f
          rw [okA_CpA]
          constructor
          · exact fun q => q.mono (fun b u hb hu ho => (hz b u (by omega) hu).mp ho)
          · exact fun q => q.mono (fun b u hb hu ho => (hz b u (by omega) hu).mpr ho)
        refine c_ldescend T U n (d := d) (a := 0) (by omega) hn ((TA_eq hE (by decide)).trans hT) ((UA_eq hE (by decide)).trans hU) hDt (fun υ f hF _ hDf hL hR => ?_) (fun υ hF _ hDf hL => ?_)
        · have hfo := (hto f).mp hL.1
          have hfl : ∀ g, okA T U n g → inM m n g → lexle 0 n f g := fun g g1 g2 => hL.2 g ((hto g).mpr ⟨g1, g2⟩)
          have hE3 : EqL [48, 49] σ υ := hE.tr (hF.mono (by decide))
          have cop : ∀ σ1 : Mem, σ1 = pC υ 48 0 49 0 (0 : Int32).toNatClampNeg (0 : Int32).toNatClampNeg (nI n).toNatClampNeg → EqL [48, 49] σ σ1 ∧ DeadOK T U σ1 n ∧ ∀ c, c < n → gI σ1 49 0 c = nI (f c) := by
            intro σ1 e1
            rw [cl_n (by omega), show (0 : Int32).toNatClampNeg = 0 from rfl] at e1
            refine ⟨by rw [e1]; exact hE3.pC (by decide), by rw [e1]; exact hDf, fun c hc => ?_⟩
            rw [e1, gI_pC, if_pos ⟨rfl, rfl, by omega, by omega⟩, show 0 + (c - 0) = c by omega]
            exact hR c (Nat.zero_le c) hc
          have c1 : ¬ nI n < 0 := nI_pos (by omega)
          have c2 : (0 : Int32).toNatClampNeg + (nI n).toNatClampNeg ≤ 8 := by rw [cl_n (by omega), show (0 : Int32).toNatClampNeg = 0 from rfl]; omega
          rcases hx with ⟨rfl, hE2, hx⟩ | ⟨rfl, fo, mf, k1, k2, k3, k4, k5, k6⟩
          · refine b_Layer_findOfSize_33t ⟨fun _ => ⟨c1, c2, c2, fun σ1 e1 => ?_⟩, fun q => absurd rfl q⟩
            rw [nI_1]
            obtain ⟨a1, a2, a3⟩ := cop σ1 e1
            refine ih σ1 1 a2 a1 (Or.inr ⟨rfl, f, m, by omega, e, hfo.1, hfo.2, fun m' hm' hp g hg hi => ?_, a3⟩)
            rcases Nat.lt_or_ge m' m with p | p
            · exact absurd hi (hx m' p hp g hg)
            · have : m' = m := by omega
              subst this; exact hfl g hg hi
          · refine b_Layer_findOfSize_33t ⟨fun q => absurd q (by decide), fun _ => ?_⟩
            have k6' : ∀ c, c < n → gI υ 49 0 c = nI (fo c) := fun c hc => by rw [hF.1 49 0 c (by decide)]; exact k6 c hc
            refine c_isTrialLess hn (fun b hb => hR b (Nat.zero_le b) hb) k6' (fun b hb => (hfo.1 b hb).1) (fun b hb => (k3 b hb).1) (fun q => ?_) (fun q => ?_)
            · refine b_Layer_findOfSize_45t ⟨c1, c2, c2, fun σ1 e1 => ?_⟩
              rw [nI_1]
              obtain ⟨a1, a2, a3⟩ := cop σ1 e1
              refine ih σ1 1 a2 a1 (Or.inr ⟨rfl, f, m, by omega, e, hfo.1, hfo.2, fun m' hm' hp g hg hi => ?_, a3⟩)
              rcases Nat.lt_or_ge m' m with p | p
              · exact Or.inr (lexlt_tr q (k5 m' p hp g hg hi))
              · have : m' = m := by omega
                subst this; exact hfl g hg hi
            · refine b_Layer_findOfSize_45f ?_
              rw [nI_1]
              refine ih υ 1 hDf hE3 (Or.inr ⟨rfl, fo, mf, by omega, k2, k3, k4, fun m' hm' hp g hg hi => ?_, k6'⟩)
              rcases Nat.lt_or_ge m' m with p | p
              · exact k5 m' p hp g hg hi
              · have : m' = m := by omega
                subst this; exact lexle_tr q (hfl g hg hi)
        · refine b_Layer_findOfSize_33f ?_
          rw [nI_1]
          exact skip υ hDf hF (fun _ f hf hi => hL f ((hto f).mpr ⟨hf, hi⟩))
      · rw [nI_1]
        exact skip τ hDt EqL.rf (fun q => absurd q e)
  refine b_Layer_findOfSize_0 ?_
  exact key 0 (by omega) σ 0 hD EqL.rf (Or.inl ⟨rfl, EqL.rf, fun m' hm' => by omega⟩)
theorem c_lfind {d : Nat} {σ : Mem} {Post : Option AV → Mem → Prop} (T U : Nat → Nat → Prop) {n : Nat} (hn : n ≤ 8) (hT : TA σ = T) (hU : UA σ = U)
    (h1 : ∀ (τ : Mem) (s : Nat) (f : Nat → Nat), EqL [45, 48, 49] σ τ → s ≤ 5 → LayO T U n s f → (∀ c, c < n → gI τ 49 0 c = nI (f c)) → gI τ 45 0 5 = nI n → Post (some (vI (nI s))) τ)
    (h0 : ∀ τ : Mem, EqL [48] σ τ → (∀ g, ¬ okA T U n g) → Post (some (vI (-2))) τ) : MM (d + n + 3) M_Layer_find [vR 45 0, vI (nI n)] σ Post := by
  refine MM.of ok_Layer_find rfl ?_
  have key2 : ∀ s, s ≤ 6 → ∀ τ : Mem, EqL [48] σ τ → DeadOK T U τ n → (∀ s', s' < s → noSz T U n s') → WS (d + n + 2 + 1) M_Layer_find 23 [vR 45 0, vI (nI n), vI (nI s)] [] τ Post := by
    refine upto 6 ?_ ?_
    · intro τ hE hD hs
      exact b_Layer_find_23 (pk_lt 5 6 (fun _ => h0 τ hE (fun g => layN_of hs g)) (fun q => by omega))
    · intro s hs ih τ hE hD hlo
      refine b_Layer_find_23 (pk_lt 5 s (fun q => by omega) (fun _ => ?_))
      refine c_findOfSize T U hn (by omega) ((TA_eq hE (by decide)).trans hT) ((UA_eq hE (by decide)).trans hU) hD (fun υ f m hF k1 k2 k3 k4 k5 k6 => ?_) (fun υ hF hDf hno => ?_)
      · refine b_Layer_find_34t (fun σ1 e1 => ?_)
        subst e1
        refine h1 _ s f (((hE.mono (by decide)).tr (hF.mono (by decide))).pI (by decide)) (by omega) (layO_of k1 k2 k3 k4 hlo k5) (fun c hc => ?_) ?_
        · rw [gI_pI, if_neg (by omega)]; exact k6 c hc
        · rw [gI_pI, if_pos ⟨rfl, rfl, rfl⟩]
      · refine b_Layer_find_34f ?_
        rw [nI_1]
        refine ih υ (hE.tr hF) hDf (fun s' hs' => ?_)
        rcases Nat.lt_or_ge s' s with p | p
        · exact hlo s' p
        · rw [show s' = s by omega]; exact hno
  have key : ∀ a, a ≤ 8 → ∀ τ : Mem, EqL [48] σ τ → (∀ b, b < a → gJ τ 50 0 b = 0) → WS (d + n + 2 + 1) M_Layer_find 2 [vR 45 0, vI (nI n), vI (nI a)] [] τ Post := by
    refine upto 8 ?_ ?_
    · intro τ hE hz
      refine b_Layer_find_2 (pk_le 8 8 (fun _ => ?_) (fun q => by omega))
      refine key2 0 (by omega) τ hE (fun b hb f hf => ?_) (fun s' hs' => by omega)
      have q := (hf b (Nat.le_refl b) hb).2.1
      unfold OJ at q
      rw [hz b (by omega), bJ_0] at q
      exact absurd q (by decide)
    · intro a ha ih τ hE hz
      refine b_Layer_find_2 (pk_le 8 a (fun q => by omega) (fun _ => ⟨vp_n ha (by omega), fun σ1 e1 => ?_⟩))
      rw [cl_n (by omega)] at e1
      rw [nI_1]
      subst e1
      refine ih _ hE.pJ (fun b hb => ?_)
      rw [gJ_pJ]
      by_cases p : b = a
      · rw [if_pos ⟨rfl, rfl, p⟩]
      · rw [if_neg (by omega)]; exact hz b (by omega)
  refine b_Layer_find_0 ?_
  exact key 0 (by omega) σ EqL.rf (fun b hb => by omega)
theorem t_8 : (8 : Int32).toInt = 8 := by decide
theorem c_TMlay {d : Nat} {σ : Mem} {Post : Option AV → Mem → Prop} {v : Int32} (T U : Nat → Nat → Prop) (hT : TA σ = T) (hU : UA σ = U)
    (h1 : ∀ (n : Nat) (τ : Mem) (s : Nat) (f : Nat → Nat), n ≤ 8 → v = nI n → EqL [45, 48, 49] σ τ → s ≤ 5 → LayO T U n s f → (∀ c, c < n → gI τ 49 0 c = nI (f c)) → gI τ 45 0 5 = nI n → Post (some (vI (nI s))) τ)
    (h2 : ∀ (n : Nat) (τ : Mem), n ≤ 8 → v = nI n → EqL [48] σ τ → (∀ g, ¬ okA T U n g) → Post (some (vI (-2))) τ) (h0 : (∀ n, n ≤ 8 → v ≠ nI n) → Post (some (vI (-1))) σ) : MM (d + 12) M_TM_lay [vR 0 0, vI v] σ Post := by
  refine MM.of ok_TM_lay rfl ?_
  refine b_TM_lay_0 ?_
  refine c_inRange (fun q1 q2 => ?_) (fun q => ?_)
  · rw [t_8] at q2
    obtain ⟨n, hn, rfl⟩ := t_nat (x := v) (n := 8) q1 q2 (by omega)
    refine b_TM_lay_6t ?_
    have e : d + 11 = (d + (8 - n)) + n + 3 := by omega
    show MM (d + 11) _ _ _ _
    rw [e]
    refine c_lfind T U hn hT hU (fun τ s f a1 a2 a3 a4 a5 => ?_) (fun τ a1 a2 => ?_)
    · exact b_TM_lay_17 (h1 n τ s f hn rfl a1 a2 a3 a4 a5)
    · exact b_TM_lay_17 (h2 n τ hn rfl a1 a2)
  · refine b_TM_lay_6f (h0 (fun n hn e => q ?_))
    rw [e, nI_t (by omega), t_8]
    omega
