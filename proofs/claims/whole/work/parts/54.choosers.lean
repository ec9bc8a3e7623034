/-! contracts: the choosers -/
def fB (x : Int32) (q : Nat) : Prop := bI x q = true
theorem add_t {G H : Nat} (h : G + H < 2147483648) : (nI G + nI H).toInt = ((G + H : Nat) : Int) := by rw [nI_add, nI_t h]
theorem m16 (w : Nat) : nI w * (16 : Int32) = nI (w * 16) := pk_mul w 16
theorem lexle_emp {n : Nat} {f g : Nat → Nat} : lexle n n f g := Or.inl (fun c h1 h2 => by omega)
theorem c_price16 {d : Nat} {σ : Mem} {Post : Option AV → Mem → Prop} {j w : Nat} (hj : j < 12) (h : Post none (pI σ 18 0 j (nI (w * 16 + 1)))) : MM d M_Chooser_price [vR 16 0, vI (nI j), vI (nI w)] σ Post := by
  refine MM.of ok_Chooser_price rfl ?_
  refine b_Chooser_price16_0 ⟨vp_n hj (by omega), fun σ1 e1 => ?_⟩
  rw [cl_n (by omega), m16, nI_1] at e1
  rw [e1]; exact h
theorem c_clearClashes16 {d : Nat} {σ : Mem} {Post : Option AV → Mem → Prop} (h : ∀ τ : Mem, Eqs [17] σ τ → (∀ i, i < 12 → gI τ 17 0 i = 0) → Post none τ) : MM d M_Chooser_clearClashes [vR 16 0] σ Post := by
  refine MM.of ok_Chooser_clearClashes rfl ?_
  have key : ∀ j, j ≤ 12 → ∀ τ : Mem, Eqs [17] σ τ → (∀ i, i < j → gI τ 17 0 i = 0) → WS d M_Chooser_clearClashes 2 [vR 16 0, vI (nI j)] [] τ Post := by
    refine upto 12 ?_ ?_
    · intro τ hE hz
      exact b_Chooser_clearClashes16_2 (pk_le 12 12 (fun _ => h τ hE hz) (fun q => absurd q (Nat.lt_irrefl _)))
    · intro j hj ih τ hE hz
      refine b_Chooser_clearClashes16_2 (pk_le 12 j (fun q => by omega) (fun _ => ⟨vp_n hj (by omega), fun σ1 e1 => ?_⟩))
      rw [cl_n (by omega)] at e1
      rw [nI_1]
      refine ih σ1 (by rw [e1]; exact hE.pI List.mem_cons_self) (fun i hi => ?_)
      rw [e1, gI_pI]
      by_cases p : i = j
      · rw [if_pos ⟨rfl, rfl, p⟩]
      · rw [if_neg (by omega)]; exact hz i (by omega)
  refine b_Chooser_clearClashes16_0 ?_
  exact key 0 (by omega) σ Eqs.rf (fun i hi => by omega)
/-- what stands fast while it chooses -/
def ChC16 (σ : Mem) (g : Nat → Nat) (CL : Nat → Nat → Prop) : Prop := gI σ 16 0 0 = nI 12 ∧ gI σ 16 0 1 = nI 1 ∧ (∀ i, i < 12 → gI σ 18 0 i = nI (g i) ∧ g i ≤ 16001) ∧ ∀ p q, p < 12 → q < 12 → (bI (gI σ 17 0 p) q = true ↔ CL p q)
def DF16 (σ τ : Mem) (a : Nat) : Prop := Eqs [16, 20, 21] σ τ ∧ (∀ j, j ≠ 7 → gI τ 16 0 j = gI σ 16 0 j) ∧ ∀ i, i < a → gI τ 20 0 i = gI σ 20 0 i
theorem DF16.rf {σ : Mem} {a : Nat} : DF16 σ σ a := ⟨Eqs.rf, fun _ _ => rfl, fun _ _ => rfl⟩
theorem ChC16.eq {σ τ : Mem} {g : Nat → Nat} {CL : Nat → Nat → Prop} {a : Nat} (h : ChC16 σ g CL) (hD : DF16 σ τ a) : ChC16 τ g CL := ⟨(hD.2.1 0 (by omega)).trans h.1, (hD.2.1 1 (by omega)).trans h.2.1, fun i hi => by rw [hD.1.1 18 0 i (by decide)]; exact h.2.2.1 i hi, fun p q hp hq => by rw [hD.1.1 17 0 p (by decide)]; exact h.2.2.2 p q hp hq⟩
def DR16 (σ τ : Mem) (g : Nat → Nat) (Ad : (Nat → Nat) → Prop) (a k G : Nat) : Prop := (gI τ 16 0 7 = gI σ 16 0 7 ∧ (∀ i, gI τ 21 0 i = gI σ 21 0 i) ∧ NonC 1 g Ad a k G (gI σ 16 0 7).toInt) ∨ ∃ f, BstC 12 1 g Ad a k G (gI σ 16 0 7).toInt (gI τ 16 0 7).toInt f ∧ ∀ i, i < 12 → gI τ 21 0 i = if i < a then gI σ 20 0 i else nI (f i)
theorem DR16.non {σ τ : Mem} {g : Nat → Nat} {Ad : (Nat → Nat) → Prop} {a k G : Nat} (h : DR16 σ τ g Ad a k G) : NonC 1 g Ad a k G (gI τ 16 0 7).toInt ∧ (gI σ 16 0 7).toInt ≤ (gI τ 16 0 7).toInt := by
  rcases h with ⟨h1, h2, h3⟩ | ⟨f, h1, h2⟩
  · rw [h1]; exact ⟨h3, Int.le_refl _⟩
  · exact ⟨h1.non, Int.le_of_lt h1.2.1⟩
theorem DR16.skip {σ τ : Mem} {g : Nat → Nat} {Ad : (Nat → Nat) → Prop} {a k G c : Nat} (ha : a < 12) (h : DR16 σ τ g (fun e => Ad e ∧ e a < c) a k G) (hn : ∀ e, Ad e → e a = c → ((G + vF 1 g e a k : Nat) : Int) ≤ (gI τ 16 0 7).toInt) : DR16 σ τ g (fun e => Ad e ∧ e a < c + 1) a k G := by
  rcases h with ⟨h1, h2, h3⟩ | ⟨f, h1, h2⟩
  · rw [h1] at hn; exact Or.inl ⟨h1, h2, h3.skip hn⟩
  · exact Or.inr ⟨f, h1.skip ha hn, h2⟩
/-- an option tried -/
theorem DR16.sub {σ τ τ1 υ : Mem} {g : Nat → Nat} {Ad Ad' : (Nat → Nat) → Prop} {a k G G' c : Nat} (ha : a < 12) (h : DR16 σ τ g (fun e => Ad e ∧ e a < c) a (k + 1) G) (e7 : gI τ1 16 0 7 = gI τ 16 0 7) (eH : ∀ i, gI τ1 21 0 i = gI τ 21 0 i) (eT : ∀ i, i < a → gI τ1 20 0 i = gI σ 20 0 i) (eTa : gI τ1 20 0 a = nI c) (hs : DR16 τ1 υ g Ad' (a + 1) k G') (hup : ∀ f, Ad' f → Ad (setF f a c)) (hG : G' = G + (if c < 1 then g a else 0)) (hdn : ∀ e, Ad e → e a = c → Ad' e) : DR16 σ υ g (fun e => Ad e ∧ e a < c + 1) a (k + 1) G := by
  have hn := h.non
  rcases hs with ⟨s1, s2, s3⟩ | ⟨f', s1, s2⟩
  · have h' : DR16 σ υ g (fun e => Ad e ∧ e a < c) a (k + 1) G := by
      rcases h with ⟨h1, h2, h3⟩ | ⟨f, h1, h2⟩
      · exact Or.inl ⟨by rw [s1, e7, h1], fun i => by rw [s2, eH, h2], h3⟩
      · refine Or.inr ⟨f, ?_, fun i hi => by rw [s2, eH]; exact h2 i hi⟩
        rw [s1, e7]; exact h1
    refine h'.skip ha (fun e he1 he2 => ?_)
    have z := s3 e (hdn e he1 he2)
    have ev : vF 1 g e a (k + 1) = (if c < 1 then g a else 0) + vF 1 g e (a + 1) k := by rw [vF_s]; unfold gn; rw [he2]
    rw [s1, ev, ← Nat.add_assoc, ← hG]
    exact z
  · refine Or.inr ⟨setF f' a c, ?_, fun i hi => ?_⟩
    · refine BstC.new (b := (gI τ1 16 0 7).toInt) ha (by rw [e7]; exact hn.2) (by rw [e7]; exact hn.1) s1 (hup f' s1.1) hG hdn
    · rw [s2 i hi]
      rcases Nat.lt_trichotomy i a with p | p | p
      · rw [if_pos (by omega), if_pos p]; exact eT i p
      · subst p; rw [if_pos (by omega), if_neg (by omega), setF_s]; exact eTa
      · rw [if_neg (by omega), if_neg (by omega), setF_n f' (by omega)]
theorem c_descend16 (g : Nat → Nat) (CL : Nat → Nat → Prop) (Uf : Nat → Prop) (Bn : Nat → Nat) (hBn : Bn 12 = 0) : ∀ (k : Nat) {d : Nat} {σ : Mem} {Post : Option AV → Mem → Prop} {a G : Nat} {x : Int32}, a + k = 12 → ChC16 σ g CL → (∀ j, a < j → j ≤ 12 → gI σ 19 0 j = nI (Bn j) ∧ Bn j ≤ 200000 ∧ ∀ h, AdF 12 1 CL Uf j h → vF 1 g h j (12 - j) ≤ Bn j) → (∀ q, q < 12 → bI x q = true → Uf q) → G ≤ a * 16001 → (-1 ≤ (gI σ 16 0 7).toInt ∧ (gI σ 16 0 7).toInt ≤ 200000) → (a = 12 → (gI σ 16 0 7).toInt < G) →
    (∀ τ : Mem, DF16 σ τ a → DR16 σ τ g (AdF 12 1 CL (fB x) a) a k G → Post none τ) → MM (d + k + 1) M_Chooser_descend [vR 16 0, vI (nI a), vI x, vI (nI G)] σ Post := by
  intro k
  induction k with
  | zero =>
    intro d σ Post a G x hk hc hB hU hG hb hl h
    obtain rfl : a = 12 := by omega
    refine MM.of ok_Chooser_descend rfl ?_
    refine b_Chooser_descend16_0 ?_
    rw [hc.1]
    refine pk_lt 12 12 (fun q => by omega) (fun _ σ1 e1 => ?_)
    have e0 : gI σ1 16 0 0 = nI 12 := by rw [e1, gI_pI, if_neg (by omega)]; exact hc.1
    rw [e0, cl_n (by omega), show (0 : Int32).toNatClampNeg = 0 from rfl]
    refine ⟨nI_pos (by omega), by omega, by omega, fun σ2 e2 => ?_⟩
    have e7 : gI σ2 16 0 7 = nI G := by rw [e2, gI_pC, if_neg (by omega), e1, gI_pI, if_pos ⟨rfl, rfl, rfl⟩]
    refine h σ2 ⟨?_, fun j hj => ?_, fun i hi => ?_⟩ (Or.inr ⟨fun _ => 1, ⟨AdF.none _ _ _ _ _, ?_, ?_, fun e _ => Or.inr ⟨rfl, lexle_emp⟩⟩, fun i hi => ?_⟩)
    · rw [e2, e1]; exact (Eqs.rf.pI (by decide)).pC (by decide)
    · rw [e2, gI_pC, if_neg (by omega), e1, gI_pI, if_neg (by omega)]
    · rw [e2, gI_pC, if_neg (by omega), e1, gI_pI, if_neg (by omega)]
    · rw [e7, nI_t (by omega)]; exact hl rfl
    · rw [e7, nI_t (by omega)]; rfl
    · rw [if_pos hi, e2, gI_pC, if_pos ⟨rfl, rfl, by omega, by omega⟩, show 0 + (i - 0) = i by omega, e1, gI_pI, if_neg (by omega)]
  | succ k ih =>
    intro d σ Post a G x hk hc hB hU hG hb hl h
    have ha : a < 12 := by omega
    obtain ⟨B1, B2, B3⟩ := hB (a + 1) (by omega) (by omega)
    obtain ⟨g1, g2⟩ := hc.2.2.1 a ha
    have vFle : ∀ e, vF 1 g e a (k + 1) ≤ (k + 1) * 16001 := fun e => vF_le (k + 1) a (fun i hi => (hc.2.2.1 i (by omega)).2)
    have hsum : ∀ e, G + vF 1 g e a (k + 1) ≤ 200000 := fun e => by
      have := vFle e
      have : (a + (k + 1)) * 16001 ≤ 12 * 16001 := Nat.mul_le_mul_right _ (by omega)
      rw [Nat.add_mul] at this
      omega
    have va : vp_in (nI a) 12 := vp_n ha (by omega)
    have ea : (nI a).toNatClampNeg = a := cl_n (by omega)
    refine MM.of ok_Chooser_descend rfl ?_
    -- the options
    have key : ∀ c, c ≤ 1 → ∀ (τ : Mem) (v7 : AV), DF16 σ τ a → DR16 σ τ g (fun e => AdF 12 1 CL (fB x) a e ∧ e a < c) a (k + 1) G → WS (d + k + 1 + 1) M_Chooser_descend 54 [vR 16 0, vI (nI a), vI x, vI (nI G), vI (nI (Bn (a + 1))), vI (nI (G + g a)), vI (nI c), v7] [] τ Post := by
      refine upto 1 ?_ ?_
      · intro τ v7 hD hR
        have hcT := hc.eq hD
        have hbT : -1 ≤ (gI τ 16 0 7).toInt ∧ (gI τ 16 0 7).toInt ≤ 200000 := by
          have := hR.non.2
          rcases hR with ⟨r1, _, _⟩ | ⟨f, r1, _⟩
          · rw [r1]; exact hb
          · have := r1.2.2.1; have := hsum f; omega
        have fin : ∀ υ : Mem, DF16 σ υ a → DR16 σ υ g (fun e => AdF 12 1 CL (fB x) a e ∧ e a < 1 + 1) a (k + 1) G → Post none υ := fun υ hDu hRu => by
          refine h υ hDu ?_
          rcases hRu with ⟨r1, r2, r3⟩ | ⟨f, r1, r2⟩
          · exact Or.inl ⟨r1, r2, fun e he => r3 e ⟨he, by have := (he a (Nat.le_refl a) ha).1; omega⟩⟩
          · exact Or.inr ⟨f, ⟨r1.1.1, r1.2.1, r1.2.2.1, fun e he => r1.2.2.2 e ⟨he, by have := (he a (Nat.le_refl a) ha).1; omega⟩⟩, r2⟩
        refine b_Chooser_descend16_54 ?_
        rw [hcT.2.1]
        refine pk_le 1 1 (fun _ => ?_) (fun q => absurd q (Nat.lt_irrefl _))
        have none_v : ∀ e : Nat → Nat, e a = 1 → vF 1 g e a (k + 1) = vF 1 g e (a + 1) k := fun e he => by
          rw [vF_s]; unfold gn; rw [he, if_neg (Nat.lt_irrefl _), Nat.zero_add]
        refine ⟨fun q => ?_, fun q => ⟨va, fun σ1 e1 => ?_⟩⟩
        · refine b_Chooser_descend16_160 (fin τ hD (hR.skip ha (fun e he1 he2 => ?_)))
          rw [t_le, add_t (by omega)] at q
          have z := B3 e (he1.next.mono (fun p hp hp2 => hU p hp hp2))
          rw [show 12 - (a + 1) = k by omega] at z
          rw [none_v e he2]
          omega
        · rw [t_le, add_t (by omega)] at q
          rw [ea] at e1
          rw [nI_1]
          have e7 : gI σ1 16 0 7 = gI τ 16 0 7 := by rw [e1, gI_pI, if_neg (by omega)]
          have D1 : DF16 σ σ1 a := ⟨by rw [e1]; exact hD.1.pI (by decide), fun j hj => by rw [e1, gI_pI, if_neg (by omega)]; exact hD.2.1 j hj, fun i hi => by rw [e1, gI_pI, if_neg (by omega)]; exact hD.2.2 i hi⟩
          refine ih (x := x) (by omega) (hc.eq D1) (fun j j1 j2 => by rw [D1.1.1 19 0 j (by decide)]; exact hB j (by omega) j2) hU (Nat.le_trans hG (Nat.mul_le_mul_right _ (Nat.le_succ a))) (by rw [e7]; exact hbT) (fun en => by rw [e7]; rw [en, hBn] at q; omega) (fun υ hDu hRu => ?_)
          refine b_Chooser_descend16_160 (fin υ ⟨D1.1.tr hDu.1, fun j hj => (hDu.2.1 j hj).trans (D1.2.1 j hj), fun i hi => (hDu.2.2 i (by omega)).trans (D1.2.2 i hi)⟩ ?_)
          exact DR16.sub ha hR e7 (fun i => by rw [e1, gI_pI, if_neg (by omega)]) D1.2.2 (by rw [e1, gI_pI, if_pos ⟨rfl, rfl, rfl⟩]) hRu (fun f hf => hf.upN) (by rw [if_neg (Nat.lt_irrefl _)]; rfl) (fun e he1 _ => he1.next)
      · intro c hco ihc τ v7 hD hR
        have hcT := hc.eq hD
        have hbT : -1 ≤ (gI τ 16 0 7).toInt ∧ (gI τ 16 0 7).toInt ≤ 200000 := by
          have := hR.non.2
          rcases hR with ⟨r1, _, _⟩ | ⟨f, r1, _⟩
          · rw [r1]; exact hb
          · have := r1.2.2.1; have := hsum f; omega
        have hmul : a * 1 + c < 12 := by omega
        have some_v : ∀ e : Nat → Nat, e a = c → vF 1 g e a (k + 1) = g a + vF 1 g e (a + 1) k := fun e he => by
          rw [vF_s]; unfold gn; rw [he, if_pos hco]
        refine b_Chooser_descend16_54 ?_
        rw [hcT.2.1, show nI a * nI 1 = nI (a * 1) from pk_mul a 1, nI_add (a * 1) c, nI_1]
        refine pk_le 1 c (fun q => by omega) (fun _ => ?_)
        rw [ush1 x (by omega), bit_one, cl_n (i := a * 1 + c) (by omega), ea]
        refine ⟨fun qf => ⟨fun q => ?_, fun q => ⟨va, fun σ2 e2 => ⟨vp_n hmul (by omega), ?_⟩⟩⟩, fun qf => ?_⟩
        · refine b_Chooser_descend16_124 ?_
          rw [nI_1]
          refine ihc τ _ hD (hR.skip ha (fun e he1 he2 => ?_))
          rw [t_le, add_t (by omega)] at q
          have z := B3 e ((he1.down ha (by omega)).2.mono (fun p hp hp2 => hU p hp hp2.1))
          rw [show 12 - (a + 1) = k by omega] at z
          rw [some_v e he2]
          omega
        · rw [t_le, add_t (by omega)] at q
          have e7 : gI σ2 16 0 7 = gI τ 16 0 7 := by rw [e2, gI_pI, if_neg (by omega)]
          have D1 : DF16 σ σ2 a := ⟨by rw [e2]; exact hD.1.pI (by decide), fun j hj => by rw [e2, gI_pI, if_neg (by omega)]; exact hD.2.1 j hj, fun i hi => by rw [e2, gI_pI, if_neg (by omega)]; exact hD.2.2 i hi⟩
          have hc2 := hc.eq D1
          have eF : ∀ p, p < 12 → (fB (x &&& (gI σ2 17 0 (a * 1 + c) ^^^ -1)) p ↔ fB x p ∧ ¬ CL (a * 1 + c) p) := by
            intro p hp
            unfold fB
            rw [bI_and, bI_not _ (by omega), ← hc2.2.2.2 _ p hmul hp]
            cases bI x p <;> cases bI (gI σ2 17 0 (a * 1 + c)) p <;> simp
          refine ih (by omega) hc2 (fun j j1 j2 => by rw [D1.1.1 19 0 j (by decide)]; exact hB j (by omega) j2) (fun p hp hp2 => hU p hp ((eF p hp).mp hp2).1) (by rw [Nat.add_mul, Nat.one_mul]; exact Nat.add_le_add hG g2) (by rw [e7]; exact hbT) (fun en => by rw [e7]; rw [en, hBn] at q; omega) (fun υ hDu hRu => ?_)
          refine b_Chooser_descend16_124 ?_
          rw [nI_1]
          refine ihc υ _ ⟨D1.1.tr hDu.1, fun j hj => (hDu.2.1 j hj).trans (D1.2.1 j hj), fun i hi => (hDu.2.2 i (by omega)).trans (D1.2.2 i hi)⟩ ?_
          exact DR16.sub ha hR e7 (fun i => by rw [e2, gI_pI, if_neg (by omega)]) D1.2.2 (by rw [e2, gI_pI, if_pos ⟨rfl, rfl, rfl⟩]) hRu (fun f hf => AdF.up hco qf (hf.mono (fun p hp hp2 => (eF p hp).mp hp2))) (by rw [if_pos hco]) (fun e he1 he2 => by
            have z := (he1.down ha (by omega)).2
            rw [he2] at z
            exact z.mono (fun p hp hp2 => (eF p hp).mpr hp2))
        · refine b_Chooser_descend16_124 ?_
          rw [nI_1]
          refine ihc τ _ hD (hR.skip ha (fun e he1 he2 => ?_))
          have z := (he1.down ha (by omega)).1
          rw [he2] at z
          exact absurd z qf
    refine b_Chooser_descend16_0 ?_
    rw [hc.1]
    refine pk_lt a 12 (fun _ => ?_) (fun q => by omega)
    rw [nI_1, ea, cl_n (i := a + 1) (by omega), B1, g1, nI_add]
    exact ⟨vp_n (by omega) (by omega), va, key 0 (by omega) σ vU DF16.rf (Or.inl ⟨rfl, fun _ => rfl, fun e he => by have := he.2; omega⟩)⟩
theorem c_choose16 {d : Nat} {σ : Mem} {Post : Option AV → Mem → Prop} {g : Nat → Nat} {CL : Nat → Nat → Prop} {x : Int32} (hc : ChC16 σ g CL) (h0 : gI σ 19 0 12 = 0) (h : ∀ (τ : Mem) (v : Nat) (f : Nat → Nat), Eqs [16, 19, 20, 21] σ τ → (∀ j, j ≠ 7 → gI τ 16 0 j = gI σ 16 0 j) → gI τ 19 0 12 = 0 → ChO 12 1 g CL (fB x) v f → (∀ i, i < 12 → gI τ 21 0 i = nI (f i)) → v ≤ 200000 → Post (some (vI (nI (v / 16)))) τ) : MM (d + 12 + 2) M_Chooser_choose [vR 16 0, vI x] σ Post := by
  refine MM.of ok_Chooser_choose rfl ?_
  have key : ∀ a, a ≤ 12 → ∀ (τ : Mem) (Bn : Nat → Nat), Eqs [16, 19, 20, 21] σ τ → (∀ j, j ≠ 7 → gI τ 16 0 j = gI σ 16 0 j) → Bn 12 = 0 → (∀ j, a ≤ j → j ≤ 12 → gI τ 19 0 j = nI (Bn j) ∧ Bn j ≤ 200000 ∧ ∀ h, AdF 12 1 CL (fB x) j h → vF 1 g h j (12 - j) ≤ Bn j) → (a < 12 → ∃ f, BstC 12 1 g (AdF 12 1 CL (fB x) a) a (12 - a) 0 (-1) (gI τ 16 0 7).toInt f ∧ ∀ i, a ≤ i → i < 12 → gI τ 21 0 i = nI (f i)) → WS (d + 12 + 1 + 1) M_Chooser_choose 7 [vR 16 0, vI x, vI (nI a + (-1))] [] τ Post := by
    intro a
    induction a with
    | zero =>
      intro _ τ Bn hE hK hBn hB hf
      obtain ⟨f, f1, f2⟩ := hf (by omega)
      refine b_Chooser_choose16_7 ⟨fun _ => ⟨by decide, ?_⟩, fun z => absurd (by decide) z⟩
      have hv : vF 1 g f 0 12 ≤ 12 * 16001 := vF_le 12 0 (fun i hi => (hc.2.2.1 i (by omega)).2)
      have e7 : gI τ 16 0 7 = nI (vF 1 g f 0 12) := by
        rw [t_eq, f1.2.2.1, nI_t (by omega)]
        show ((0 + vF 1 g f 0 (12 - 0) : Nat) : Int) = _
        rw [Nat.zero_add]
      rw [e7, show (16 : Int32) = nI 16 from rfl, pk_div (by omega) (by omega) (by omega)]
      refine h τ (vF 1 g f 0 12) f hE hK ?_ ⟨f1.1, rfl, fun e he => f1.2.2.2 e he⟩ (fun i hi => f2 i (Nat.zero_le i) hi) (by omega)
      have := (hB 12 (by omega) (by omega)).1
      rw [this, hBn]; rfl
    | succ a iha =>
      intro haN τ Bn hE hK hBn hB hf
      rw [pk_m1]
      refine b_Chooser_choose16_7 (pk_lt a 0 (fun z => by omega) (fun _ σ1 e1 => ?_))
      have E1 : Eqs [16, 19, 20, 21] σ σ1 := by rw [e1]; exact hE.pI (by decide)
      have K1 : ∀ j, j ≠ 7 → gI σ1 16 0 j = gI σ 16 0 j := fun j hj => by rw [e1, gI_pI, if_neg (by omega)]; exact hK j hj
      have hc1 : ChC16 σ1 g CL := ⟨(K1 0 (by omega)).trans hc.1, (K1 1 (by omega)).trans hc.2.1, fun i hi => by rw [E1.1 18 0 i (by decide)]; exact hc.2.2.1 i hi, fun p q hp hq => by rw [E1.1 17 0 p (by decide)]; exact hc.2.2.2 p q hp hq⟩
      have e7 : gI σ1 16 0 7 = -1 := by rw [e1, gI_pI, if_pos ⟨rfl, rfl, rfl⟩]
      have em : (-1 : Int32).toInt = -1 := by decide
      have hB1 : ∀ j, a < j → j ≤ 12 → gI σ1 19 0 j = nI (Bn j) ∧ Bn j ≤ 200000 ∧ ∀ h, AdF 12 1 CL (fB x) j h → vF 1 g h j (12 - j) ≤ Bn j := fun j j1 j2 => by
        have := hB j (by omega) j2
        rw [e1, gI_pI, if_neg (by omega)]; exact this
      show MM (d + 12 + 1) M_Chooser_descend [vR 16 0, vI (nI a), vI x, vI (nI 0)] σ1 _
      have ed : d + 12 + 1 = (d + a) + (12 - a) + 1 := by omega
      rw [ed]
      refine c_descend16 g CL (fB x) Bn hBn (12 - a) (by omega) hc1 hB1 (fun q _ hq => hq) (by omega) (by rw [e7, em]; omega) (fun z => by omega) (fun υ hD hR => ?_)
      have hR' : ∃ f, BstC 12 1 g (AdF 12 1 CL (fB x) a) a (12 - a) 0 (-1) (gI υ 16 0 7).toInt f ∧ ∀ i, a ≤ i → i < 12 → gI υ 21 0 i = nI (f i) := by
        rcases hR with ⟨_, _, r3⟩ | ⟨f, r1, r2⟩
        · have := r3 _ (AdF.none 12 1 CL (fB x) a)
          rw [e7, em] at this
          omega
        · rw [e7, em] at r1
          exact ⟨f, r1, fun i i1 i2 => by rw [r2 i i2, if_neg (by omega)]⟩
      obtain ⟨f, f1, f2⟩ := hR'
      have hvn : vF 1 g f a (12 - a) ≤ (12 - a) * 16001 := vF_le (12 - a) a (fun i hi => (hc.2.2.1 i (by omega)).2)
      have hvb : vF 1 g f a (12 - a) ≤ 200000 := by
        have : (12 - a) * 16001 ≤ 12 * 16001 := Nat.mul_le_mul_right _ (by omega)
        omega
      have eu : gI υ 16 0 7 = nI (vF 1 g f a (12 - a)) := by
        rw [t_eq, f1.2.2.1, nI_t (by omega), Nat.zero_add]
      refine b_Chooser_choose16_23 ⟨vp_n (by omega) (by omega), fun σ2 e2 => ?_⟩
      rw [cl_n (by omega), eu] at e2
      rw [← ed]
      refine iha (by omega) σ2 (setF Bn a (vF 1 g f a (12 - a))) ?_ (fun j hj => ?_) (by rw [setF_n Bn (by omega)]; exact hBn) (fun j j1 j2 => ?_) (fun _ => ⟨f, ?_, fun i i1 i2 => ?_⟩)
      · rw [e2]; exact (E1.tr (hD.1.mono (by decide))).pI (by decide)
      · rw [e2, gI_pI, if_neg (by omega), hD.2.1 j hj]; exact K1 j hj
      · rw [e2, gI_pI]
        by_cases z : j = a
        · subst z
          rw [if_pos ⟨rfl, rfl, rfl⟩, setF_s]
          refine ⟨rfl, hvb, fun e he => ?_⟩
          have := f1.2.2.2 e he
          omega
        · rw [if_neg (by omega), setF_n Bn z, hD.1.1 19 0 j (by decide)]
          exact hB1 j (by omega) j2
      · rw [e2, gI_pI, if_neg (by omega)]; exact f1
      · rw [e2, gI_pI, if_neg (by omega)]; exact f2 i i1 i2
  refine b_Chooser_choose16_0 ?_
  rw [hc.1, Int32.sub_eq_add_neg]
  exact key 12 (Nat.le_refl _) σ (fun _ => 0) Eqs.rf (fun _ _ => rfl) rfl (fun j j1 j2 => by
    rw [show j = 12 by omega, h0]
    exact ⟨rfl, by omega, fun e _ => Nat.le_refl _⟩) (fun z => by omega)
theorem c_price34 {d : Nat} {σ : Mem} {Post : Option AV → Mem → Prop} {j w : Nat} (hj : j < 8) (h : Post none (pI σ 36 0 j (nI (w * 16 + 1)))) : MM d M_Chooser_price [vR 34 0, vI (nI j), vI (nI w)] σ Post := by
  refine MM.of ok_Chooser_price rfl ?_
  refine b_Chooser_price34_0 ⟨vp_n hj (by omega), fun σ1 e1 => ?_⟩
  rw [cl_n (by omega), m16, nI_1] at e1
  rw [e1]; exact h
theorem c_clearClashes34 {d : Nat} {σ : Mem} {Post : Option AV → Mem → Prop} (h : ∀ τ : Mem, Eqs [35] σ τ → (∀ i, i < 32 → gI τ 35 0 i = 0) → Post none τ) : MM d M_Chooser_clearClashes [vR 34 0] σ Post := by
  refine MM.of ok_Chooser_clearClashes rfl ?_
  have key : ∀ j, j ≤ 32 → ∀ τ : Mem, Eqs [35] σ τ → (∀ i, i < j → gI τ 35 0 i = 0) → WS d M_Chooser_clearClashes 2 [vR 34 0, vI (nI j)] [] τ Post := by
    refine upto 32 ?_ ?_
    · intro τ hE hz
      exact b_Chooser_clearClashes34_2 (pk_le 32 32 (fun _ => h τ hE hz) (fun q => absurd q (Nat.lt_irrefl _)))
    · intro j hj ih τ hE hz
      refine b_Chooser_clearClashes34_2 (pk_le 32 j (fun q => by omega) (fun _ => ⟨vp_n hj (by omega), fun σ1 e1 => ?_⟩))
      rw [cl_n (by omega)] at e1
      rw [nI_1]
      refine ih σ1 (by rw [e1]; exact hE.pI List.mem_cons_self) (fun i hi => ?_)
      rw [e1, gI_pI]
      by_cases p : i = j
      · rw [if_pos ⟨rfl, rfl, p⟩]
      · rw [if_neg (by omega)]; exact hz i (by omega)
  refine b_Chooser_clearClashes34_0 ?_
  exact key 0 (by omega) σ Eqs.rf (fun i hi => by omega)
/-- what stands fast while it chooses -/
def ChC34 (σ : Mem) (g : Nat → Nat) (CL : Nat → Nat → Prop) : Prop := gI σ 34 0 0 = nI 8 ∧ gI σ 34 0 1 = nI 4 ∧ (∀ i, i < 8 → gI σ 36 0 i = nI (g i) ∧ g i ≤ 16001) ∧ ∀ p q, p < 32 → q < 32 → (bI (gI σ 35 0 p) q = true ↔ CL p q)
def DF34 (σ τ : Mem) (a : Nat) : Prop := Eqs [34, 38, 39] σ τ ∧ (∀ j, j ≠ 7 → gI τ 34 0 j = gI σ 34 0 j) ∧ ∀ i, i < a → gI τ 38 0 i = gI σ 38 0 i
theorem DF34.rf {σ : Mem} {a : Nat} : DF34 σ σ a := ⟨Eqs.rf, fun _ _ => rfl, fun _ _ => rfl⟩
theorem ChC34.eq {σ τ : Mem} {g : Nat → Nat} {CL : Nat → Nat → Prop} {a : Nat} (h : ChC34 σ g CL) (hD : DF34 σ τ a) : ChC34 τ g CL := ⟨(hD.2.1 0 (by omega)).trans h.1, (hD.2.1 1 (by omega)).trans h.2.1, fun i hi => by rw [hD.1.1 36 0 i (by decide)]; exact h.2.2.1 i hi, fun p q hp hq => by rw [hD.1.1 35 0 p (by decide)]; exact h.2.2.2 p q hp hq⟩
def DR34 (σ τ : Mem) (g : Nat → Nat) (Ad : (Nat → Nat) → Prop) (a k G : Nat) : Prop := (gI τ 34 0 7 = gI σ 34 0 7 ∧ (∀ i, gI τ 39 0 i = gI σ 39 0 i) ∧ NonC 4 g Ad a k G (gI σ 34 0 7).toInt) ∨ ∃ f, BstC 8 4 g Ad a k G (gI σ 34 0 7).toInt (gI τ 34 0 7).toInt f ∧ ∀ i, i < 8 → gI τ 39 0 i = if i < a then gI σ 38 0 i else nI (f i)
theorem DR34.non {σ τ : Mem} {g : Nat → Nat} {Ad : (Nat → Nat) → Prop} {a k G : Nat} (h : DR34 σ τ g Ad a k G) : NonC 4 g Ad a k G (gI τ 34 0 7).toInt ∧ (gI σ 34 0 7).toInt ≤ (gI τ 34 0 7).toInt := by
  rcases h with ⟨h1, h2, h3⟩ | ⟨f, h1, h2⟩
  · rw [h1]; exact ⟨h3, Int.le_refl _⟩
  · exact ⟨h1.non, Int.le_of_lt h1.2.1⟩
theorem DR34.skip {σ τ : Mem} {g : Nat → Nat} {Ad : (Nat → Nat) → Prop} {a k G c : Nat} (ha : a < 8) (h : DR34 σ τ g (fun e => Ad e ∧ e a < c) a k G) (hn : ∀ e, Ad e → e a = c → ((G + vF 4 g e a k : Nat) : Int) ≤ (gI τ 34 0 7).toInt) : DR34 σ τ g (fun e => Ad e ∧ e a < c + 1) a k G := by
  rcases h with ⟨h1, h2, h3⟩ | ⟨f, h1, h2⟩
  · rw [h1] at hn; exact Or.inl ⟨h1, h2, h3.skip hn⟩
  · exact Or.inr ⟨f, h1.skip ha hn, h2⟩
/-- an option tried -/
theorem DR34.sub {σ τ τ1 υ : Mem} {g : Nat → Nat} {Ad Ad' : (Nat → Nat) → Prop} {a k G G' c : Nat} (ha : a < 8) (h : DR34 σ τ g (fun e => Ad e ∧ e a < c) a (k + 1) G) (e7 : gI τ1 34 0 7 = gI τ 34 0 7) (eH : ∀ i, gI τ1 39 0 i = gI τ 39 0 i) (eT : ∀ i, i < a → gI τ1 38 0 i = gI σ 38 0 i) (eTa : gI τ1 38 0 a = nI c) (hs : DR34 τ1 υ g Ad' (a + 1) k G') (hup : ∀ f, Ad' f → Ad (setF f a c)) (hG : G' = G + (if c < 4 then g a else 0)) (hdn : ∀ e, Ad e → e a = c → Ad' e) : DR34 σ υ g (fun e => Ad e ∧ e a < c + 1) a (k + 1) G := by
  have hn := h.non
  rcases hs with ⟨s1, s2, s3⟩ | ⟨f', s1, s2⟩
  · have h' : DR34 σ υ g (fun e => Ad e ∧ e a < c) a (k + 1) G := by
      rcases h with ⟨h1, h2, h3⟩ | ⟨f, h1, h2⟩
      · exact Or.inl ⟨by rw [s1, e7, h1], fun i => by rw [s2, eH, h2], h3⟩
      · refine Or.inr ⟨f, ?_, fun i hi => by rw [s2, eH]; exact h2 i hi⟩
        rw [s1, e7]; exact h1
    refine h'.skip ha (fun e he1 he2 => ?_)
    have z := s3 e (hdn e he1 he2)
    have ev : vF 4 g e a (k + 1) = (if c < 4 then g a else 0) + vF 4 g e (a + 1) k := by rw [vF_s]; unfold gn; rw [he2]
    rw [s1, ev, ← Nat.add_assoc, ← hG]
    exact z
  · refine Or.inr ⟨setF f' a c, ?_, fun i hi => ?_⟩
    · refine BstC.new (b := (gI τ1 34 0 7).toInt) ha (by rw [e7]; exact hn.2) (by rw [e7]; exact hn.1) s1 (hup f' s1.1) hG hdn
    · rw [s2 i hi]
      rcases Nat.lt_trichotomy i a with p | p | p
      · rw [if_pos (by omega), if_pos p]; exact eT i p
      · subst p; rw [if_pos (by omega), if_neg (by omega), setF_s]; exact eTa
      · rw [if_neg (by omega), if_neg (by omega), setF_n f' (by omega)]
theorem c_descend34 (g : Nat → Nat) (CL : Nat → Nat → Prop) (Uf : Nat → Prop) (Bn : Nat → Nat) (hBn : Bn 8 = 0) : ∀ (k : Nat) {d : Nat} {σ : Mem} {Post : Option AV → Mem → Prop} {a G : Nat} {x : Int32}, a + k = 8 → ChC34 σ g CL → (∀ j, a < j → j ≤ 8 → gI σ 37 0 j = nI (Bn j) ∧ Bn j ≤ 200000 ∧ ∀ h, AdF 8 4 CL Uf j h → vF 4 g h j (8 - j) ≤ Bn j) → (∀ q, q < 32 → bI x q = true → Uf q) → G ≤ a * 16001 → (-1 ≤ (gI σ 34 0 7).toInt ∧ (gI σ 34 0 7).toInt ≤ 200000) → (a = 8 → (gI σ 34 0 7).toInt < G) →
    (∀ τ : Mem, DF34 σ τ a → DR34 σ τ g (AdF 8 4 CL (fB x) a) a k G → Post none τ) → MM (d + k + 1) M_Chooser_descend [vR 34 0, vI (nI a), vI x, vI (nI G)] σ Post := by
  intro k
  induction k with
  | zero =>
    intro d σ Post a G x hk hc hB hU hG hb hl h
    obtain rfl : a = 8 := by omega
    refine MM.of ok_Chooser_descend rfl ?_
    refine b_Chooser_descend34_0 ?_
    rw [hc.1]
    refine pk_lt 8 8 (fun q => by omega) (fun _ σ1 e1 => ?_)
    have e0 : gI σ1 34 0 0 = nI 8 := by rw [e1, gI_pI, if_neg (by omega)]; exact hc.1
    rw [e0, cl_n (by omega), show (0 : Int32).toNatClampNeg = 0 from rfl]
    refine ⟨nI_pos (by omega), by omega, by omega, fun σ2 e2 => ?_⟩
    have e7 : gI σ2 34 0 7 = nI G := by rw [e2, gI_pC, if_neg (by omega), e1, gI_pI, if_pos ⟨rfl, rfl, rfl⟩]
    refine h σ2 ⟨?_, fun j hj => ?_, fun i hi => ?_⟩ (Or.inr ⟨fun _ => 4, ⟨AdF.none _ _ _ _ _, ?_, ?_, fun e _ => Or.inr ⟨rfl, lexle_emp⟩⟩, fun i hi => ?_⟩)
    · rw [e2, e1]; exact (Eqs.rf.pI (by decide)).pC (by decide)
    · rw [e2, gI_pC, if_neg (by omega), e1, gI_pI, if_neg (by omega)]
    · rw [e2, gI_pC, if_neg (by omega), e1, gI_pI, if_neg (by omega)]
    · rw [e7, nI_t (by omega)]; exact hl rfl
    · rw [e7, nI_t (by omega)]; rfl
    · rw [if_pos hi, e2, gI_pC, if_pos ⟨rfl, rfl, by omega, by omega⟩, show 0 + (i - 0) = i by omega, e1, gI_pI, if_neg (by omega)]
  | succ k ih =>
    intro d σ Post a G x hk hc hB hU hG hb hl h
    have ha : a < 8 := by omega
    obtain ⟨B1, B2, B3⟩ := hB (a + 1) (by omega) (by omega)
    obtain ⟨g1, g2⟩ := hc.2.2.1 a ha
    have vFle : ∀ e, vF 4 g e a (k + 1) ≤ (k + 1) * 16001 := fun e => vF_le (k + 1) a (fun i hi => (hc.2.2.1 i (by omega)).2)
    have hsum : ∀ e, G + vF 4 g e a (k + 1) ≤ 200000 := fun e => by
      have := vFle e
      have : (a + (k + 1)) * 16001 ≤ 12 * 16001 := Nat.mul_le_mul_right _ (by omega)
      rw [Nat.add_mul] at this
      omega
    have va : vp_in (nI a) 8 := vp_n ha (by omega)
    have ea : (nI a).toNatClampNeg = a := cl_n (by omega)
    refine MM.of ok_Chooser_descend rfl ?_
    -- the options
    have key : ∀ c, c ≤ 4 → ∀ (τ : Mem) (v7 : AV), DF34 σ τ a → DR34 σ τ g (fun e => AdF 8 4 CL (fB x) a e ∧ e a < c) a (k + 1) G → WS (d + k + 1 + 1) M_Chooser_descend 54 [vR 34 0, vI (nI a), vI x, vI (nI G), vI (nI (Bn (a + 1))), vI (nI (G + g a)), vI (nI c), v7] [] τ Post := by
      refine upto 4 ?_ ?_
      · intro τ v7 hD hR
        have hcT := hc.eq hD
        have hbT : -1 ≤ (gI τ 34 0 7).toInt ∧ (gI τ 34 0 7).toInt ≤ 200000 := by
          have := hR.non.2
          rcases hR with ⟨r1, _, _⟩ | ⟨f, r1, _⟩
          · rw [r1]; exact hb
          · have := r1.2.2.1; have := hsum f; omega
        have fin : ∀ υ : Mem, DF34 σ υ a → DR34 σ υ g (fun e => AdF 8 4 CL (fB x) a e ∧ e a < 4 + 1) a (k + 1) G → Post none υ := fun υ hDu hRu => by
          refine h υ hDu ?_
          rcases hRu with ⟨r1, r2, r3⟩ | ⟨f, r1, r2⟩
          · exact Or.inl ⟨r1, r2, fun e he => r3 e ⟨he, by have := (he a (Nat.le_refl a) ha).1; omega⟩⟩
          · exact Or.inr ⟨f, ⟨r1.1.1, r1.2.1, r1.2.2.1, fun e he => r1.2.2.2 e ⟨he, by have := (he a (Nat.le_refl a) ha).1; omega⟩⟩, r2⟩
        refine b_Chooser_descend34_54 ?_
        rw [hcT.2.1]
        refine pk_le 4 4 (fun _ => ?_) (fun q => absurd q (Nat.lt_irrefl _))
        have none_v : ∀ e : Nat → Nat, e a = 4 → vF 4 g e a (k + 1) = vF 4 g e (a + 1) k := fun e he => by
          rw [vF_s]; unfold gn; rw [he, if_neg (Nat.lt_irrefl _), Nat.zero_add]
        refine ⟨fun q => ?_, fun q => ⟨va, fun σ1 e1 => ?_⟩⟩
        · refine b_Chooser_descend34_160 (fin τ hD (hR.skip ha (fun e he1 he2 => ?_)))
          rw [t_le, add_t (by omega)] at q
          have z := B3 e (he1.next.mono (fun p hp hp2 => hU p hp hp2))
          rw [show 8 - (a + 1) = k by omega] at z
          rw [none_v e he2]
          omega
        · rw [t_le, add_t (by omega)] at q
          rw [ea] at e1
          rw [nI_1]
          have e7 : gI σ1 34 0 7 = gI τ 34 0 7 := by rw [e1, gI_pI, if_neg (by omega)]
          have D1 : DF34 σ σ1 a := ⟨by rw [e1]; exact hD.1.pI (by decide), fun j hj => by rw [e1, gI_pI, if_neg (by omega)]; exact hD.2.1 j hj, fun i hi => by rw [e1, gI_pI, if_neg (by omega)]; exact hD.2.2 i hi⟩
          refine ih (x := x) (by omega) (hc.eq D1) (fun j j1 j2 => by rw [D1.1.1 37 0 j (by decide)]; exact hB j (by omega) j2) hU (Nat.le_trans hG (Nat.mul_le_mul_right _ (Nat.le_succ a))) (by rw [e7]; exact hbT) (fun en => by rw [e7]; rw [en, hBn] at q; omega) (fun υ hDu hRu => ?_)
          refine b_Chooser_descend34_160 (fin υ ⟨D1.1.tr hDu.1, fun j hj => (hDu.2.1 j hj).trans (D1.2.1 j hj), fun i hi => (hDu.2.2 i (by omega)).trans (D1.2.2 i hi)⟩ ?_)
          exact DR34.sub ha hR e7 (fun i => by rw [e1, gI_pI, if_neg (by omega)]) D1.2.2 (by rw [e1, gI_pI, if_pos ⟨rfl, rfl, rfl⟩]) hRu (fun f hf => hf.upN) (by rw [if_neg (Nat.lt_irrefl _)]; rfl) (fun e he1 _ => he1.next)
      · intro c hco ihc τ v7 hD hR
        have hcT := hc.eq hD
        have hbT : -1 ≤ (gI τ 34 0 7).toInt ∧ (gI τ 34 0 7).toInt ≤ 200000 := by
          have := hR.non.2
          rcases hR with ⟨r1, _, _⟩ | ⟨f, r1, _⟩
          · rw [r1]; exact hb
          · have := r1.2.2.1; have := hsum f; omega
        have hmul : a * 4 + c < 32 := by omega
        have some_v : ∀ e : Nat → Nat, e a = c → vF 4 g e a (k + 1) = g a + vF 4 g e (a + 1) k := fun e he => by
          rw [vF_s]; unfold gn; rw [he, if_pos hco]
        refine b_Chooser_descend34_54 ?_
        rw [hcT.2.1, show nI a * nI 4 = nI (a * 4) from pk_mul a 4, nI_add (a * 4) c, nI_1]
        refine pk_le 4 c (fun q => by omega) (fun _ => ?_)
        rw [ush1 x (by omega), bit_one, cl_n (i := a * 4 + c) (by omega), ea]
        refine ⟨fun qf => ⟨fun q => ?_, fun q => ⟨va, fun σ2 e2 => ⟨vp_n hmul (by omega), ?_⟩⟩⟩, fun qf => ?_⟩
        · refine b_Chooser_descend34_124 ?_
          rw [nI_1]
          refine ihc τ _ hD (hR.skip ha (fun e he1 he2 => ?_))
          rw [t_le, add_t (by omega)] at q
          have z := B3 e ((he1.down ha (by omega)).2.mono (fun p hp hp2 => hU p hp hp2.1))
          rw [show 8 - (a + 1) = k by omega] at z
          rw [some_v e he2]
          omega
        · rw [t_le, add_t (by omega)] at q
          have e7 : gI σ2 34 0 7 = gI τ 34 0 7 := by rw [e2, gI_pI, if_neg (by omega)]
          have D1 : DF34 σ σ2 a := ⟨by rw [e2]; exact hD.1.pI (by decide), fun j hj => by rw [e2, gI_pI, if_neg (by omega)]; exact hD.2.1 j hj, fun i hi => by rw [e2, gI_pI, if_neg (by omega)]; exact hD.2.2 i hi⟩
          have hc2 := hc.eq D1
          have eF : ∀ p, p < 32 → (fB (x &&& (gI σ2 35 0 (a * 4 + c) ^^^ -1)) p ↔ fB x p ∧ ¬ CL (a * 4 + c) p) := by
            intro p hp
            unfold fB
            rw [bI_and, bI_not _ (by omega), ← hc2.2.2.2 _ p hmul hp]
            cases bI x p <;> cases bI (gI σ2 35 0 (a * 4 + c)) p <;> simp
          refine ih (by omega) hc2 (fun j j1 j2 => by rw [D1.1.1 37 0 j (by decide)]; exact hB j (by omega) j2) (fun p hp hp2 => hU p hp ((eF p hp).mp hp2).1) (by rw [Nat.add_mul, Nat.one_mul]; exact Nat.add_le_add hG g2) (by rw [e7]; exact hbT) (fun en => by rw [e7]; rw [en, hBn] at q; omega) (fun υ hDu hRu => ?_)
          refine b_Chooser_descend34_124 ?_
          rw [nI_1]
          refine ihc υ _ ⟨D1.1.tr hDu.1, fun j hj => (hDu.2.1 j hj).trans (D1.2.1 j hj), fun i hi => (hDu.2.2 i (by omega)).trans (D1.2.2 i hi)⟩ ?_
          exact DR34.sub ha hR e7 (fun i => by rw [e2, gI_pI, if_neg (by omega)]) D1.2.2 (by rw [e2, gI_pI, if_pos ⟨rfl, rfl, rfl⟩]) hRu (fun f hf => AdF.up hco qf (hf.mono (fun p hp hp2 => (eF p hp).mp hp2))) (by rw [if_pos hco]) (fun e he1 he2 => by
            have z := (he1.down ha (by omega)).2
            rw [he2] at z
            exact z.mono (fun p hp hp2 => (eF p hp).mpr hp2))
        · refine b_Chooser_descend34_124 ?_
          rw [nI_1]
          refine ihc τ _ hD (hR.skip ha (fun e he1 he2 => ?_))
          have z := (he1.down ha (by omega)).1
          rw [he2] at z
          exact absurd z qf
    refine b_Chooser_descend34_0 ?_
    rw [hc.1]
    refine pk_lt a 8 (fun _ => ?_) (fun q => by omega)
    rw [nI_1, ea, cl_n (i := a + 1) (by omega), B1, g1, nI_add]
    exact ⟨vp_n (by omega) (by omega), va, key 0 (by omega) σ vU DF34.rf (Or.inl ⟨rfl, fun _ => rfl, fun e he => by have := he.2; omega⟩)⟩
theorem c_choose34 {d : Nat} {σ : Mem} {Post : Option AV → Mem → Prop} {g : Nat → Nat} {CL : Nat → Nat → Prop} {x : Int32} (hc : ChC34 σ g CL) (h0 : gI σ 37 0 8 = 0) (h : ∀ (τ : Mem) (v : Nat) (f : Nat → Nat), Eqs [34, 37, 38, 39] σ τ → (∀ j, j ≠ 7 → gI τ 34 0 j = gI σ 34 0 j) → gI τ 37 0 8 = 0 → ChO 8 4 g CL (fB x) v f → (∀ i, i < 8 → gI τ 39 0 i = nI (f i)) → v ≤ 200000 → Post (some (vI (nI (v / 16)))) τ) : MM (d + 8 + 2) M_Chooser_choose [vR 34 0, vI x] σ Post := by
  refine MM.of ok_Chooser_choose rfl ?_
  have key : ∀ a, a ≤ 8 → ∀ (τ : Mem) (Bn : Nat → Nat), Eqs [34, 37, 38, 39] σ τ → (∀ j, j ≠ 7 → gI τ 34 0 j = gI σ 34 0 j) → Bn 8 = 0 → (∀ j, a ≤ j → j ≤ 8 → gI τ 37 0 j = nI (Bn j) ∧ Bn j ≤ 200000 ∧ ∀ h, AdF 8 4 CL (fB x) j h → vF 4 g h j (8 - j) ≤ Bn j) → (a < 8 → ∃ f, BstC 8 4 g (AdF 8 4 CL (fB x) a) a (8 - a) 0 (-1) (gI τ 34 0 7).toInt f ∧ ∀ i, a ≤ i → i < 8 → gI τ 39 0 i = nI (f i)) → WS (d + 8 + 1 + 1) M_Chooser_choose 7 [vR 34 0, vI x, vI (nI a + (-1))] [] τ Post := by
    intro a
    induction a with
    | zero =>
      intro _ τ Bn hE hK hBn hB hf
      obtain ⟨f, f1, f2⟩ := hf (by omega)
      refine b_Chooser_choose34_7 ⟨fun _ => ⟨by decide, ?_⟩, fun z => absurd (by decide) z⟩
      have hv : vF 4 g f 0 8 ≤ 8 * 16001 := vF_le 8 0 (fun i hi => (hc.2.2.1 i (by omega)).2)
      have e7 : gI τ 34 0 7 = nI (vF 4 g f 0 8) := by
        rw [t_eq, f1.2.2.1, nI_t (by omega)]
        show ((0 + vF 4 g f 0 (8 - 0) : Nat) : Int) = _
        rw [Nat.zero_add]
      rw [e7, show (16 : Int32) = nI 16 from rfl, pk_div (by omega) (by omega) (by omega)]
      refine h τ (vF 4 g f 0 8) f hE hK ?_ ⟨f1.1, rfl, fun e he => f1.2.2.2 e he⟩ (fun i hi => f2 i (Nat.zero_le i) hi) (by omega)
      have := (hB 8 (by omega) (by omega)).1
      rw [this, hBn]; rfl
    | succ a iha =>
      intro haN τ Bn hE hK hBn hB hf
      rw [pk_m1]
      refine b_Chooser_choose34_7 (pk_lt a 0 (fun z => by omega) (fun _ σ1 e1 => ?_))
      have E1 : Eqs [34, 37, 38, 39] σ σ1 := by rw [e1]; exact hE.pI (by decide)
      have K1 : ∀ j, j ≠ 7 → gI σ1 34 0 j = gI σ 34 0 j := fun j hj => by rw [e1, gI_pI, if_neg (by omega)]; exact hK j hj
      have hc1 : ChC34 σ1 g CL := ⟨(K1 0 (by omega)).trans hc.1, (K1 1 (by omega)).trans hc.2.1, fun i hi => by rw [E1.1 36 0 i (by decide)]; exact hc.2.2.1 i hi, fun p q hp hq => by rw [E1.1 35 0 p (by decide)]; exact hc.2.2.2 p q hp hq⟩
      have e7 : gI σ1 34 0 7 = -1 := by rw [e1, gI_pI, if_pos ⟨rfl, rfl, rfl⟩]
      have em : (-1 : Int32).toInt = -1 := by decide
      have hB1 : ∀ j, a < j → j ≤ 8 → gI σ1 37 0 j = nI (Bn j) ∧ Bn j ≤ 200000 ∧ ∀ h, AdF 8 4 CL (fB x) j h → vF 4 g h j (8 - j) ≤ Bn j := fun j j1 j2 => by
        have := hB j (by omega) j2
        rw [e1, gI_pI, if_neg (by omega)]; exact this
      show MM (d + 8 + 1) M_Chooser_descend [vR 34 0, vI (nI a), vI x, vI (nI 0)] σ1 _
      have ed : d + 8 + 1 = (d + a) + (8 - a) + 1 := by omega
      rw [ed]
      refine c_descend34 g CL (fB x) Bn hBn (8 - a) (by omega) hc1 hB1 (fun q _ hq => hq) (by omega) (by rw [e7, em]; omega) (fun z => by omega) (fun υ hD hR => ?_)
      have hR' : ∃ f, BstC 8 4 g (AdF 8 4 CL (fB x) a) a (8 - a) 0 (-1) (gI υ 34 0 7).toInt f ∧ ∀ i, a ≤ i → i < 8 → gI υ 39 0 i = nI (f i) := by
        rcases hR with ⟨_, _, r3⟩ | ⟨f, r1, r2⟩
        · have := r3 _ (AdF.none 8 4 CL (fB x) a)
          rw [e7, em] at this
          omega
        · rw [e7, em] at r1
          exact ⟨f, r1, fun i i1 i2 => by rw [r2 i i2, if_neg (by omega)]⟩
      obtain ⟨f, f1, f2⟩ := hR'
      have hvn : vF 4 g f a (8 - a) ≤ (8 - a) * 16001 := vF_le (8 - a) a (fun i hi => (hc.2.2.1 i (by omega)).2)
      have hvb : vF 4 g f a (8 - a) ≤ 200000 := by
        have : (8 - a) * 16001 ≤ 12 * 16001 := Nat.mul_le_mul_right _ (by omega)
        omega
      have eu : gI υ 34 0 7 = nI (vF 4 g f a (8 - a)) := by
        rw [t_eq, f1.2.2.1, nI_t (by omega), Nat.zero_add]
      refine b_Chooser_choose34_23 ⟨vp_n (by omega) (by omega), fun σ2 e2 => ?_⟩
      rw [cl_n (by omega), eu] at e2
      rw [← ed]
      refine iha (by omega) σ2 (setF Bn a (vF 4 g f a (8 - a))) ?_ (fun j hj => ?_) (by rw [setF_n Bn (by omega)]; exact hBn) (fun j j1 j2 => ?_) (fun _ => ⟨f, ?_, fun i i1 i2 => ?_⟩)
      · rw [e2]; exact (E1.tr (hD.1.mono (by decide))).pI (by decide)
      · rw [e2, gI_pI, if_neg (by omega), hD.2.1 j hj]; exact K1 j hj
      · rw [e2, gI_pI]
        by_cases z : j = a
        · subst z
          rw [if_pos ⟨rfl, rfl, rfl⟩, setF_s]
          refine ⟨rfl, hvb, fun e he => ?_⟩
          have := f1.2.2.2 e he
          omega
        · rw [if_neg (by omega), setF_n Bn z, hD.1.1 37 0 j (by decide)]
          exact hB1 j (by omega) j2
      · rw [e2, gI_pI, if_neg (by omega)]; exact f1
      · rw [e2, gI_pI, if_neg (by omega)]; exact f2 i i1 i2
  refine b_Chooser_choose34_0 ?_
  rw [hc.1, Int32.sub_eq_add_neg]
  exact key 8 (Nat.le_refl _) σ (fun _ => 0) Eqs.rf (fun _ _ => rfl) rfl (fun j j1 j2 => by
    rw [show j = 8 by omega, h0]
    exact ⟨rfl, by omega, fun e _ => Nat.le_refl _⟩) (fun z => by omega)
