/-! contracts: keep of the class -/
def thW (σ : Mem) (w : Nat) : Prop := 0 < (gI σ 2 w 3).toInt
def dgW (σ : Mem) (w : Nat) : Prop := gI σ 2 w 6 ≠ 0 ∧ 0 < (gI σ 2 w 3).toInt
def clW (σ : Mem) (p q : Nat) : Prop := p ≠ q ∧ NearW σ p q (shW σ p) (shW σ q) (gI σ 0 0 8).toInt
def wtW (σ : Mem) (w : Nat) : Nat := (gI σ 2 w 5).toNatClampNeg
def WtOK (σ : Mem) : Prop := ∀ w, w < 12 → gI σ 2 w 5 = nI (wtW σ w) ∧ wtW σ w ≤ 1000
theorem NearW.sym {σ : Mem} {a b sa sb : Nat} {g : Int} (h : NearW σ a b sa sb g) : NearW σ b a sb sa g := by
  obtain ⟨i, j, h1, h2, h3⟩ := h
  exact ⟨j, i, h2, h1, (closeZ_comm _ _ _).mp h3⟩
theorem clW.sym {σ : Mem} {p q : Nat} (h : clW σ p q) : clW σ q p := ⟨fun e => h.1 e.symm, h.2.sym⟩
theorem NearW_eq {ks : List Nat} {σ τ : Mem} {a b sa sb : Nat} {g : Int} (h : Eqs ks σ τ) (h3 : 3 ∉ ks) (h4 : 4 ∉ ks) (h5 : 5 ∉ ks) : NearW τ a b sa sb g ↔ NearW σ a b sa sb g := by
  unfold NearW
  constructor
  · rintro ⟨i, j, a1, a2, a3⟩; rw [lnW_eq h h3 h4 h5, lnW_eq h h3 h4 h5] at a3; exact ⟨i, j, a1, a2, a3⟩
  · rintro ⟨i, j, a1, a2, a3⟩; exact ⟨i, j, a1, a2, by rw [lnW_eq h h3 h4 h5, lnW_eq h h3 h4 h5]; exact a3⟩
theorem c_measure {d : Nat} {σ : Mem} {Post : Option AV → Mem → Prop} (hv : AllV σ) (hg : 0 ≤ (gI σ 0 0 8).toInt ∧ (gI σ 0 0 8).toInt ≤ 100) (hw : WtOK σ) (h : ∀ (τ : Mem) (x : Int32), Eqs [11, 12, 17, 18] σ τ → (∀ q, q < 32 → (bI x q = true ↔ q < 12 ∧ thW σ q)) → (∀ p q, p < 12 → q < 12 → (bI (gI τ 17 0 p) q = true ↔ clW σ p q)) → (∀ i, i < 12 → gI τ 18 0 i = nI (wtW σ i * 16 + 1)) → Post (some (vI x)) τ) : MM (d + 4) M_Keeper_measure [vR 15 0, vR 1 0, vR 10 0, vI (gI σ 0 0 8)] σ Post := by
  refine MM.of ok_Keeper_measure rfl ?_
  refine b_Keeper_measure_0 ?_
  refine c_clearClashes16 (fun τ0 hE0 hz => ?_)
  refine b_Keeper_measure_10 ?_
  have key : ∀ a, a ≤ 12 → ∀ (τ : Mem) (x : Int32) (v6 : AV), Eqs [11, 12, 17, 18] σ τ → (∀ q, q < 32 → (bI x q = true ↔ q < a ∧ thW σ q)) → (∀ p q, p < 12 → q < 12 → (bI (gI τ 17 0 p) q = true ↔ clW σ p q ∧ p < a ∧ q < a)) → (∀ i, i < a → gI τ 18 0 i = nI (wtW σ i * 16 + 1)) → WS (d + 3 + 1) M_Keeper_measure 13 [vR 15 0, vR 1 0, vR 10 0, vI (gI σ 0 0 8), vI x, vI (nI a), v6] [] τ Post := by
    refine upto 12 ?_ ?_
    · intro τ x v6 hE hx hc hgn
      refine b_Keeper_measure_13 (pk_le 12 12 (fun _ => h τ x hE hx (fun p q hp hq => ?_) hgn) (fun q => by omega))
      rw [hc p q hp hq]
      exact ⟨fun z => z.1, fun z => ⟨z, hp, hq⟩⟩
    · intro a ha ih τ x v6 hE hx hc hgn
      have va : vp_in (nI a) 12 := vp_n ha (by omega)
      have ea : (nI a).toNatClampNeg = a := cl_n (by omega)
      refine b_Keeper_measure_13 (pk_le 12 a (fun q => by omega) (fun _ => ⟨va, ?_⟩))
      rw [ea, hE.1 2 a 5 (by decide), (hw a ha).1]
      refine c_price16 ha ?_
      obtain ⟨τ1, e1⟩ : ∃ z, z = pI τ 18 0 a (nI (wtW σ a * 16 + 1)) := ⟨_, rfl⟩
      rw [← e1]
      have E1 : Eqs [11, 12, 17, 18] σ τ1 := by rw [e1]; exact hE.pI (by decide)
      have c1 : ∀ p, gI τ1 17 0 p = gI τ 17 0 p := fun p => by rw [e1, gI_pI, if_neg (by omega)]
      have g1 : ∀ i, i < a + 1 → gI τ1 18 0 i = nI (wtW σ i * 16 + 1) := fun i hi => by
        rw [e1, gI_pI]
        by_cases p : i = a
        · rw [if_pos ⟨rfl, rfl, p⟩, p]
        · rw [if_neg (by omega)]; exact hgn i (by omega)
      have inn : ∀ y : Int32, (∀ q, q < 32 → (bI y q = true ↔ q < a + 1 ∧ thW σ q)) → ∀ b, b ≤ a → ∀ υ : Mem, Eqs [11, 12, 17, 18] σ υ → (∀ p q, p < 12 → q < 12 → (bI (gI υ 17 0 p) q = true ↔ clW σ p q ∧ ((p < a ∧ q < a) ∨ (p = a ∧ q < b) ∨ (q = a ∧ p < b)))) → (∀ i, i < a + 1 → gI υ 18 0 i = nI (wtW σ i * 16 + 1)) → WS (d + 3 + 1) M_Keeper_measure 58 [vR 15 0, vR 1 0, vR 10 0, vI (gI σ 0 0 8), vI y, vI (nI a), vI (nI b)] [] υ Post := by
        intro y hy
        refine upto a ?_ ?_
        · intro υ hU hcu hgu
          refine b_Keeper_measure_58 (pk_le a a (fun _ => ?_) (fun q => absurd q (Nat.lt_irrefl a)))
          rw [nI_1]
          refine ih υ y _ hU hy (fun p q hp hq => ?_) hgu
          rw [hcu p q hp hq]
          constructor
          · rintro ⟨z1, z2⟩; exact ⟨z1, by omega, by omega⟩
          · rintro ⟨z1, z2, z3⟩
            have := z1.1
            exact ⟨z1, by omega⟩
        · intro b hb ihb υ hU hcu hgu
          refine b_Keeper_measure_58 (pk_le a b (fun q => by omega) (fun _ => ⟨va, vp_n (by omega) (by omega), ?_⟩))
          rw [ea, cl_n (i := b) (by omega)]
          have n2 : 2 ∉ [11, 12, 17, 18] ∧ 3 ∉ [11, 12, 17, 18] ∧ 4 ∉ [11, 12, 17, 18] ∧ 5 ∉ [11, 12, 17, 18] := by decide
          have hab : clW σ a b ↔ NearW σ a b (shW σ a) (shW σ b) (gI σ 0 0 8).toInt := ⟨fun z => z.2, fun z => ⟨by omega, z⟩⟩
          have step : ∀ υ' : Mem, Eqs [11, 12, 17, 18] σ υ' → (∀ p q, p < 12 → q < 12 → (bI (gI υ' 17 0 p) q = true ↔ clW σ p q ∧ ((p < a ∧ q < a) ∨ (p = a ∧ q < b + 1) ∨ (q = a ∧ p < b + 1)))) → (∀ i, i < a + 1 → gI υ' 18 0 i = nI (wtW σ i * 16 + 1)) → WS (d + 3 + 1) M_Keeper_measure 96 [vR 15 0, vR 1 0, vR 10 0, vI (gI σ 0 0 8), vI y, vI (nI a), vI (nI b)] [] υ' Post := fun υ' h1 h2 h3 => by
            refine b_Keeper_measure_96 ?_
            rw [nI_1]
            exact ihb υ' h1 h2 h3
          refine c_areTooNear ((hv a ha).eq hU n2.1 n2.2.1 n2.2.2.1 n2.2.2.2) ((hv b (by omega)).eq hU n2.1 n2.2.1 n2.2.2.1 n2.2.2.2) hg (fun τ2 E2 q => ?_) (fun τ2 E2 q => ?_)
          · rw [NearW_eq hU n2.2.1 n2.2.2.1 n2.2.2.2, ← hab] at q
            refine b_Keeper_measure_78t ?_
            refine c_join17 (by omega) ha (by omega) (fun τ3 hJ => ?_)
            have e17 : ∀ p, gI τ2 17 0 p = gI υ 17 0 p := fun p => E2.1 17 0 p (by decide)
            refine step τ3 ((hU.tr (E2.mono (by decide))).tr (hJ.1.mono (by decide))) (fun p r hp hr => ?_) (fun i hi => by rw [hJ.1.1 18 0 i (by decide), E2.1 18 0 i (by decide)]; exact hgu i hi)
            rw [hJ.2 p r (by omega), e17]
            by_cases z : (p = a ∧ r = b) ∨ (p = b ∧ r = a)
            · rw [if_pos z]
              refine ⟨fun _ => ?_, fun _ => by decide⟩
              rcases z with ⟨rfl, rfl⟩ | ⟨rfl, rfl⟩
              · exact ⟨q, by omega⟩
              · exact ⟨q.sym, by omega⟩
            · rw [if_neg z, hcu p r hp hr]
              constructor
              · rintro ⟨z1, z2⟩; exact ⟨z1, by omega⟩
              · rintro ⟨z1, z2⟩; exact ⟨z1, by omega⟩
          · rw [NearW_eq hU n2.2.1 n2.2.2.1 n2.2.2.2, ← hab] at q
            refine b_Keeper_measure_78f ?_
            refine step τ2 (hU.tr (E2.mono (by decide))) (fun p r hp hr => ?_) (fun i hi => by rw [E2.1 18 0 i (by decide)]; exact hgu i hi)
            rw [E2.1 17 0 p (by decide), hcu p r hp hr]
            constructor
            · rintro ⟨z1, z2⟩; exact ⟨z1, by omega⟩
            · rintro ⟨z1, z2⟩
              refine ⟨z1, ?_⟩
              rcases Nat.lt_or_ge p a with y1 | y1
              · rcases Nat.lt_or_ge r a with y2 | y2
                · exact Or.inl ⟨y1, y2⟩
                · have e3 : r = a := by omega
                  subst e3
                  by_cases e4 : p = b
                  · subst e4; exact absurd z1.sym q
                  · omega
              · have e3 : p = a := by omega
                subst e3
                by_cases e4 : r = b
                · subst e4; exact absurd z1 q
                · omega
      have hc1 : ∀ p q, p < 12 → q < 12 → (bI (gI τ1 17 0 p) q = true ↔ clW σ p q ∧ ((p < a ∧ q < a) ∨ (p = a ∧ q < 0) ∨ (q = a ∧ p < 0))) := fun p q hp hq => by
        rw [c1, hc p q hp hq]
        constructor
        · rintro ⟨z1, z2⟩; exact ⟨z1, by omega⟩
        · rintro ⟨z1, z2⟩; exact ⟨z1, by omega⟩
      refine b_Keeper_measure_36 ⟨va, ?_⟩
      rw [ea, E1.1 2 a 3 (by decide)]
      refine ⟨fun z => inn x (fun q hq => ?_) 0 (by omega) τ1 E1 hc1 g1, fun z => inn _ (fun q hq => ?_) 0 (by omega) τ1 E1 hc1 g1⟩
      · rw [t_le, t_0] at z
        rw [hx q hq]
        constructor
        · rintro ⟨z1, z2⟩; exact ⟨by omega, z2⟩
        · rintro ⟨z1, z2⟩
          refine ⟨?_, z2⟩
          rcases Nat.lt_or_ge q a with y | y
          · exact y
          · have e : q = a := by omega
            subst e
            unfold thW at z2
            omega
      · rw [t_le, t_0] at z
        rw [f_or _ _ _ (by omega) hq]
        by_cases e : q = a
        · rw [if_pos e]
          refine ⟨fun _ => ⟨by omega, ?_⟩, fun _ => rfl⟩
          subst e
          unfold thW
          omega
        · rw [if_neg e, hx q hq]
          constructor
          · rintro ⟨z1, z2⟩; exact ⟨by omega, z2⟩
          · rintro ⟨z1, z2⟩; exact ⟨by omega, z2⟩
  refine key 0 (by omega) τ0 0 vU (hE0.mono (by decide)) (fun q _ => by rw [bI_0]; constructor <;> intro z <;> simp at z) (fun p q hp hq => ?_) (fun i hi => by omega)
  rw [hz p hp, bI_0]
  constructor
  · intro z; exact absurd z (by decide)
  · intro z; omega
def ChInv16 (σ : Mem) : Prop := gI σ 16 0 0 = nI 12 ∧ gI σ 16 0 1 = nI 1 ∧ gI σ 19 0 12 = 0
theorem ChO.congr {n o : Nat} {g : Nat → Nat} {CL : Nat → Nat → Prop} {F F' : Nat → Prop} {v : Nat} {f : Nat → Nat} (h : ChO n o g CL F v f) (hF : ∀ q, q < n * o → (F q ↔ F' q)) : ChO n o g CL F' v f := ⟨h.1.mono (fun q hq => (hF q hq).mp), h.2.1, fun e he => h.2.2 e (he.mono (fun q hq => (hF q hq).mpr))⟩
def dgOK (σ : Mem) : Prop := ∀ i j, i < 12 → j < 12 → dgW σ i → dgW σ j → ¬ clW σ i j
theorem c_TMkeep {d : Nat} {σ : Mem} {Post : Option AV → Mem → Prop} (hv : AllV σ) (hg : 0 ≤ (gI σ 0 0 8).toInt ∧ (gI σ 0 0 8).toInt ≤ 100) (hw : WtOK σ) (hI : ChInv16 σ) (h1 : ∀ (τ : Mem) (f : Nat → Nat), Eqs [11, 12, 15, 16, 17, 18, 19, 20, 21] σ τ → ChInv16 τ → gI τ 15 0 1 = 1 → dgOK σ → KpO (thW σ) (dgW σ) (clW σ) (wtW σ) f → (∀ i, i < 12 → gI τ 21 0 i = nI (f i)) → Post (some (vI (nI (vF 1 (wtW σ) f 0 12)))) τ) (h0 : ∀ τ : Mem, Eqs [11, 12, 17, 18] σ τ → ¬ dgOK σ → Post (some (vI (-1))) τ) : MM (d + 16) M_TM_keep [vR 0 0] σ Post := by
  refine MM.of ok_TM_keep rfl ?_
  refine b_TM_keep_0 ?_
  refine MM.of ok_Keeper_find rfl ?_
  refine b_Keeper_find_0 ?_
  show MM (d + 10 + 4) _ _ _ _
  refine c_measure hv hg hw (fun τ x hE hx hc hgn => ?_)
  refine b_Keeper_find_7 ?_
  have edg : ∀ w, (gI τ 2 w 6 ≠ 0 ∧ 0 < (gI τ 2 w 3).toInt) ↔ dgW σ w := fun w => by rw [hE.1 2 w 6 (by decide), hE.1 2 w 3 (by decide)]; exact Iff.rfl
  -- the dangers
  have key : ∀ w, w ≤ 12 → ∀ y : Int32, (∀ q, q < 12 → (bI y q = true ↔ thW σ q ∧ ∀ w', w' < w → dgW σ w' → ¬ clW σ w' q)) → WS (d + 14 + 1) M_Keeper_find 12 [vR 15 0, vR 1 0, vR 10 0, vI (gI σ 0 0 8), vI y, vI (nI w)] [] τ (fun r τ => WS (d + 15 + 1) M_TM_keep 19 [vR 0 0] (r.toList ++ []) τ Post) := by
    refine upto 12 ?_ ?_
    · intro y hy
      refine b_Keeper_find_12 (pk_le 12 12 (fun _ => ?_) (fun q => by omega))
      have key2 : ∀ w, w ≤ 12 → (∀ w', w' < w → dgW σ w' → bI y w' = true) → WS (d + 14 + 1) M_Keeper_find 55 [vR 15 0, vR 1 0, vR 10 0, vI (gI σ 0 0 8), vI y, vI (nI w)] [] τ (fun r τ => WS (d + 15 + 1) M_TM_keep 19 [vR 0 0] (r.toList ++ []) τ Post) := by
        refine upto 12 ?_ ?_
        · intro hdn
          refine b_Keeper_find_55 (pk_le 12 12 (fun _ σ1 e1 => ?_) (fun q => by omega))
          have E1 : Eqs [15] τ σ1 := by rw [e1]; exact Eqs.rf.pI (by decide)
          have hok : dgOK σ := fun i j hi hj hdi hdj => by
            have := (hy j hj).mp (hdn j hj hdj)
            exact this.2 i hi hdi
          have hC : ChC16 σ1 (fun i => wtW σ i * 16 + 1) (clW σ) := by
            refine ⟨?_, ?_, fun i hi => ?_, fun p q hp hq => ?_⟩
            · rw [E1.1 16 0 0 (by decide), hE.1 16 0 0 (by decide)]; exact hI.1
            · rw [E1.1 16 0 1 (by decide), hE.1 16 0 1 (by decide)]; exact hI.2.1
            · rw [E1.1 18 0 i (by decide)]
              have := (hw i hi).2
              exact ⟨hgn i hi, by dsimp only; omega⟩
            · rw [E1.1 17 0 p (by decide)]; exact hc p q hp hq
          show MM (d + 12 + 2) _ _ _ _
          refine c_choose16 hC (by rw [E1.1 19 0 12 (by decide), hE.1 19 0 12 (by decide)]; exact hI.2.2) (fun υ v f hU hK hB hO hf hv2 => ?_)
          refine b_Keeper_find_104 (b_TM_keep_19 ?_)
          have hO2 := ChO_KpO (th := thW σ) (dg := dgW σ) (nr := clW σ) (wt := wtW σ) (fun i j z => z.sym) (fun i z => z.1 rfl) (fun i hi z => z.2) hok (hO.congr (F' := fun q => q < 12 ∧ thW σ q ∧ ∀ w, w < 12 → dgW σ w → ¬ clW σ w q) (fun q hq => by
            have := hy q (by omega)
            unfold fB
            rw [this]
            exact ⟨fun z => ⟨by omega, z⟩, fun z => z.2⟩))
          have ev : v / 16 = vF 1 (wtW σ) f 0 12 := by
            rw [hO2.2, vF_lin]
            have := vF_one_le f
            omega
          rw [ev]
          refine h1 υ f (((hE.mono (by decide)).tr (E1.mono (by decide))).tr (hU.mono (by decide))) ⟨?_, ?_, hB⟩ ?_ hok hO2.1 hf
          · rw [hK 0 (by omega)]; exact hC.1
          · rw [hK 1 (by omega)]; exact hC.2.1
          · rw [hU.1 15 0 1 (by decide), e1, gI_pI, if_pos ⟨rfl, rfl, rfl⟩]
        · intro w hw12 ih hdn
          refine b_Keeper_find_55 (pk_le 12 w (fun q => by omega) (fun _ => ⟨vp_n hw12 (by omega), ?_⟩))
          rw [cl_n (by omega)]
          refine c_isDangerThere (fun z => ?_) (fun z => ?_)
          · rw [edg] at z
            refine b_Keeper_find_69t ?_
            rw [ush1 y (by omega), bit_zero]
            refine ⟨fun q => ?_, fun q => ?_⟩
            · refine b_TM_keep_19 (h0 τ hE (fun hok => q ?_))
              exact (hy w hw12).mpr ⟨z.2, fun w' hw' hd' => hok w' w hw' hw12 hd' z⟩
            · rw [nI_1]
              refine ih (fun w' hw' hd' => ?_)
              rcases Nat.lt_or_ge w' w with p | p
              · exact hdn w' p hd'
              · rw [show w' = w by omega]; exact Classical.not_not.mp q
          · rw [edg] at z
            refine b_Keeper_find_69f ?_
            rw [nI_1]
            refine ih (fun w' hw' hd' => ?_)
            rcases Nat.lt_or_ge w' w with p | p
            · exact hdn w' p hd'
            · rw [show w' = w by omega] at hd'; exact absurd hd' z
      exact key2 0 (by omega) (fun w' hw' => by omega)
    · intro w hw12 ih y hy
      refine b_Keeper_find_12 (pk_le 12 w (fun q => by omega) (fun _ => ⟨vp_n hw12 (by omega), ?_⟩))
      rw [cl_n (by omega)]
      refine c_isDangerThere (fun z => ?_) (fun z => ?_)
      · rw [edg] at z
        refine b_Keeper_find_26t ⟨vp_n hw12 (by omega), ?_⟩
        rw [cl_n (by omega), nI_1]
        refine ih _ (fun q hq => ?_)
        rw [bI_and, bI_not _ (by omega), Bool.and_eq_true, hy q hq]
        have hcq := hc w q hw12 hq
        constructor
        · rintro ⟨⟨y1, y2⟩, y3⟩
          refine ⟨y1, fun w' hw' hd' => ?_⟩
          rcases Nat.lt_or_ge w' w with p | p
          · exact y2 w' p hd'
          · rw [show w' = w by omega]
            intro u
            rw [hcq.mpr u] at y3
            exact absurd y3 (by decide)
        · rintro ⟨y1, y2⟩
          refine ⟨⟨y1, fun w' hw' hd' => y2 w' (by omega) hd'⟩, ?_⟩
          have := y2 w (by omega) z
          cases e : bI (gI τ 17 0 w) q
          · rfl
          · exact absurd (hcq.mp e) this
      · rw [edg] at z
        refine b_Keeper_find_26f ?_
        rw [nI_1]
        refine ih y (fun q hq => ?_)
        rw [hy q hq]
        constructor
        · rintro ⟨y1, y2⟩
          refine ⟨y1, fun w' hw' hd' => ?_⟩
          rcases Nat.lt_or_ge w' w with p | p
          · exact y2 w' p hd'
          · rw [show w' = w by omega] at hd'; exact absurd hd' z
        · rintro ⟨y1, y2⟩
          exact ⟨y1, fun w' hw' hd' => y2 w' (by omega) hd'⟩
  exact key 0 (by omega) x (fun q hq => by
    rw [hx q (by omega)]
    exact ⟨fun z => ⟨z.2, fun w' hw' => by omega⟩, fun z => ⟨hq, z.1⟩⟩)
