/-! contracts: the ruler -/
/-- a way of the class that may be read: c points, drawn by s of them -/
def WayV (σ : Mem) (w c s : Nat) : Prop := gI σ 2 w 3 = nI c ∧ gI σ 2 w 4 = nI s ∧ c ≤ 20 ∧ s ≤ c ∧ (∀ i, i < c → co (px σ w i) ∧ co (py σ w i)) ∧ (∀ i, i < s → nb σ w i < c ∧ gI σ 5 w i = nI (nb σ w i))
theorem px_eq {ks : List Nat} {σ τ : Mem} (h : Eqs ks σ τ) (hk : 3 ∉ ks) (w i : Nat) : px τ w i = px σ w i := by unfold px; rw [h.1 3 w i hk]
theorem py_eq {ks : List Nat} {σ τ : Mem} (h : Eqs ks σ τ) (hk : 4 ∉ ks) (w i : Nat) : py τ w i = py σ w i := by unfold py; rw [h.1 4 w i hk]
theorem nb_eq {ks : List Nat} {σ τ : Mem} (h : Eqs ks σ τ) (hk : 5 ∉ ks) (w i : Nat) : nb τ w i = nb σ w i := by unfold nb; rw [h.1 5 w i hk]
theorem spn_eq {ks : List Nat} {σ τ : Mem} (h : Eqs ks σ τ) (h3 : 3 ∉ ks) (h4 : 4 ∉ ks) (w a b : Nat) : spn τ w a b = spn σ w a b := by unfold spn; rw [px_eq h h3, py_eq h h4, px_eq h h3, py_eq h h4]
theorem lnW_eq {ks : List Nat} {σ τ : Mem} (h : Eqs ks σ τ) (h3 : 3 ∉ ks) (h4 : 4 ∉ ks) (h5 : 5 ∉ ks) (w i : Nat) : lnW τ w i = lnW σ w i := by unfold lnW; rw [spn_eq h h3 h4, nb_eq h h5, nb_eq h h5]
theorem WayV.eq {ks : List Nat} {σ τ : Mem} {w c s : Nat} (hv : WayV σ w c s) (h : Eqs ks σ τ) (h2 : 2 ∉ ks) (h3 : 3 ∉ ks) (h4 : 4 ∉ ks) (h5 : 5 ∉ ks) : WayV τ w c s := by
  obtain ⟨a1, a2, a3, a4, a5, a6⟩ := hv
  refine ⟨by rw [h.1 2 _ _ h2]; exact a1, by rw [h.1 2 _ _ h2]; exact a2, a3, a4, fun i hi => ?_, fun i hi => ?_⟩
  · rw [px_eq h h3, py_eq h h4]; exact a5 i hi
  · rw [nb_eq h h5, h.1 5 _ _ h5]; exact a6 i hi
theorem lnB_W {σ : Mem} {w c s i : Nat} (hv : WayV σ w c s) (hi : i + 1 < s) : lnB (lnW σ w i) := by
  have h1 := hv.2.2.2.2.1 (nb σ w i) (hv.2.2.2.2.2 i (by omega)).1
  have h2 := hv.2.2.2.2.1 (nb σ w (i + 1)) (hv.2.2.2.2.2 (i + 1) (by omega)).1
  exact ⟨h1.1, h1.2, h2.1, h2.2⟩
theorem vp_nb {σ : Mem} {w c s i : Nat} (hv : WayV σ w c s) (hi : i < s) : vp_in (gI σ 5 w i) 20 := by
  have h1 := hv.2.2.2.2.2 i hi
  rw [h1.2]
  exact vp_n (by have := hv.2.2.1; omega) (by omega)
theorem lc1 {x : Int32} {s i : Nat} (h : x = nI s) (hs : s ≤ 1000) (hi : i ≤ 1000) : (x - 1 ≤ nI i) ↔ s ≤ i + 1 := by
  rw [t_le, h, t_sub] <;> rw [nI_t (by omega), t_1] <;> try omega
  rw [nI_t (by omega)]; omega
theorem lnC_eq {ks : List Nat} {σ τ : Mem} {k : Nat} (h : Eqs ks σ τ) (hk : k ∉ ks) : lnC τ k = lnC σ k := by unfold lnC; rw [h.1 k _ _ hk, h.1 k _ _ hk, h.1 k _ _ hk, h.1 k _ _ hk]
def NearW (σ : Mem) (a b sa sb : Nat) (g : Int) : Prop := ∃ i j, i + 1 < sa ∧ j + 1 < sb ∧ closeZ (lnW σ a i) (lnW σ b j) g
set_option maxRecDepth 4000 in
set_option maxHeartbeats 400000 in
theorem c_areTooNear {d : Nat} {σ : Mem} {Post : Option AV → Mem → Prop} {a b ca sa cb sb : Nat} {g : Int32} (ha : WayV σ a ca sa) (hb : WayV σ b cb sb) (hg : 0 ≤ g.toInt ∧ g.toInt ≤ 100) (h1 : ∀ τ : Mem, Eqs [11, 12] σ τ → NearW σ a b sa sb g.toInt → Post (some (vI 1)) τ) (h0 : ∀ τ : Mem, Eqs [11, 12] σ τ → ¬ NearW σ a b sa sb g.toInt → Post (some (vI 0)) τ) : MM (d + 3) M_Ruler_areTooNear [vR 10 0, vR 2 a, vR 2 b, vI g] σ Post := by
  obtain ⟨hsa, hca⟩ : sa ≤ 20 ∧ sb ≤ 20 := by have := ha.2.2.1; have := ha.2.2.2.1; have := hb.2.2.1; have := hb.2.2.2.1; omega
  refine MM.of ok_Ruler_areTooNear rfl ?_
  show WS _ M_Ruler_areTooNear 0 [vR 10 0, vR 2 a, vR 2 b, vI g, vU, vU] [] σ _
  have n2 : 2 ∉ [11, 12] ∧ 3 ∉ [11, 12] ∧ 4 ∉ [11, 12] ∧ 5 ∉ [11, 12] := by decide
  have key : ∀ i, i ≤ sa - 1 → ∀ (τ : Mem) (v5 : AV), Eqs [11, 12] σ τ → (∀ i2 j2, i2 < i → i2 + 1 < sa → j2 + 1 < sb → ¬ closeZ (lnW σ a i2) (lnW σ b j2) g.toInt) → WS (d + 3) M_Ruler_areTooNear 3 [vR 10 0, vR 2 a, vR 2 b, vI g, vI (nI i), v5] [] τ Post := by
    refine upto (sa - 1) ?_ ?_
    · intro τ v5 hE hN
      have hat := ha.eq hE n2.1 n2.2.1 n2.2.2.1 n2.2.2.2
      refine WS.run (C := []) (pc' := 11) (L' := [vR 10 0, vR 2 a, vR 2 b, vI g, vI (nI (sa - 1)), v5]) (S' := [vI (gI τ 2 a 4 - (1 : Int32)), vI (nI (sa - 1))]) (σ' := τ) 5 rfl trivial ?_
      refine WS.br (P := (gI τ 2 a 4 - (1 : Int32)) ≤ (nI (sa - 1))) (a := 91) (b := 14) (S' := []) rfl (fun _ => ?_) (fun cc => absurd ((lc1 hat.2.1 (by omega) (by omega)).mpr (by omega)) cc)
      refine WS.run (C := []) (pc' := 92) (L' := [vR 10 0, vR 2 a, vR 2 b, vI g, vI (nI (sa - 1)), v5]) (S' := [vI (0 : Int32)]) (σ' := τ) 1 rfl trivial ?_
      exact WS.ret rfl rfl (by decide) rfl (h0 _ hE (by rintro ⟨i2, j2, z1, z2, z3⟩; exact hN i2 j2 (by omega) z1 z2 z3))
    · intro i hi ih τ v5 hE hN
      have hat := ha.eq hE n2.1 n2.2.1 n2.2.2.1 n2.2.2.2
      have hbt := hb.eq hE n2.1 n2.2.1 n2.2.2.1 n2.2.2.2
      refine WS.run (C := []) (pc' := 11) (L' := [vR 10 0, vR 2 a, vR 2 b, vI g, vI (nI i), v5]) (S' := [vI (gI τ 2 a 4 - (1 : Int32)), vI (nI i)]) (σ' := τ) 5 rfl trivial ?_
      refine WS.br (P := (gI τ 2 a 4 - (1 : Int32)) ≤ (nI i)) (a := 91) (b := 14) (S' := []) rfl (fun cc => absurd cc (fun z => by have := (lc1 hat.2.1 (by omega) (by omega)).mp z; omega)) (fun _ => ?_)
      refine WS.run (C := []) (pc' := 21) (L' := [vR 10 0, vR 2 a, vR 2 b, vI g, vI (nI i), v5]) (S' := [vR 11 0, vI (nI i), vR 2 a]) (σ' := τ) 4 rfl trivial ?_
      refine WS.callV M_Way_bringLine (k := 2) (i := a) (as := [vI (nI i), vR 11 0]) (rest := []) rfl lk_5_62 rfl rfl rfl (Nat.le_of_ble_eq_true rfl) ?_
      refine c_bringLine (Or.inl rfl) (by omega) (vp_nb hat (by omega)) (vp_nb hat (by omega)) (fun υ1 f1a f1b => ?_)
      show WS _ M_Ruler_areTooNear 24 [vR 10 0, vR 2 a, vR 2 b, vI g, vI (nI i), v5] [] υ1 _
      refine WS.run (C := []) (pc' := 27) (L' := [vR 10 0, vR 2 a, vR 2 b, vI g, vI (nI i), vI (0 : Int32)]) (S' := []) (σ' := υ1) 2 rfl trivial ?_
      have hE1 : Eqs [11, 12] σ υ1 := hE.tr (f1a.mono (by decide))
      have e11 : lnC υ1 11 = lnW σ a i := by rw [f1b]; exact lnW_eq hE n2.2.1 n2.2.2.1 n2.2.2.2 a i
      have inn : ∀ j, j ≤ sb - 1 → ∀ υ : Mem, Eqs [12] υ1 υ → (∀ j2, j2 < j → j2 + 1 < sb → ¬ closeZ (lnW σ a i) (lnW σ b j2) g.toInt) → WS (d + 3) M_Ruler_areTooNear 27 [vR 10 0, vR 2 a, vR 2 b, vI g, vI (nI i), vI (nI j)] [] υ Post := by
        refine upto (sb - 1) ?_ ?_
        · intro υ hF hM
          have hE2 : Eqs [11, 12] σ υ := hE1.tr (hF.mono (by decide))
          have hbu := hb.eq hE2 n2.1 n2.2.1 n2.2.2.1 n2.2.2.2
          refine WS.run (C := []) (pc' := 35) (L' := [vR 10 0, vR 2 a, vR 2 b, vI g, vI (nI i), vI (nI (sb - 1))]) (S' := [vI (gI υ 2 b 4 - (1 : Int32)), vI (nI (sb - 1))]) (σ' := υ) 5 rfl trivial ?_
          refine WS.br (P := (gI υ 2 b 4 - (1 : Int32)) ≤ (nI (sb - 1))) (a := 85) (b := 38) (S' := []) rfl (fun _ => ?_) (fun cc => absurd ((lc1 hbu.2.1 (by omega) (by omega)).mpr (by omega)) cc)
          refine WS.run (C := []) (pc' := 3) (L' := [vR 10 0, vR 2 a, vR 2 b, vI g, vI ((nI i) + (1 : Int32)), vI (nI (sb - 1))]) (S' := []) (σ' := υ) 2 rfl trivial ?_
          simp only [nI_1]
          exact ih υ _ hE2 (fun i2 j2 z1 z2 z3 => by
            rcases Nat.lt_or_ge i2 i with q | q
            · exact hN i2 j2 q z2 z3
            · have : i2 = i := by omega
              subst this
              exact hM j2 (by omega) z3)
        · intro j hj ih2 υ hF hM
          have hE2 : Eqs [11, 12] σ υ := hE1.tr (hF.mono (by decide))
          have hbu := hb.eq hE2 n2.1 n2.2.1 n2.2.2.1 n2.2.2.2
          refine WS.run (C := []) (pc' := 35) (L' := [vR 10 0, vR 2 a, vR 2 b, vI g, vI (nI i), vI (nI j)]) (S' := [vI (gI υ 2 b 4 - (1 : Int32)), vI (nI j)]) (σ' := υ) 5 rfl trivial ?_
          refine WS.br (P := (gI υ 2 b 4 - (1 : Int32)) ≤ (nI j)) (a := 85) (b := 38) (S' := []) rfl (fun cc => absurd cc (fun z => by have := (lc1 hbu.2.1 (by omega) (by omega)).mp z; omega)) (fun _ => ?_)
          refine WS.run (C := []) (pc' := 45) (L' := [vR 10 0, vR 2 a, vR 2 b, vI g, vI (nI i), vI (nI j)]) (S' := [vR 12 0, vI (nI j), vR 2 b]) (σ' := υ) 4 rfl trivial ?_
          refine WS.callV M_Way_bringLine (k := 2) (i := b) (as := [vI (nI j), vR 12 0]) (rest := []) rfl lk_5_62 rfl rfl rfl (Nat.le_of_ble_eq_true rfl) ?_
          refine c_bringLine (Or.inr (Or.inl rfl)) (by omega) (vp_nb hbu (by omega)) (vp_nb hbu (by omega)) (fun υ2 f2a f2b => ?_)
          show WS _ M_Ruler_areTooNear 48 [vR 10 0, vR 2 a, vR 2 b, vI g, vI (nI i), vI (nI j)] [] υ2 _
          refine WS.run (C := []) (pc' := 56) (L' := [vR 10 0, vR 2 a, vR 2 b, vI g, vI (nI i), vI (nI j)]) (S' := [vR 12 0, vR 11 0]) (σ' := υ2) 4 rfl trivial ?_
          refine WS.callV M_Line_sharesEnd (k := 11) (i := 0) (as := [vR 12 0]) (rest := []) rfl lk_5_66 rfl rfl rfl (Nat.le_of_ble_eq_true rfl) ?_
          have e12 : lnC υ2 12 = lnW σ b j := by rw [f2b]; exact lnW_eq hE2 n2.2.1 n2.2.2.1 n2.2.2.2 b j
          have e11u : lnC υ2 11 = lnW σ a i := by rw [← e11, lnC_eq (hF.tr f2a) (by decide)]
          refine c_sharesEnd (Or.inl ⟨rfl, rfl⟩) (fun q3 => ?_) (fun q3 => ?_)
          · show WS _ M_Ruler_areTooNear 59 [vR 10 0, vR 2 a, vR 2 b, vI g, vI (nI i), vI (nI j)] [vI (1 : Int32)] υ2 _
            refine WS.br (P := (1 : Int32) = 0) (a := 62) (b := 79) (S' := []) rfl (fun cc => absurd cc (by decide)) (fun _ => ?_)
            refine WS.run (C := []) (pc' := 27) (L' := [vR 10 0, vR 2 a, vR 2 b, vI g, vI (nI i), vI ((nI j) + (1 : Int32))]) (S' := []) (σ' := υ2) 2 rfl trivial ?_
            simp only [nI_1]
            exact ih2 υ2 (hF.tr f2a) (fun j2 z1 z2 => by
              rcases Nat.lt_or_ge j2 j with q | q
              · exact hM j2 q z2
              · have : j2 = j := by omega
                subst this
                exact fun z => z.1 (by rw [e11u, e12] at q3; exact q3))
          · show WS _ M_Ruler_areTooNear 59 [vR 10 0, vR 2 a, vR 2 b, vI g, vI (nI i), vI (nI j)] [vI (0 : Int32)] υ2 _
            refine WS.br (P := (0 : Int32) = 0) (a := 62) (b := 79) (S' := []) rfl (fun _ => ?_) (fun cc => absurd (by decide) cc)
            refine WS.run (C := []) (pc' := 71) (L' := [vR 10 0, vR 2 a, vR 2 b, vI g, vI (nI i), vI (nI j)]) (S' := [vI g, vR 12 0, vR 11 0]) (σ' := υ2) 5 rfl trivial ?_
            refine WS.callV M_Line_isNearer (k := 11) (i := 0) (as := [vR 12 0, vI g]) (rest := []) rfl lk_5_70 rfl rfl rfl (Nat.le_of_ble_eq_true rfl) ?_
            refine c_isNearer (Or.inl ⟨rfl, rfl⟩) (by rw [e11u]; exact lnB_W ha (by omega)) (by rw [e12]; exact lnB_W hb (by omega)) hg (fun q4 => ?_) (fun q4 => ?_)
            · show WS _ M_Ruler_areTooNear 74 [vR 10 0, vR 2 a, vR 2 b, vI g, vI (nI i), vI (nI j)] [vI (1 : Int32)] υ2 _
              refine WS.br (P := (1 : Int32) = 0) (a := 79) (b := 77) (S' := []) rfl (fun cc => absurd cc (by decide)) (fun _ => ?_)
              refine WS.run (C := []) (pc' := 78) (L' := [vR 10 0, vR 2 a, vR 2 b, vI g, vI (nI i), vI (nI j)]) (S' := [vI (1 : Int32)]) (σ' := υ2) 1 rfl trivial ?_
              exact WS.ret rfl rfl (by decide) rfl (h1 _ (hE2.tr (f2a.mono (by decide))) ⟨i, j, by omega, by omega, by rw [← e11u, ← e12]; exact ⟨q3, q4⟩⟩)
            · show WS _ M_Ruler_areTooNear 74 [vR 10 0, vR 2 a, vR 2 b, vI g, vI (nI i), vI (nI j)] [vI (0 : Int32)] υ2 _
              refine WS.br (P := (0 : Int32) = 0) (a := 79) (b := 77) (S' := []) rfl (fun _ => ?_) (fun cc => absurd (by decide) cc)
              refine WS.run (C := []) (pc' := 27) (L' := [vR 10 0, vR 2 a, vR 2 b, vI g, vI (nI i), vI ((nI j) + (1 : Int32))]) (S' := []) (σ' := υ2) 2 rfl trivial ?_
              simp only [nI_1]
              exact ih2 υ2 (hF.tr f2a) (fun j2 z1 z2 => by
                rcases Nat.lt_or_ge j2 j with q | q
                · exact hM j2 q z2
                · have : j2 = j := by omega
                  subst this
                  exact fun z => q4 (by rw [e11u, e12]; exact z.2))
      exact inn 0 (by omega) υ1 Eqs.rf (fun j2 z => by omega)
  refine WS.run (C := []) (pc' := 3) (L' := [vR 10 0, vR 2 a, vR 2 b, vI g, vI (0 : Int32), vU]) (S' := []) (σ' := σ) 2 rfl trivial ?_
  exact key 0 (by omega) σ vU Eqs.rf (fun i2 j2 z => by omega)
