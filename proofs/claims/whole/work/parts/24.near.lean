/-! contracts: near and crossings -/
def ctW (σ : Mem) (w : Nat) : Nat := (gI σ 2 w 3).toNatClampNeg
def shW (σ : Mem) (w : Nat) : Nat := (gI σ 2 w 4).toNatClampNeg
def ctM (σ : Mem) (w : Nat) : Nat := (gI σ 55 0 w).toNatClampNeg
def shM (σ : Mem) (w : Nat) : Nat := (gI σ 58 0 w).toNatClampNeg
def AllV (σ : Mem) : Prop := ∀ w, w < 12 → WayV σ w (ctW σ w) (shW σ w)
def AllM (σ : Mem) : Prop := ∀ w, w < 12 → WayM σ w (ctM σ w) (shM σ w)
/-- two unlike ways of the class that have points -/
def TwoW (σ : Mem) (v w : Int32) (i j : Nat) : Prop := i < 12 ∧ j < 12 ∧ i ≠ j ∧ v = nI i ∧ w = nI j ∧ 0 < (gI σ 2 i 3).toInt ∧ 0 < (gI σ 2 j 3).toInt
def TwoM (σ : Mem) (v w : Int32) (i j : Nat) : Prop := i < 12 ∧ j < 12 ∧ i ≠ j ∧ v = nI i ∧ w = nI j ∧ (gI σ 52 0 i ≠ 0 ∧ 0 < (gI σ 55 0 i).toInt) ∧ gI σ 52 0 j ≠ 0 ∧ 0 < (gI σ 55 0 j).toInt
theorem nI_ne {i j : Nat} (h : ¬ nI i = nI j) : i ≠ j := fun e => h (by rw [e])
set_option maxRecDepth 4000 in
set_option maxHeartbeats 400000 in
theorem c_areTwoWays {d : Nat} {σ : Mem} {Post : Option AV → Mem → Prop} {v w : Int32} (h1 : ∀ i j : Nat, TwoW σ v w i j → Post (some (vI 1)) σ) (h0 : (∀ i j : Nat, ¬ TwoW σ v w i j) → Post (some (vI 0)) σ) : MM (d + 2) M_TM_areTwoWays [vR 0 0, vI v, vI w] σ Post := by
  refine MM.of ok_TM_areTwoWays rfl ?_
  show WS _ M_TM_areTwoWays 0 [vR 0 0, vI v, vI w] [] σ _
  refine WS.run (C := []) (pc' := 2) (L' := [vR 0 0, vI v, vI w]) (S' := [vI w, vI v]) (σ' := σ) 2 rfl trivial ?_
  refine WS.br (P := v = w) (a := 25) (b := 5) (S' := []) rfl (fun c1 => ?_) (fun c1 => ?_)
  · refine WS.run (C := []) (pc' := 26) (L' := [vR 0 0, vI v, vI w]) (S' := [vI (0 : Int32)]) (σ' := σ) 1 rfl trivial ?_
    exact WS.ret rfl rfl (by decide) rfl (h0 (fun i j z => z.2.2.1 ((nI_eq (by have := z.1; omega) (by have := z.2.1; omega)).mp (z.2.2.2.1.symm.trans (c1.trans z.2.2.2.2.1)))))
  · refine WS.run (C := []) (pc' := 7) (L' := [vR 0 0, vI v, vI w]) (S' := [vI v, vR 0 0]) (σ' := σ) 2 rfl trivial ?_
    refine WS.callV M_TM_hasPoints (k := 0) (i := 0) (as := [vI v]) (rest := []) rfl lk_10_92 rfl rfl rfl (Nat.le_of_ble_eq_true rfl) ?_
    refine c_hasPoints (fun i hi ei qi => ?_) (fun q2 => ?_)
    · subst ei
      have e_i : (nI i).toNatClampNeg = i := cl_n (by omega)
      show WS _ M_TM_areTwoWays 10 [vR 0 0, vI (nI i), vI w] [vI (1 : Int32)] σ _
      refine WS.br (P := (1 : Int32) = 0) (a := 25) (b := 13) (S' := []) rfl (fun cc => absurd cc (by decide)) (fun _ => ?_)
      refine WS.run (C := []) (pc' := 15) (L' := [vR 0 0, vI (nI i), vI w]) (S' := [vI w, vR 0 0]) (σ' := σ) 2 rfl trivial ?_
      refine WS.callV M_TM_hasPoints (k := 0) (i := 0) (as := [vI w]) (rest := []) rfl lk_10_92 rfl rfl rfl (Nat.le_of_ble_eq_true rfl) ?_
      refine c_hasPoints (fun j hj ej qj => ?_) (fun q3 => ?_)
      · subst ej
        have e_j : (nI j).toNatClampNeg = j := cl_n (by omega)
        show WS _ M_TM_areTwoWays 18 [vR 0 0, vI (nI i), vI (nI j)] [vI (1 : Int32)] σ _
        refine WS.br (P := (1 : Int32) = 0) (a := 25) (b := 21) (S' := []) rfl (fun cc => absurd cc (by decide)) (fun _ => ?_)
        refine WS.run (C := []) (pc' := 26) (L' := [vR 0 0, vI (nI i), vI (nI j)]) (S' := [vI (1 : Int32)]) (σ' := σ) 2 rfl trivial ?_
        exact WS.ret rfl rfl (by decide) rfl (h1 i j ⟨by omega, by omega, nI_ne c1, rfl, rfl, qi, qj⟩)
      · show WS _ M_TM_areTwoWays 18 [vR 0 0, vI (nI i), vI w] [vI (0 : Int32)] σ _
        refine WS.br (P := (0 : Int32) = 0) (a := 25) (b := 21) (S' := []) rfl (fun _ => ?_) (fun cc => absurd (by decide) cc)
        refine WS.run (C := []) (pc' := 26) (L' := [vR 0 0, vI (nI i), vI w]) (S' := [vI (0 : Int32)]) (σ' := σ) 1 rfl trivial ?_
        exact WS.ret rfl rfl (by decide) rfl (h0 (fun i2 j2 z => q3 j2 (by have := z.2.1; omega) z.2.2.2.2.1 z.2.2.2.2.2.2))
    · show WS _ M_TM_areTwoWays 10 [vR 0 0, vI v, vI w] [vI (0 : Int32)] σ _
      refine WS.br (P := (0 : Int32) = 0) (a := 25) (b := 13) (S' := []) rfl (fun _ => ?_) (fun cc => absurd (by decide) cc)
      refine WS.run (C := []) (pc' := 26) (L' := [vR 0 0, vI v, vI w]) (S' := [vI (0 : Int32)]) (σ' := σ) 1 rfl trivial ?_
      exact WS.ret rfl rfl (by decide) rfl (h0 (fun i j z => q2 i (by have := z.1; omega) z.2.2.2.1 z.2.2.2.2.2.1))
set_option maxRecDepth 4000 in
set_option maxHeartbeats 400000 in
theorem c_TMnear {d : Nat} {σ : Mem} {Post : Option AV → Mem → Prop} {v w : Int32} (hv : AllV σ) (hg : 0 ≤ (gI σ 0 0 8).toInt ∧ (gI σ 0 0 8).toInt ≤ 100) (h1 : ∀ (i j : Nat) (τ : Mem), TwoW σ v w i j → Eqs [11, 12] σ τ → NearW σ i j (shW σ i) (shW σ j) (gI σ 0 0 8).toInt → Post (some (vI 1)) τ) (h0 : ∀ (i j : Nat) (τ : Mem), TwoW σ v w i j → Eqs [11, 12] σ τ → ¬ NearW σ i j (shW σ i) (shW σ j) (gI σ 0 0 8).toInt → Post (some (vI 0)) τ) (hn : (∀ i j : Nat, ¬ TwoW σ v w i j) → Post (some (vI (-1))) σ) : MM (d + 4) M_TM_near [vR 0 0, vI v, vI w] σ Post := by
  refine MM.of ok_TM_near rfl ?_
  show WS _ M_TM_near 0 [vR 0 0, vI v, vI w] [] σ _
  refine WS.run (C := []) (pc' := 3) (L' := [vR 0 0, vI v, vI w]) (S' := [vI w, vI v, vR 0 0]) (σ' := σ) 3 rfl trivial ?_
  refine WS.callV M_TM_areTwoWays (k := 0) (i := 0) (as := [vI v, vI w]) (rest := []) rfl lk_10_111 rfl rfl rfl (Nat.le_of_ble_eq_true rfl) ?_
  refine c_areTwoWays (fun i j hij => ?_) (fun q1 => ?_)
  · obtain ⟨hi, hj, hne, rfl, rfl, qi, qj⟩ := id hij
    have e_i : (nI i).toNatClampNeg = i := cl_n (by omega)
    have e_j : (nI j).toNatClampNeg = j := cl_n (by omega)
    show WS _ M_TM_near 6 [vR 0 0, vI (nI i), vI (nI j)] [vI (1 : Int32)] σ _
    refine WS.br (P := (1 : Int32) = 0) (a := 9) (b := 11) (S' := []) rfl (fun cc => absurd cc (by decide)) (fun _ => ?_)
    refine WS.run (C := [vp_in (nI i) 12, vp_in (nI j) 12]) (pc' := 31) (L' := [vR 0 0, vI (nI i), vI (nI j)]) (S' := [vI (gI σ 0 0 8), vR 2 ((nI j).toNatClampNeg), vR 2 ((nI i).toNatClampNeg), vR 10 0]) (σ' := σ) 12 rfl ⟨(vp_n (by omega) (by omega)), (vp_n (by omega) (by omega)), trivial⟩ ?_
    simp only [e_i, e_j]
    refine WS.callV M_Ruler_areTooNear (k := 10) (i := 0) (as := [vR 2 i, vR 2 j, vI (gI σ 0 0 8)]) (rest := []) rfl lk_10_114 rfl rfl rfl (Nat.le_of_ble_eq_true rfl) ?_
    refine c_areTooNear (hv i hi) (hv j hj) hg (fun τ2 e2 q2 => ?_) (fun τ2 e2 q2 => ?_)
    · show WS _ M_TM_near 34 [vR 0 0, vI (nI i), vI (nI j)] [vI (1 : Int32)] τ2 _
      refine WS.br (P := (1 : Int32) = 0) (a := 41) (b := 37) (S' := []) rfl (fun cc => absurd cc (by decide)) (fun _ => ?_)
      refine WS.run (C := []) (pc' := 42) (L' := [vR 0 0, vI (nI i), vI (nI j)]) (S' := [vI (1 : Int32)]) (σ' := τ2) 2 rfl trivial ?_
      exact WS.ret rfl rfl (by decide) rfl (h1 i j _ hij e2 q2)
    · show WS _ M_TM_near 34 [vR 0 0, vI (nI i), vI (nI j)] [vI (0 : Int32)] τ2 _
      refine WS.br (P := (0 : Int32) = 0) (a := 41) (b := 37) (S' := []) rfl (fun _ => ?_) (fun cc => absurd (by decide) cc)
      refine WS.run (C := []) (pc' := 42) (L' := [vR 0 0, vI (nI i), vI (nI j)]) (S' := [vI (0 : Int32)]) (σ' := τ2) 1 rfl trivial ?_
      exact WS.ret rfl rfl (by decide) rfl (h0 i j _ hij e2 q2)
  · show WS _ M_TM_near 6 [vR 0 0, vI v, vI w] [vI (0 : Int32)] σ _
    refine WS.br (P := (0 : Int32) = 0) (a := 9) (b := 11) (S' := []) rfl (fun _ => ?_) (fun cc => absurd (by decide) cc)
    refine WS.run (C := []) (pc' := 10) (L' := [vR 0 0, vI v, vI w]) (S' := [vI (-1 : Int32)]) (σ' := σ) 1 rfl trivial ?_
    exact WS.ret rfl rfl (by decide) rfl (hn q1)
set_option maxRecDepth 4000 in
set_option maxHeartbeats 400000 in
theorem c_TMcrossings {d : Nat} {σ : Mem} {Post : Option AV → Mem → Prop} {v w : Int32} (hv : AllV σ) (h : ∀ (i j : Nat) (τ : Mem), TwoW σ v w i j → Eqs [11, 12] σ τ → Post (some (vI (nI (crW σ i j (shW σ i) (shW σ j))))) τ) (hn : (∀ i j : Nat, ¬ TwoW σ v w i j) → Post (some (vI (-1))) σ) : MM (d + 4) M_TM_crossings [vR 0 0, vI v, vI w] σ Post := by
  refine MM.of ok_TM_crossings rfl ?_
  show WS _ M_TM_crossings 0 [vR 0 0, vI v, vI w] [] σ _
  refine WS.run (C := []) (pc' := 3) (L' := [vR 0 0, vI v, vI w]) (S' := [vI w, vI v, vR 0 0]) (σ' := σ) 3 rfl trivial ?_
  refine WS.callV M_TM_areTwoWays (k := 0) (i := 0) (as := [vI v, vI w]) (rest := []) rfl lk_10_111 rfl rfl rfl (Nat.le_of_ble_eq_true rfl) ?_
  refine c_areTwoWays (fun i j hij => ?_) (fun q1 => ?_)
  · obtain ⟨hi, hj, hne, rfl, rfl, qi, qj⟩ := id hij
    have e_i : (nI i).toNatClampNeg = i := cl_n (by omega)
    have e_j : (nI j).toNatClampNeg = j := cl_n (by omega)
    show WS _ M_TM_crossings 6 [vR 0 0, vI (nI i), vI (nI j)] [vI (1 : Int32)] σ _
    refine WS.br (P := (1 : Int32) = 0) (a := 9) (b := 11) (S' := []) rfl (fun cc => absurd cc (by decide)) (fun _ => ?_)
    refine WS.run (C := [vp_in (nI i) 12, vp_in (nI j) 12]) (pc' := 27) (L' := [vR 0 0, vI (nI i), vI (nI j)]) (S' := [vR 2 ((nI j).toNatClampNeg), vR 2 ((nI i).toNatClampNeg), vR 10 0]) (σ' := σ) 10 rfl ⟨(vp_n (by omega) (by omega)), (vp_n (by omega) (by omega)), trivial⟩ ?_
    simp only [e_i, e_j]
    refine WS.callV M_Ruler_countCrossed (k := 10) (i := 0) (as := [vR 2 i, vR 2 j]) (rest := []) rfl lk_10_118 rfl rfl rfl (Nat.le_of_ble_eq_true rfl) ?_
    refine c_countCrossed (hv i hi) (hv j hj) (fun τ2 e2 => ?_)
    show WS _ M_TM_crossings 30 [vR 0 0, vI (nI i), vI (nI j)] [vI (nI (crW σ i j (shW σ i) (shW σ j)))] τ2 _
    exact WS.ret rfl rfl (by decide) rfl (h i j _ hij e2)
  · show WS _ M_TM_crossings 6 [vR 0 0, vI v, vI w] [vI (0 : Int32)] σ _
    refine WS.br (P := (0 : Int32) = 0) (a := 9) (b := 11) (S' := []) rfl (fun _ => ?_) (fun cc => absurd (by decide) cc)
    refine WS.run (C := []) (pc' := 10) (L' := [vR 0 0, vI v, vI w]) (S' := [vI (-1 : Int32)]) (σ' := σ) 1 rfl trivial ?_
    exact WS.ret rfl rfl (by decide) rfl (hn q1)
set_option maxRecDepth 4000 in
set_option maxHeartbeats 400000 in
theorem c_Mnear {d : Nat} {σ : Mem} {Post : Option AV → Mem → Prop} {v w : Int32} (hv : AllM σ) (hg : 0 ≤ (gI σ 51 0 9).toInt ∧ (gI σ 51 0 9).toInt ≤ 100) (h1 : ∀ (i j : Nat), TwoM σ v w i j → NearM σ i j (shM σ i) (shM σ j) (gI σ 51 0 9).toInt → Post (some (vI 1)) σ) (h0 : ∀ (i j : Nat), TwoM σ v w i j → ¬ NearM σ i j (shM σ i) (shM σ j) (gI σ 51 0 9).toInt → Post (some (vI 0)) σ) (hn : (∀ i j : Nat, ¬ TwoM σ v w i j) → Post (some (vI (-1))) σ) : MM (d + 7) M_MD_near [vR 51 0, vI v, vI w] σ Post := by
  refine MM.of ok_MD_near rfl ?_
  show WS _ M_MD_near 0 [vR 51 0, vI v, vI w] [] σ _
  refine WS.run (C := []) (pc' := 2) (L' := [vR 51 0, vI v, vI w]) (S' := [vI v, vR 51 0]) (σ' := σ) 2 rfl trivial ?_
  refine WS.callV M_MD_isThere (k := 51) (i := 0) (as := [vI v]) (rest := []) rfl lk_11_173 rfl rfl rfl (Nat.le_of_ble_eq_true rfl) ?_
  refine c_MisThere (fun i hi ei qia qib => ?_) (fun q1 => ?_)
  · subst ei
    have e_i : (nI i).toNatClampNeg = i := cl_n (by omega)
    show WS _ M_MD_near 5 [vR 51 0, vI (nI i), vI w] [vI (1 : Int32)] σ _
    refine WS.br (P := (1 : Int32) = 0) (a := 21) (b := 8) (S' := []) rfl (fun cc => absurd cc (by decide)) (fun _ => ?_)
    refine WS.run (C := []) (pc' := 10) (L' := [vR 51 0, vI (nI i), vI w]) (S' := [vI w, vR 51 0]) (σ' := σ) 2 rfl trivial ?_
    refine WS.callV M_MD_isThere (k := 51) (i := 0) (as := [vI w]) (rest := []) rfl lk_11_173 rfl rfl rfl (Nat.le_of_ble_eq_true rfl) ?_
    refine c_MisThere (fun j hj ej qja qjb => ?_) (fun q2 => ?_)
    · subst ej
      have e_j : (nI j).toNatClampNeg = j := cl_n (by omega)
      show WS _ M_MD_near 13 [vR 51 0, vI (nI i), vI (nI j)] [vI (1 : Int32)] σ _
      refine WS.br (P := (1 : Int32) = 0) (a := 21) (b := 16) (S' := []) rfl (fun cc => absurd cc (by decide)) (fun _ => ?_)
      refine WS.run (C := []) (pc' := 18) (L' := [vR 51 0, vI (nI i), vI (nI j)]) (S' := [vI (nI j), vI (nI i)]) (σ' := σ) 2 rfl trivial ?_
      refine WS.br (P := (nI i) = (nI j)) (a := 21) (b := 23) (S' := []) rfl (fun c3 => ?_) (fun c3 => ?_)
      · refine WS.run (C := []) (pc' := 22) (L' := [vR 51 0, vI (nI i), vI (nI j)]) (S' := [vI (-1 : Int32)]) (σ' := σ) 1 rfl trivial ?_
        exact WS.ret rfl rfl (by decide) rfl (hn (fun i2 j2 z => z.2.2.1 ((nI_eq (by have := z.1; omega) (by have := z.2.1; omega)).mp (z.2.2.2.1.symm.trans (c3.trans z.2.2.2.2.1)))))
      · refine WS.run (C := []) (pc' := 26) (L' := [vR 51 0, vI (nI i), vI (nI j)]) (S' := [vI (nI j), vI (nI i), vR 51 0]) (σ' := σ) 3 rfl trivial ?_
        refine WS.callV M_MD_areNear (k := 51) (i := 0) (as := [vI (nI i), vI (nI j)]) (rest := []) rfl lk_11_176 rfl rfl rfl (Nat.le_of_ble_eq_true rfl) ?_
        refine c_MareNear (by omega) (by omega) (hv i (by omega)) (hv j (by omega)) hg (fun q4 => ?_) (fun q4 => ?_)
        · show WS _ M_MD_near 29 [vR 51 0, vI (nI i), vI (nI j)] [vI (1 : Int32)] σ _
          refine WS.br (P := (1 : Int32) = 0) (a := 36) (b := 32) (S' := []) rfl (fun cc => absurd cc (by decide)) (fun _ => ?_)
          refine WS.run (C := []) (pc' := 37) (L' := [vR 51 0, vI (nI i), vI (nI j)]) (S' := [vI (1 : Int32)]) (σ' := σ) 2 rfl trivial ?_
          exact WS.ret rfl rfl (by decide) rfl (h1 i j ⟨by omega, by omega, nI_ne c3, rfl, rfl, ⟨qia, qib⟩, qja, qjb⟩ q4)
        · show WS _ M_MD_near 29 [vR 51 0, vI (nI i), vI (nI j)] [vI (0 : Int32)] σ _
          refine WS.br (P := (0 : Int32) = 0) (a := 36) (b := 32) (S' := []) rfl (fun _ => ?_) (fun cc => absurd (by decide) cc)
          refine WS.run (C := []) (pc' := 37) (L' := [vR 51 0, vI (nI i), vI (nI j)]) (S' := [vI (0 : Int32)]) (σ' := σ) 1 rfl trivial ?_
          exact WS.ret rfl rfl (by decide) rfl (h0 i j ⟨by omega, by omega, nI_ne c3, rfl, rfl, ⟨qia, qib⟩, qja, qjb⟩ q4)
    · show WS _ M_MD_near 13 [vR 51 0, vI (nI i), vI w] [vI (0 : Int32)] σ _
      refine WS.br (P := (0 : Int32) = 0) (a := 21) (b := 16) (S' := []) rfl (fun _ => ?_) (fun cc => absurd (by decide) cc)
      refine WS.run (C := []) (pc' := 22) (L' := [vR 51 0, vI (nI i), vI w]) (S' := [vI (-1 : Int32)]) (σ' := σ) 1 rfl trivial ?_
      exact WS.ret rfl rfl (by decide) rfl (hn (fun i2 j2 z => q2 j2 (by have := z.2.1; omega) z.2.2.2.2.1 z.2.2.2.2.2.2.1 z.2.2.2.2.2.2.2))
  · show WS _ M_MD_near 5 [vR 51 0, vI v, vI w] [vI (0 : Int32)] σ _
    refine WS.br (P := (0 : Int32) = 0) (a := 21) (b := 8) (S' := []) rfl (fun _ => ?_) (fun cc => absurd (by decide) cc)
    refine WS.run (C := []) (pc' := 22) (L' := [vR 51 0, vI v, vI w]) (S' := [vI (-1 : Int32)]) (σ' := σ) 1 rfl trivial ?_
    exact WS.ret rfl rfl (by decide) rfl (hn (fun i j z => q1 i (by have := z.1; omega) z.2.2.2.1 z.2.2.2.2.2.1.1 z.2.2.2.2.2.1.2))
