/-! contracts: small ones of the class -/
set_option maxRecDepth 4000 in
set_option maxHeartbeats 400000 in
theorem c_holds {d : Nat} {σ : Mem} {Post : Option AV → Mem → Prop} {j : Nat} (hj : j < 12) (h1 : gI σ 15 0 1 ≠ 0 ∧ gI σ 21 0 j = 0 → Post (some (vI 1)) σ) (h0 : ¬ (gI σ 15 0 1 ≠ 0 ∧ gI σ 21 0 j = 0) → Post (some (vI 0)) σ) : MM d M_Keeper_holds [vR 15 0, vI (nI j)] σ Post := by
  have e_j : (nI j).toNatClampNeg = j := cl_n (by omega)
  refine MM.of ok_Keeper_holds rfl ?_
  show WS _ M_Keeper_holds 0 [vR 15 0, vI (nI j)] [] σ _
  refine WS.run (C := []) (pc' := 4) (L' := [vR 15 0, vI (nI j)]) (S' := [vI (gI σ 15 0 1)]) (σ' := σ) 2 rfl trivial ?_
  refine WS.br (P := (gI σ 15 0 1) = 0) (a := 23) (b := 7) (S' := []) rfl (fun c1 => ?_) (fun c1 => ?_)
  · refine WS.run (C := []) (pc' := 24) (L' := [vR 15 0, vI (nI j)]) (S' := [vI (0 : Int32)]) (σ' := σ) 1 rfl trivial ?_
    exact WS.ret rfl rfl (by decide) rfl (h0 (fun z => z.1 c1))
  · refine WS.run (C := [vp_in (nI j) 12]) (pc' := 16) (L' := [vR 15 0, vI (nI j)]) (S' := [vI (gI σ 21 0 (nI j).toNatClampNeg)]) (σ' := σ) 5 rfl ⟨(vp_n (by omega) (by omega)), trivial⟩ ?_
    simp only [e_j]
    refine WS.br (P := (gI σ 21 0 j) = 0) (a := 19) (b := 23) (S' := []) rfl (fun c2 => ?_) (fun c2 => ?_)
    · refine WS.run (C := []) (pc' := 24) (L' := [vR 15 0, vI (nI j)]) (S' := [vI (1 : Int32)]) (σ' := σ) 2 rfl trivial ?_
      exact WS.ret rfl rfl (by decide) rfl (h1 ⟨c1, c2⟩)
    · refine WS.run (C := []) (pc' := 24) (L' := [vR 15 0, vI (nI j)]) (S' := [vI (0 : Int32)]) (σ' := σ) 1 rfl trivial ?_
      exact WS.ret rfl rfl (by decide) rfl (h0 (fun z => c2 z.2))
set_option maxRecDepth 4000 in
set_option maxHeartbeats 400000 in
theorem c_isDangerThere {d : Nat} {σ : Mem} {Post : Option AV → Mem → Prop} {w : Nat} (h1 : gI σ 2 w 6 ≠ 0 ∧ 0 < (gI σ 2 w 3).toInt → Post (some (vI 1)) σ) (h0 : ¬ (gI σ 2 w 6 ≠ 0 ∧ 0 < (gI σ 2 w 3).toInt) → Post (some (vI 0)) σ) : MM d M_Keeper_isDangerThere [vR 2 w] σ Post := by
  refine MM.of ok_Keeper_isDangerThere rfl ?_
  show WS _ M_Keeper_isDangerThere 0 [vR 2 w] [] σ _
  refine WS.run (C := []) (pc' := 4) (L' := [vR 2 w]) (S' := [vI (gI σ 2 w 6)]) (σ' := σ) 2 rfl trivial ?_
  refine WS.br (P := (gI σ 2 w 6) = 0) (a := 18) (b := 7) (S' := []) rfl (fun c1 => ?_) (fun c1 => ?_)
  · refine WS.run (C := []) (pc' := 19) (L' := [vR 2 w]) (S' := [vI (0 : Int32)]) (σ' := σ) 1 rfl trivial ?_
    exact WS.ret rfl rfl (by decide) rfl (h0 (fun z => z.1 c1))
  · refine WS.run (C := []) (pc' := 11) (L' := [vR 2 w]) (S' := [vI (gI σ 2 w 3)]) (σ' := σ) 2 rfl trivial ?_
    refine WS.br (P := (gI σ 2 w 3) ≤ 0) (a := 18) (b := 14) (S' := []) rfl (fun c2 => ?_) (fun c2 => ?_)
    · refine WS.run (C := []) (pc' := 19) (L' := [vR 2 w]) (S' := [vI (0 : Int32)]) (σ' := σ) 1 rfl trivial ?_
      exact WS.ret rfl rfl (by decide) rfl (h0 (fun z => by have q := c2; rw [t_le, t_0] at q; have := z.2; omega))
    · refine WS.run (C := []) (pc' := 19) (L' := [vR 2 w]) (S' := [vI (1 : Int32)]) (σ' := σ) 2 rfl trivial ?_
      exact WS.ret rfl rfl (by decide) rfl (h1 ⟨c1, by have q := c2; rw [t_le, t_0] at q; omega⟩)
def namO (σ : Mem) (v : Int32) (j : Nat) : Prop := j < 8 ∧ v = nI j ∧ gI σ 7 j 4 ≠ 0
set_option maxRecDepth 4000 in
set_option maxHeartbeats 400000 in
theorem c_isName {d : Nat} {σ : Mem} {Post : Option AV → Mem → Prop} {v : Int32} (h1 : ∀ j : Nat, namO σ v j → Post (some (vI 1)) σ) (h0 : (∀ j : Nat, ¬ namO σ v j) → Post (some (vI 0)) σ) : MM (d + 1) M_TM_isName [vR 0 0, vI v] σ Post := by
  refine MM.of ok_TM_isName rfl ?_
  show WS _ M_TM_isName 0 [vR 0 0, vI v] [] σ _
  refine WS.run (C := []) (pc' := 3) (L' := [vR 0 0, vI v]) (S' := [vI (7 : Int32), vI v]) (σ' := σ) 2 rfl trivial ?_
  refine WS.callS M_TM_inRange (as := [vI v, vI (7 : Int32)]) (rest := []) rfl lk_10_71 rfl rfl (Nat.le_of_ble_eq_true rfl) ?_
  refine c_inRange (fun q1a q1b => ?_) (fun q1 => ?_)
  · obtain ⟨j, hj, rfl⟩ := t_nat (x := v) (n := 7) (by omega) (by first | omega | (simp only [t_7] at *; omega)) (by omega)
    have e_j : (nI j).toNatClampNeg = j := cl_n (by omega)
    show WS _ M_TM_isName 6 [vR 0 0, vI (nI j)] [vI (1 : Int32)] σ _
    refine WS.br (P := (1 : Int32) = 0) (a := 25) (b := 9) (S' := []) rfl (fun cc => absurd cc (by decide)) (fun _ => ?_)
    refine WS.run (C := [vp_in (nI j) 8]) (pc' := 18) (L' := [vR 0 0, vI (nI j)]) (S' := [vI (gI σ 7 ((nI j).toNatClampNeg) 4)]) (σ' := σ) 5 rfl ⟨(vp_n (by omega) (by omega)), trivial⟩ ?_
    simp only [e_j]
    refine WS.br (P := (gI σ 7 (j) 4) = 0) (a := 25) (b := 21) (S' := []) rfl (fun c2 => ?_) (fun c2 => ?_)
    · refine WS.run (C := []) (pc' := 26) (L' := [vR 0 0, vI (nI j)]) (S' := [vI (0 : Int32)]) (σ' := σ) 1 rfl trivial ?_
      exact WS.ret rfl rfl (by decide) rfl (h0 (fun i z => by obtain rfl : i = j := (nI_eq (by have := z.1; omega) (by omega)).mp z.2.1.symm; exact z.2.2 c2))
    · refine WS.run (C := []) (pc' := 26) (L' := [vR 0 0, vI (nI j)]) (S' := [vI (1 : Int32)]) (σ' := σ) 2 rfl trivial ?_
      exact WS.ret rfl rfl (by decide) rfl (h1 j ⟨by omega, rfl, c2⟩)
  · show WS _ M_TM_isName 6 [vR 0 0, vI v] [vI (0 : Int32)] σ _
    refine WS.br (P := (0 : Int32) = 0) (a := 25) (b := 9) (S' := []) rfl (fun _ => ?_) (fun cc => absurd (by decide) cc)
    refine WS.run (C := []) (pc' := 26) (L' := [vR 0 0, vI v]) (S' := [vI (0 : Int32)]) (σ' := σ) 1 rfl trivial ?_
    exact WS.ret rfl rfl (by decide) rfl (h0 (fun i z => q1 (by rw [z.2.1, nI_t (by have := z.1; omega), t_7]; have := z.1; omega)))
set_option maxRecDepth 4000 in
set_option maxHeartbeats 400000 in
theorem c_TMerase {d : Nat} {σ : Mem} {Post : Option AV → Mem → Prop} {v : Int32} (h1 : ∀ j : Nat, namO σ v j → Post (some (vI 1)) (pI σ 7 j 4 0)) (h0 : (∀ j : Nat, ¬ namO σ v j) → Post (some (vI 0)) σ) : MM (d + 2) M_TM_erase [vR 0 0, vI v] σ Post := by
  refine MM.of ok_TM_erase rfl ?_
  show WS _ M_TM_erase 0 [vR 0 0, vI v] [] σ _
  refine WS.run (C := []) (pc' := 2) (L' := [vR 0 0, vI v]) (S' := [vI v, vR 0 0]) (σ' := σ) 2 rfl trivial ?_
  refine WS.callV M_TM_isName (k := 0) (i := 0) (as := [vI v]) (rest := []) rfl lk_10_153 rfl rfl rfl (Nat.le_of_ble_eq_true rfl) ?_
  refine c_isName (fun j hj => ?_) (fun q1 => ?_)
  · obtain ⟨hj8, rfl, hj2⟩ := id hj
    have e_j : (nI j).toNatClampNeg = j := cl_n (by omega)
    show WS _ M_TM_erase 5 [vR 0 0, vI (nI j)] [vI (1 : Int32)] σ _
    refine WS.br (P := (1 : Int32) = 0) (a := 8) (b := 10) (S' := []) rfl (fun cc => absurd cc (by decide)) (fun _ => ?_)
    refine WS.run (C := [vp_in (nI j) 8, (0 : Int32) = 0 ∨ (0 : Int32) = 1]) (pc' := 20) (L' := [vR 0 0, vI (nI j)]) (S' := []) (σ' := pI σ 7 ((nI j).toNatClampNeg) 4 (0 : Int32)) 6 rfl ⟨(vp_n (by omega) (by omega)), (Or.inl rfl), trivial⟩ ?_
    simp only [e_j]
    refine WS.run (C := []) (pc' := 21) (L' := [vR 0 0, vI (nI j)]) (S' := [vI (1 : Int32)]) (σ' := pI σ 7 (j) 4 (0 : Int32)) 1 rfl trivial ?_
    exact WS.ret rfl rfl (by decide) rfl (h1 j hj)
  · show WS _ M_TM_erase 5 [vR 0 0, vI v] [vI (0 : Int32)] σ _
    refine WS.br (P := (0 : Int32) = 0) (a := 8) (b := 10) (S' := []) rfl (fun _ => ?_) (fun cc => absurd (by decide) cc)
    refine WS.run (C := []) (pc' := 9) (L' := [vR 0 0, vI v]) (S' := [vI (0 : Int32)]) (σ' := σ) 1 rfl trivial ?_
    exact WS.ret rfl rfl (by decide) rfl (h0 q1)
