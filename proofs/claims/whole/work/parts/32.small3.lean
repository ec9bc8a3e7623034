/-! contracts: small ones of the model -/
def namM (σ : Mem) (v : Int32) (j : Nat) : Prop := j < 8 ∧ v = nI j ∧ 0 < (gI σ 67 0 j).toInt
set_option maxRecDepth 4000 in
set_option maxHeartbeats 400000 in
theorem c_MisName {d : Nat} {σ : Mem} {Post : Option AV → Mem → Prop} {v : Int32} (h1 : ∀ j : Nat, namM σ v j → Post (some (vI 1)) σ) (h0 : (∀ j : Nat, ¬ namM σ v j) → Post (some (vI 0)) σ) : MM (d + 1) M_MD_isName [vR 51 0, vI v] σ Post := by
  refine MM.of ok_MD_isName rfl ?_
  show WS _ M_MD_isName 0 [vR 51 0, vI v] [] σ _
  refine WS.run (C := []) (pc' := 4) (L' := [vR 51 0, vI v]) (S' := [vI (7 : Int32), vI (0 : Int32), vI v]) (σ' := σ) 3 rfl trivial ?_
  refine WS.callS M_MD_isIn (as := [vI v, vI (0 : Int32), vI (7 : Int32)]) (rest := []) rfl lk_11_114 rfl rfl (Nat.le_of_ble_eq_true rfl) ?_
  refine c_MisIn (fun q1a q1b => ?_) (fun q1 => ?_)
  · obtain ⟨j, hj, rfl⟩ := t_nat (x := v) (n := 7) (by simp only [t_0] at *; omega) (by simp only [t_7] at *; omega) (by omega)
    have e_j : (nI j).toNatClampNeg = j := cl_n (by omega)
    show WS _ M_MD_isName 7 [vR 51 0, vI (nI j)] [vI (1 : Int32)] σ _
    refine WS.br (P := (1 : Int32) = 0) (a := 23) (b := 10) (S' := []) rfl (fun cc => absurd cc (by decide)) (fun _ => ?_)
    refine WS.run (C := [vp_in (nI j) 8]) (pc' := 16) (L' := [vR 51 0, vI (nI j)]) (S' := [vI (gI σ 67 0 (nI j).toNatClampNeg)]) (σ' := σ) 4 rfl ⟨(vp_n (by omega) (by omega)), trivial⟩ ?_
    simp only [e_j]
    refine WS.br (P := (gI σ 67 0 j) ≤ 0) (a := 23) (b := 19) (S' := []) rfl (fun c2 => ?_) (fun c2 => ?_)
    · refine WS.run (C := []) (pc' := 24) (L' := [vR 51 0, vI (nI j)]) (S' := [vI (0 : Int32)]) (σ' := σ) 1 rfl trivial ?_
      exact WS.ret rfl rfl (by decide) rfl (h0 (fun i z => by obtain rfl : i = j := (nI_eq (by have := z.1; omega) (by omega)).mp z.2.1.symm; have q := c2; rw [t_le, t_0] at q; have := z.2.2; omega))
    · refine WS.run (C := []) (pc' := 24) (L' := [vR 51 0, vI (nI j)]) (S' := [vI (1 : Int32)]) (σ' := σ) 2 rfl trivial ?_
      exact WS.ret rfl rfl (by decide) rfl (h1 j ⟨by omega, rfl, by have q := c2; rw [t_le, t_0] at q; omega⟩)
  · show WS _ M_MD_isName 7 [vR 51 0, vI v] [vI (0 : Int32)] σ _
    refine WS.br (P := (0 : Int32) = 0) (a := 23) (b := 10) (S' := []) rfl (fun _ => ?_) (fun cc => absurd (by decide) cc)
    refine WS.run (C := []) (pc' := 24) (L' := [vR 51 0, vI v]) (S' := [vI (0 : Int32)]) (σ' := σ) 1 rfl trivial ?_
    exact WS.ret rfl rfl (by decide) rfl (h0 (fun i z => q1 (by rw [z.2.1, nI_t (by have := z.1; omega), t_0, t_7]; have := z.1; omega)))
set_option maxRecDepth 4000 in
set_option maxHeartbeats 400000 in
theorem c_Merase {d : Nat} {σ : Mem} {Post : Option AV → Mem → Prop} {v : Int32} (h1 : ∀ j : Nat, namM σ v j → Post (some (vI 1)) (pI σ 67 0 j 0)) (h0 : (∀ j : Nat, ¬ namM σ v j) → Post (some (vI 0)) σ) : MM (d + 2) M_MD_erase [vR 51 0, vI v] σ Post := by
  refine MM.of ok_MD_erase rfl ?_
  show WS _ M_MD_erase 0 [vR 51 0, vI v] [] σ _
  refine WS.run (C := []) (pc' := 2) (L' := [vR 51 0, vI v]) (S' := [vI v, vR 51 0]) (σ' := σ) 2 rfl trivial ?_
  refine WS.callV M_MD_isName (k := 51) (i := 0) (as := [vI v]) (rest := []) rfl lk_11_211 rfl rfl rfl (Nat.le_of_ble_eq_true rfl) ?_
  refine c_MisName (fun j hj => ?_) (fun q1 => ?_)
  · obtain ⟨hj8, rfl, hj2⟩ := id hj
    have e_j : (nI j).toNatClampNeg = j := cl_n (by omega)
    show WS _ M_MD_erase 5 [vR 51 0, vI (nI j)] [vI (1 : Int32)] σ _
    refine WS.br (P := (1 : Int32) = 0) (a := 8) (b := 10) (S' := []) rfl (fun cc => absurd cc (by decide)) (fun _ => ?_)
    refine WS.run (C := [vp_in (nI j) 8]) (pc' := 17) (L' := [vR 51 0, vI (nI j)]) (S' := []) (σ' := pI σ 67 0 (nI j).toNatClampNeg (0 : Int32)) 5 rfl ⟨(vp_n (by omega) (by omega)), trivial⟩ ?_
    simp only [e_j]
    refine WS.run (C := []) (pc' := 18) (L' := [vR 51 0, vI (nI j)]) (S' := [vI (1 : Int32)]) (σ' := pI σ 67 0 j (0 : Int32)) 1 rfl trivial ?_
    exact WS.ret rfl rfl (by decide) rfl (h1 j hj)
  · show WS _ M_MD_erase 5 [vR 51 0, vI v] [vI (0 : Int32)] σ _
    refine WS.br (P := (0 : Int32) = 0) (a := 8) (b := 10) (S' := []) rfl (fun _ => ?_) (fun cc => absurd (by decide) cc)
    refine WS.run (C := []) (pc' := 9) (L' := [vR 51 0, vI v]) (S' := [vI (0 : Int32)]) (σ' := σ) 1 rfl trivial ?_
    exact WS.ret rfl rfl (by decide) rfl (h0 q1)
