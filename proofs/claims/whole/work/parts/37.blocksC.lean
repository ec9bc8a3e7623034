/-! block lemmas -/
set_option maxRecDepth 4000 in
set_option maxHeartbeats 400000 in
theorem b_MD_point_0 {d : Nat} {σ : Mem} {Post : Option AV → Mem → Prop} {x1 x2 x3 : Int32} (h : MM d M_MD_isWay [vR 51 0, vI x1] σ (fun r τ => WS (d + 1) M_MD_point 5 [vR 51 0, vI x1, vI x2, vI x3, vU, vU] (r.toList ++ []) τ Post)) : WS (d + 1) M_MD_point 0 [vR 51 0, vI x1, vI x2, vI x3, vU, vU] [] σ Post := by
  refine WS.run (C := []) (pc' := 2) (L' := [vR 51 0, vI x1, vI x2, vI x3, vU, vU]) (S' := [vI x1, vR 51 0]) (σ' := σ) 2 rfl trivial ?_
  refine WS.callV M_MD_isWay (k := 51) (i := 0) (as := [vI x1]) (rest := []) rfl lk_11_118 rfl rfl rfl (Nat.le_of_ble_eq_true rfl) ?_
  exact h
set_option maxRecDepth 4000 in
set_option maxHeartbeats 400000 in
theorem b_MD_point_5t {d : Nat} {σ : Mem} {Post : Option AV → Mem → Prop} {x1 x2 x3 : Int32} (h : MM d M_MD_isIn [vI x2, vI (0 : Int32), vI (400 : Int32)] σ (fun r τ => WS (d + 1) M_MD_point 16 [vR 51 0, vI x1, vI x2, vI x3, vU, vU] (r.toList ++ []) τ Post)) : WS (d + 1) M_MD_point 5 [vR 51 0, vI x1, vI x2, vI x3, vU, vU] [vI (1 : Int32)] σ Post := by
  refine WS.br (P := (1 : Int32) = 0) (a := 41) (b := 8) (S' := []) rfl (fun cc => absurd cc (by decide)) (fun _ => ?_)
  refine WS.run (C := []) (pc' := 13) (L' := [vR 51 0, vI x1, vI x2, vI x3, vU, vU]) (S' := [vI (400 : Int32), vI (0 : Int32), vI x2]) (σ' := σ) 3 rfl trivial ?_
  refine WS.callS M_MD_isIn (as := [vI x2, vI (0 : Int32), vI (400 : Int32)]) (rest := []) rfl lk_11_114 rfl rfl (Nat.le_of_ble_eq_true rfl) ?_
  exact h
set_option maxRecDepth 4000 in
set_option maxHeartbeats 400000 in
theorem b_MD_point_5f {d : Nat} {σ : Mem} {Post : Option AV → Mem → Prop} {x1 x2 x3 : Int32} (h : Post (some (vI (-1 : Int32))) σ) : WS d M_MD_point 5 [vR 51 0, vI x1, vI x2, vI x3, vU, vU] [vI (0 : Int32)] σ Post := by
  refine WS.br (P := (0 : Int32) = 0) (a := 41) (b := 8) (S' := []) rfl (fun _ => ?_) (fun cc => absurd (by decide) cc)
  refine WS.run (C := []) (pc' := 42) (L' := [vR 51 0, vI x1, vI x2, vI x3, vU, vU]) (S' := [vI (-1 : Int32)]) (σ' := σ) 1 rfl trivial ?_
  exact WS.ret rfl rfl (by decide) rfl h
set_option maxRecDepth 4000 in
set_option maxHeartbeats 400000 in
theorem b_MD_point_16t {d : Nat} {σ : Mem} {Post : Option AV → Mem → Prop} {x1 x2 x3 : Int32} (h : MM d M_MD_isIn [vI x3, vI (0 : Int32), vI (400 : Int32)] σ (fun r τ => WS (d + 1) M_MD_point 27 [vR 51 0, vI x1, vI x2, vI x3, vU, vU] (r.toList ++ []) τ Post)) : WS (d + 1) M_MD_point 16 [vR 51 0, vI x1, vI x2, vI x3, vU, vU] [vI (1 : Int32)] σ Post := by
  refine WS.br (P := (1 : Int32) = 0) (a := 41) (b := 19) (S' := []) rfl (fun cc => absurd cc (by decide)) (fun _ => ?_)
  refine WS.run (C := []) (pc' := 24) (L' := [vR 51 0, vI x1, vI x2, vI x3, vU, vU]) (S' := [vI (400 : Int32), vI (0 : Int32), vI x3]) (σ' := σ) 3 rfl trivial ?_
  refine WS.callS M_MD_isIn (as := [vI x3, vI (0 : Int32), vI (400 : Int32)]) (rest := []) rfl lk_11_114 rfl rfl (Nat.le_of_ble_eq_true rfl) ?_
  exact h
set_option maxRecDepth 4000 in
set_option maxHeartbeats 400000 in
theorem b_MD_point_16f {d : Nat} {σ : Mem} {Post : Option AV → Mem → Prop} {x1 x2 x3 : Int32} (h : Post (some (vI (-1 : Int32))) σ) : WS d M_MD_point 16 [vR 51 0, vI x1, vI x2, vI x3, vU, vU] [vI (0 : Int32)] σ Post := by
  refine WS.br (P := (0 : Int32) = 0) (a := 41) (b := 19) (S' := []) rfl (fun _ => ?_) (fun cc => absurd (by decide) cc)
  refine WS.run (C := []) (pc' := 42) (L' := [vR 51 0, vI x1, vI x2, vI x3, vU, vU]) (S' := [vI (-1 : Int32)]) (σ' := σ) 1 rfl trivial ?_
  exact WS.ret rfl rfl (by decide) rfl h
set_option maxRecDepth 4000 in
set_option maxHeartbeats 400000 in
theorem b_MD_point_27t {d : Nat} {σ : Mem} {Post : Option AV → Mem → Prop} {x1 x2 x3 : Int32} (h : vp_in x1 12 ∧ (((gI σ 55 0 x1.toNatClampNeg) = (20 : Int32) → Post (some (vI (-1 : Int32))) σ) ∧ (¬ ((gI σ 55 0 x1.toNatClampNeg) = (20 : Int32)) → vp_in x1 12 ∧ vp_in x1 12 ∧ (((gI σ 55 0 x1.toNatClampNeg) ≤ 0 → vp_in (((20 : Int32) * x1) + (gI σ 55 0 x1.toNatClampNeg)) 240 ∧ (∀ σ1 : Mem, σ1 = pI σ 56 0 (((20 : Int32) * x1) + (gI σ 55 0 x1.toNatClampNeg)).toNatClampNeg x2 → vp_in (((20 : Int32) * x1) + (gI σ 55 0 x1.toNatClampNeg)) 240 ∧ (∀ σ2 : Mem, σ2 = pI σ1 57 0 (((20 : Int32) * x1) + (gI σ 55 0 x1.toNatClampNeg)).toNatClampNeg x3 → vp_in x1 12 ∧ vp_in x1 12 ∧ (∀ σ3 : Mem, σ3 = pI σ2 55 0 x1.toNatClampNeg ((gI σ2 55 0 x1.toNatClampNeg) + (1 : Int32)) → WS d M_MD_point 122 [vR 51 0, vI x1, vI x2, vI x3, vI (((20 : Int32) * x1) + (gI σ 55 0 x1.toNatClampNeg)), vI (0 : Int32)] [] σ3 Post)))) ∧ (¬ ((gI σ 55 0 x1.toNatClampNeg) ≤ 0) → vp_in ((((20 : Int32) * x1) + (gI σ 55 0 x1.toNatClampNeg)) - (1 : Int32)) 240 ∧ (((gI σ 56 0 ((((20 : Int32) * x1) + (gI σ 55 0 x1.toNatClampNeg)) - (1 : Int32)).toNatClampNeg) = x2 → vp_in ((((20 : Int32) * x1) + (gI σ 55 0 x1.toNatClampNeg)) - (1 : Int32)) 240 ∧ (((gI σ 57 0 ((((20 : Int32) * x1) + (gI σ 55 0 x1.toNatClampNeg)) - (1 : Int32)).toNatClampNeg) = x3 → Post (some (vI (-1 : Int32))) σ) ∧ (¬ ((gI σ 57 0 ((((20 : Int32) * x1) + (gI σ 55 0 x1.toNatClampNeg)) - (1 : Int32)).toNatClampNeg) = x3) → vp_in (((20 : Int32) * x1) + (gI σ 55 0 x1.toNatClampNeg)) 240 ∧ (∀ σ4 : Mem, σ4 = pI σ 56 0 (((20 : Int32) * x1) + (gI σ 55 0 x1.toNatClampNeg)).toNatClampNeg x2 → vp_in (((20 : Int32) * x1) + (gI σ 55 0 x1.toNatClampNeg)) 240 ∧ (∀ σ5 : Mem, σ5 = pI σ4 57 0 (((20 : Int32) * x1) + (gI σ 55 0 x1.toNatClampNeg)).toNatClampNeg x3 → vp_in x1 12 ∧ vp_in x1 12 ∧ (∀ σ6 : Mem, σ6 = pI σ5 55 0 x1.toNatClampNeg ((gI σ5 55 0 x1.toNatClampNeg) + (1 : Int32)) → WS d M_MD_point 122 [vR 51 0, vI x1, vI x2, vI x3, vI (((20 : Int32) * x1) + (gI σ 55 0 x1.toNatClampNeg)), vI (0 : Int32)] [] σ6 Post)))))) ∧ (¬ ((gI σ 56 0 ((((20 : Int32) * x1) + (gI σ 55 0 x1.toNatClampNeg)) - (1 : Int32)).toNatClampNeg) = x2) → vp_in (((20 : Int32) * x1) + (gI σ 55 0 x1.toNatClampNeg)) 240 ∧ (∀ σ7 : Mem, σ7 = pI σ 56 0 (((20 : Int32) * x1) + (gI σ 55 0 x1.toNatClampNeg)).toNatClampNeg x2 → vp_in (((20 : Int32) * x1) + (gI σ 55 0 x1.toNatClampNeg)) 240 ∧ (∀ σ8 : Mem, σ8 = pI σ7 57 0 (((20 : Int32) * x1) + (gI σ 55 0 x1.toNatClampNeg)).toNatClampNeg x3 → vp_in x1 12 ∧ vp_in x1 12 ∧ (∀ σ9 : Mem, σ9 = pI σ8 55 0 x1.toNatClampNeg ((gI σ8 55 0 x1.toNatClampNeg) + (1 : Int32)) → WS d M_MD_point 122 [vR 51 0, vI x1, vI x2, vI x3, vI (((20 : Int32) * x1) + (gI σ 55 0 x1.toNatClampNeg)), vI (0 : Int32)] [] σ9 Post)))))))))) : WS d M_MD_point 27 [vR 51 0, vI x1, vI x2, vI x3, vU, vU] [vI (1 : Int32)] σ Post := by
  refine WS.br (P := (1 : Int32) = 0) (a := 41) (b := 30) (S' := []) rfl (fun cc => absurd cc (by decide)) (fun _ => ?_)
  refine WS.run (C := [vp_in x1 12]) (pc' := 38) (L' := [vR 51 0, vI x1, vI x2, vI x3, vU, vU]) (S' := [vI (20 : Int32), vI (gI σ 55 0 x1.toNatClampNeg)]) (σ' := σ) 5 rfl ⟨h.1, trivial⟩ ?_
  refine WS.br (P := (gI σ 55 0 x1.toNatClampNeg) = (20 : Int32)) (a := 41) (b := 43) (S' := []) rfl (fun c1 => ?_) (fun c1 => ?_)
  · refine WS.run (C := []) (pc' := 42) (L' := [vR 51 0, vI x1, vI x2, vI x3, vU, vU]) (S' := [vI (-1 : Int32)]) (σ' := σ) 1 rfl trivial ?_
    exact WS.ret rfl rfl (by decide) rfl (h.2.1 c1)
  · refine WS.run (C := [vp_in x1 12, vp_in x1 12]) (pc' := 62) (L' := [vR 51 0, vI x1, vI x2, vI x3, vI (((20 : Int32) * x1) + (gI σ 55 0 x1.toNatClampNeg)), vU]) (S' := [vI (gI σ 55 0 x1.toNatClampNeg)]) (σ' := σ) 13 rfl ⟨(h.2.2 c1).1, (h.2.2 c1).2.1, trivial⟩ ?_
    refine WS.br (P := (gI σ 55 0 x1.toNatClampNeg) ≤ 0) (a := 93) (b := 65) (S' := []) rfl (fun c2 => ?_) (fun c2 => ?_)
    · refine WS.run (C := [vp_in (((20 : Int32) * x1) + (gI σ 55 0 x1.toNatClampNeg)) 240]) (pc' := 101) (L' := [vR 51 0, vI x1, vI x2, vI x3, vI (((20 : Int32) * x1) + (gI σ 55 0 x1.toNatClampNeg)), vU]) (S' := []) (σ' := pI σ 56 0 (((20 : Int32) * x1) + (gI σ 55 0 x1.toNatClampNeg)).toNatClampNeg x2) 5 rfl ⟨((h.2.2 c1).2.2.1 c2).1, trivial⟩ ?_
      obtain ⟨σ1, eσ1⟩ : ∃ z, z = pI σ 56 0 (((20 : Int32) * x1) + (gI σ 55 0 x1.toNatClampNeg)).toNatClampNeg x2 := ⟨_, rfl⟩
      rw [← eσ1]
      refine WS.run (C := [vp_in (((20 : Int32) * x1) + (gI σ 55 0 x1.toNatClampNeg)) 240]) (pc' := 109) (L' := [vR 51 0, vI x1, vI x2, vI x3, vI (((20 : Int32) * x1) + (gI σ 55 0 x1.toNatClampNeg)), vU]) (S' := []) (σ' := pI σ1 57 0 (((20 : Int32) * x1) + (gI σ 55 0 x1.toNatClampNeg)).toNatClampNeg x3) 5 rfl ⟨(((h.2.2 c1).2.2.1 c2).2 σ1 eσ1).1, trivial⟩ ?_
      obtain ⟨σ2, eσ2⟩ : ∃ z, z = pI σ1 57 0 (((20 : Int32) * x1) + (gI σ 55 0 x1.toNatClampNeg)).toNatClampNeg x3 := ⟨_, rfl⟩
      rw [← eσ2]
      refine WS.run (C := [vp_in x1 12, vp_in x1 12]) (pc' := 119) (L' := [vR 51 0, vI x1, vI x2, vI x3, vI (((20 : Int32) * x1) + (gI σ 55 0 x1.toNatClampNeg)), vU]) (S' := []) (σ' := pI σ2 55 0 x1.toNatClampNeg ((gI σ2 55 0 x1.toNatClampNeg) + (1 : Int32))) 8 rfl ⟨((((h.2.2 c1).2.2.1 c2).2 σ1 eσ1).2 σ2 eσ2).1, ((((h.2.2 c1).2.2.1 c2).2 σ1 eσ1).2 σ2 eσ2).2.1, trivial⟩ ?_
      obtain ⟨σ3, eσ3⟩ : ∃ z, z = pI σ2 55 0 x1.toNatClampNeg ((gI σ2 55 0 x1.toNatClampNeg) + (1 : Int32)) := ⟨_, rfl⟩
      rw [← eσ3]
      refine WS.run (C := []) (pc' := 122) (L' := [vR 51 0, vI x1, vI x2, vI x3, vI (((20 : Int32) * x1) + (gI σ 55 0 x1.toNatClampNeg)), vI (0 : Int32)]) (S' := []) (σ' := σ3) 2 rfl trivial ?_
      exact (((((h.2.2 c1).2.2.1 c2).2 σ1 eσ1).2 σ2 eσ2).2.2 σ3 eσ3)
    · refine WS.run (C := [vp_in ((((20 : Int32) * x1) + (gI σ 55 0 x1.toNatClampNeg)) - (1 : Int32)) 240]) (pc' := 75) (L' := [vR 51 0, vI x1, vI x2, vI x3, vI (((20 : Int32) * x1) + (gI σ 55 0 x1.toNatClampNeg)), vU]) (S' := [vI x2, vI (gI σ 56 0 ((((20 : Int32) * x1) + (gI σ 55 0 x1.toNatClampNeg)) - (1 : Int32)).toNatClampNeg)]) (σ' := σ) 7 rfl ⟨((h.2.2 c1).2.2.2 c2).1, trivial⟩ ?_
      refine WS.br (P := (gI σ 56 0 ((((20 : Int32) * x1) + (gI σ 55 0 x1.toNatClampNeg)) - (1 : Int32)).toNatClampNeg) = x2) (a := 78) (b := 93) (S' := []) rfl (fun c3 => ?_) (fun c3 => ?_)
      · refine WS.run (C := [vp_in ((((20 : Int32) * x1) + (gI σ 55 0 x1.toNatClampNeg)) - (1 : Int32)) 240]) (pc' := 88) (L' := [vR 51 0, vI x1, vI x2, vI x3, vI (((20 : Int32) * x1) + (gI σ 55 0 x1.toNatClampNeg)), vU]) (S' := [vI x3, vI (gI σ 57 0 ((((20 : Int32) * x1) + (gI σ 55 0 x1.toNatClampNeg)) - (1 : Int32)).toNatClampNeg)]) (σ' := σ) 7 rfl ⟨(((h.2.2 c1).2.2.2 c2).2.1 c3).1, trivial⟩ ?_
        refine WS.br (P := (gI σ 57 0 ((((20 : Int32) * x1) + (gI σ 55 0 x1.toNatClampNeg)) - (1 : Int32)).toNatClampNeg) = x3) (a := 91) (b := 93) (S' := []) rfl (fun c4 => ?_) (fun c4 => ?_)
        · refine WS.run (C := []) (pc' := 92) (L' := [vR 51 0, vI x1, vI x2, vI x3, vI (((20 : Int32) * x1) + (gI σ 55 0 x1.toNatClampNeg)), vU]) (S' := [vI (-1 : Int32)]) (σ' := σ) 1 rfl trivial ?_
          exact WS.ret rfl rfl (by decide) rfl ((((h.2.2 c1).2.2.2 c2).2.1 c3).2.1 c4)
        · refine WS.run (C := [vp_in (((20 : Int32) * x1) + (gI σ 55 0 x1.toNatClampNeg)) 240]) (pc' := 101) (L' := [vR 51 0, vI x1, vI x2, vI x3, vI (((20 : Int32) * x1) + (gI σ 55 0 x1.toNatClampNeg)), vU]) (S' := []) (σ' := pI σ 56 0 (((20 : Int32) * x1) + (gI σ 55 0 x1.toNatClampNeg)).toNatClampNeg x2) 5 rfl ⟨((((h.2.2 c1).2.2.2 c2).2.1 c3).2.2 c4).1, trivial⟩ ?_
          obtain ⟨σ4, eσ4⟩ : ∃ z, z = pI σ 56 0 (((20 : Int32) * x1) + (gI σ 55 0 x1.toNatClampNeg)).toNatClampNeg x2 := ⟨_, rfl⟩
          rw [← eσ4]
          refine WS.run (C := [vp_in (((20 : Int32) * x1) + (gI σ 55 0 x1.toNatClampNeg)) 240]) (pc' := 109) (L' := [vR 51 0, vI x1, vI x2, vI x3, vI (((20 : Int32) * x1) + (gI σ 55 0 x1.toNatClampNeg)), vU]) (S' := []) (σ' := pI σ4 57 0 (((20 : Int32) * x1) + (gI σ 55 0 x1.toNatClampNeg)).toNatClampNeg x3) 5 rfl ⟨(((((h.2.2 c1).2.2.2 c2).2.1 c3).2.2 c4).2 σ4 eσ4).1, trivial⟩ ?_
          obtain ⟨σ5, eσ5⟩ : ∃ z, z = pI σ4 57 0 (((20 : Int32) * x1) + (gI σ 55 0 x1.toNatClampNeg)).toNatClampNeg x3 := ⟨_, rfl⟩
          rw [← eσ5]
          refine WS.run (C := [vp_in x1 12, vp_in x1 12]) (pc' := 119) (L' := [vR 51 0, vI x1, vI x2, vI x3, vI (((20 : Int32) * x1) + (gI σ 55 0 x1.toNatClampNeg)), vU]) (S' := []) (σ' := pI σ5 55 0 x1.toNatClampNeg ((gI σ5 55 0 x1.toNatClampNeg) + (1 : Int32))) 8 rfl ⟨((((((h.2.2 c1).2.2.2 c2).2.1 c3).2.2 c4).2 σ4 eσ4).2 σ5 eσ5).1, ((((((h.2.2 c1).2.2.2 c2).2.1 c3).2.2 c4).2 σ4 eσ4).2 σ5 eσ5).2.1, trivial⟩ ?_
          obtain ⟨σ6, eσ6⟩ : ∃ z, z = pI σ5 55 0 x1.toNatClampNeg ((gI σ5 55 0 x1.toNatClampNeg) + (1 : Int32)) := ⟨_, rfl⟩
          rw [← eσ6]
          refine WS.run (C := []) (pc' := 122) (L' := [vR 51 0, vI x1, vI x2, vI x3, vI (((20 : Int32) * x1) + (gI σ 55 0 x1.toNatClampNeg)), vI (0 : Int32)]) (S' := []) (σ' := σ6) 2 rfl trivial ?_
          exact (((((((h.2.2 c1).2.2.2 c2).2.1 c3).2.2 c4).2 σ4 eσ4).2 σ5 eσ5).2.2 σ6 eσ6)
      · refine WS.run (C := [vp_in (((20 : Int32) * x1) + (gI σ 55 0 x1.toNatClampNeg)) 240]) (pc' := 101) (L' := [vR 51 0, vI x1, vI x2, vI x3, vI (((20 : Int32) * x1) + (gI σ 55 0 x1.toNatClampNeg)), vU]) (S' := []) (σ' := pI σ 56 0 (((20 : Int32) * x1) + (gI σ 55 0 x1.toNatClampNeg)).toNatClampNeg x2) 5 rfl ⟨(((h.2.2 c1).2.2.2 c2).2.2 c3).1, trivial⟩ ?_
        obtain ⟨σ7, eσ7⟩ : ∃ z, z = pI σ 56 0 (((20 : Int32) * x1) + (gI σ 55 0 x1.toNatClampNeg)).toNatClampNeg x2 := ⟨_, rfl⟩
        rw [← eσ7]
        refine WS.run (C := [vp_in (((20 : Int32) * x1) + (gI σ 55 0 x1.toNatClampNeg)) 240]) (pc' := 109) (L' := [vR 51 0, vI x1, vI x2, vI x3, vI (((20 : Int32) * x1) + (gI σ 55 0 x1.toNatClampNeg)), vU]) (S' := []) (σ' := pI σ7 57 0 (((20 : Int32) * x1) + (gI σ 55 0 x1.toNatClampNeg)).toNatClampNeg x3) 5 rfl ⟨((((h.2.2 c1).2.2.2 c2).2.2 c3).2 σ7 eσ7).1, trivial⟩ ?_
        obtain ⟨σ8, eσ8⟩ : ∃ z, z = pI σ7 57 0 (((20 : Int32) * x1) + (gI σ 55 0 x1.toNatClampNeg)).toNatClampNeg x3 := ⟨_, rfl⟩
        rw [← eσ8]
        refine WS.run (C := [vp_in x1 12, vp_in x1 12]) (pc' := 119) (L' := [vR 51 0, vI x1, vI x2, vI x3, vI (((20 : Int32) * x1) + (gI σ 55 0 x1.toNatClampNeg)), vU]) (S' := []) (σ' := pI σ8 55 0 x1.toNatClampNeg ((gI σ8 55 0 x1.toNatClampNeg) + (1 : Int32))) 8 rfl ⟨(((((h.2.2 c1).2.2.2 c2).2.2 c3).2 σ7 eσ7).2 σ8 eσ8).1, (((((h.2.2 c1).2.2.2 c2).2.2 c3).2 σ7 eσ7).2 σ8 eσ8).2.1, trivial⟩ ?_
        obtain ⟨σ9, eσ9⟩ : ∃ z, z = pI σ8 55 0 x1.toNatClampNeg ((gI σ8 55 0 x1.toNatClampNeg) + (1 : Int32)) := ⟨_, rfl⟩
        rw [← eσ9]
        refine WS.run (C := []) (pc' := 122) (L' := [vR 51 0, vI x1, vI x2, vI x3, vI (((20 : Int32) * x1) + (gI σ 55 0 x1.toNatClampNeg)), vI (0 : Int32)]) (S' := []) (σ' := σ9) 2 rfl trivial ?_
        exact ((((((h.2.2 c1).2.2.2 c2).2.2 c3).2 σ7 eσ7).2 σ8 eσ8).2.2 σ9 eσ9)
set_option maxRecDepth 4000 in
set_option maxHeartbeats 400000 in
theorem b_MD_point_27f {d : Nat} {σ : Mem} {Post : Option AV → Mem → Prop} {x1 x2 x3 : Int32} (h : Post (some (vI (-1 : Int32))) σ) : WS d M_MD_point 27 [vR 51 0, vI x1, vI x2, vI x3, vU, vU] [vI (0 : Int32)] σ Post := by
  refine WS.br (P := (0 : Int32) = 0) (a := 41) (b := 30) (S' := []) rfl (fun _ => ?_) (fun cc => absurd (by decide) cc)
  refine WS.run (C := []) (pc' := 42) (L' := [vR 51 0, vI x1, vI x2, vI x3, vU, vU]) (S' := [vI (-1 : Int32)]) (σ' := σ) 1 rfl trivial ?_
  exact WS.ret rfl rfl (by decide) rfl h
set_option maxRecDepth 4000 in
set_option maxHeartbeats 400000 in
theorem b_MD_point_122 {d : Nat} {σ : Mem} {Post : Option AV → Mem → Prop} {x1 x2 x3 x4 x5 : Int32} (h : vp_in x1 12 ∧ (((gI σ 55 0 x1.toNatClampNeg) ≤ x5 → vp_in x1 12 ∧ vp_in x1 12 ∧ (∀ σ1 : Mem, σ1 = pI σ 58 0 x1.toNatClampNeg (gI σ 55 0 x1.toNatClampNeg) → vp_in x1 12 ∧ Post (some (vI (gI σ1 55 0 x1.toNatClampNeg))) σ1)) ∧ (¬ ((gI σ 55 0 x1.toNatClampNeg) ≤ x5) → vp_in (((20 : Int32) * x1) + x5) 240 ∧ (∀ σ2 : Mem, σ2 = pI σ 59 0 (((20 : Int32) * x1) + x5).toNatClampNeg x5 → WS d M_MD_point 122 [vR 51 0, vI x1, vI x2, vI x3, vI x4, vI (x5 + (1 : Int32))] [] σ2 Post)))) : WS d M_MD_point 122 [vR 51 0, vI x1, vI x2, vI x3, vI x4, vI x5] [] σ Post := by
  refine WS.run (C := [vp_in x1 12]) (pc' := 130) (L' := [vR 51 0, vI x1, vI x2, vI x3, vI x4, vI x5]) (S' := [vI (gI σ 55 0 x1.toNatClampNeg), vI x5]) (σ' := σ) 5 rfl ⟨h.1, trivial⟩ ?_
  refine WS.br (P := (gI σ 55 0 x1.toNatClampNeg) ≤ x5) (a := 153) (b := 133) (S' := []) rfl (fun c5 => ?_) (fun c5 => ?_)
  · refine WS.run (C := [vp_in x1 12, vp_in x1 12]) (pc' := 165) (L' := [vR 51 0, vI x1, vI x2, vI x3, vI x4, vI x5]) (S' := []) (σ' := pI σ 58 0 x1.toNatClampNeg (gI σ 55 0 x1.toNatClampNeg)) 8 rfl ⟨(h.2.1 c5).1, (h.2.1 c5).2.1, trivial⟩ ?_
    obtain ⟨σ1, eσ1⟩ : ∃ z, z = pI σ 58 0 x1.toNatClampNeg (gI σ 55 0 x1.toNatClampNeg) := ⟨_, rfl⟩
    rw [← eσ1]
    refine WS.run (C := [vp_in x1 12]) (pc' := 171) (L' := [vR 51 0, vI x1, vI x2, vI x3, vI x4, vI x5]) (S' := [vI (gI σ1 55 0 x1.toNatClampNeg)]) (σ' := σ1) 4 rfl ⟨((h.2.1 c5).2.2 σ1 eσ1).1, trivial⟩ ?_
    exact WS.ret rfl rfl (by decide) rfl ((h.2.1 c5).2.2 σ1 eσ1).2
  · refine WS.run (C := [vp_in (((20 : Int32) * x1) + x5) 240]) (pc' := 147) (L' := [vR 51 0, vI x1, vI x2, vI x3, vI x4, vI x5]) (S' := []) (σ' := pI σ 59 0 (((20 : Int32) * x1) + x5).toNatClampNeg x5) 9 rfl ⟨(h.2.2 c5).1, trivial⟩ ?_
    obtain ⟨σ2, eσ2⟩ : ∃ z, z = pI σ 59 0 (((20 : Int32) * x1) + x5).toNatClampNeg x5 := ⟨_, rfl⟩
    rw [← eσ2]
    refine WS.run (C := []) (pc' := 122) (L' := [vR 51 0, vI x1, vI x2, vI x3, vI x4, vI (x5 + (1 : Int32))]) (S' := []) (σ' := σ2) 2 rfl trivial ?_
    exact ((h.2.2 c5).2 σ2 eσ2)
set_option maxRecDepth 4000 in
set_option maxHeartbeats 400000 in
theorem b_MD_isNear_0 {d : Nat} {σ : Mem} {Post : Option AV → Mem → Prop} {x1 x2 x3 x4 : Int32} (h : WS d M_MD_isNear 11 [vR 51 0, vI x1, vI x2, vI x3, vI x4, vI ((20 : Int32) * x1), vI (x2 + (1 : Int32))] [] σ Post) : WS d M_MD_isNear 0 [vR 51 0, vI x1, vI x2, vI x3, vI x4, vU, vU] [] σ Post := by
  refine WS.run (C := []) (pc' := 11) (L' := [vR 51 0, vI x1, vI x2, vI x3, vI x4, vI ((20 : Int32) * x1), vI (x2 + (1 : Int32))]) (S' := []) (σ' := σ) 8 rfl trivial ?_
  exact h
set_option maxRecDepth 4000 in
set_option maxHeartbeats 400000 in
theorem b_MD_isNear_11 {d : Nat} {σ : Mem} {Post : Option AV → Mem → Prop} {x1 x2 x3 x4 x5 x6 : Int32} (h : ((x3 ≤ x6 → Post (some (vI (1 : Int32))) σ) ∧ (¬ (x3 ≤ x6) → MM d M_MD_far [vR 51 0, vI (x5 + x6), vI (x5 + x2), vI (x5 + x3), vI x4] σ (fun r τ => WS (d + 1) M_MD_isNear 36 [vR 51 0, vI x1, vI x2, vI x3, vI x4, vI x5, vI x6] (r.toList ++ []) τ Post)))) : WS (d + 1) M_MD_isNear 11 [vR 51 0, vI x1, vI x2, vI x3, vI x4, vI x5, vI x6] [] σ Post := by
  refine WS.run (C := []) (pc' := 14) (L' := [vR 51 0, vI x1, vI x2, vI x3, vI x4, vI x5, vI x6]) (S' := [vI x3, vI x6]) (σ' := σ) 2 rfl trivial ?_
  refine WS.br (P := x3 ≤ x6) (a := 47) (b := 17) (S' := []) rfl (fun c1 => ?_) (fun c1 => ?_)
  · refine WS.run (C := []) (pc' := 48) (L' := [vR 51 0, vI x1, vI x2, vI x3, vI x4, vI x5, vI x6]) (S' := [vI (1 : Int32)]) (σ' := σ) 1 rfl trivial ?_
    exact WS.ret rfl rfl (by decide) rfl (h.1 c1)
  · refine WS.run (C := []) (pc' := 33) (L' := [vR 51 0, vI x1, vI x2, vI x3, vI x4, vI x5, vI x6]) (S' := [vI x4, vI (x5 + x3), vI (x5 + x2), vI (x5 + x6), vR 51 0]) (σ' := σ) 11 rfl trivial ?_
    refine WS.callV M_MD_far (k := 51) (i := 0) (as := [vI (x5 + x6), vI (x5 + x2), vI (x5 + x3), vI x4]) (rest := []) rfl lk_11_138 rfl rfl rfl (Nat.le_of_ble_eq_true rfl) ?_
    exact (h.2 c1)
set_option maxRecDepth 4000 in
set_option maxHeartbeats 400000 in
theorem b_MD_isNear_36 {d : Nat} {σ : Mem} {Post : Option AV → Mem → Prop} {x1 x2 x3 x4 x5 x6 sx0 : Int32} (h : ((sx0 ≤ 0 → WS d M_MD_isNear 11 [vR 51 0, vI x1, vI x2, vI x3, vI x4, vI x5, vI (x6 + (1 : Int32))] [] σ Post) ∧ (¬ (sx0 ≤ 0) → Post (some (vI (0 : Int32))) σ))) : WS d M_MD_isNear 36 [vR 51 0, vI x1, vI x2, vI x3, vI x4, vI x5, vI x6] [vI sx0] σ Post := by
  refine WS.br (P := sx0 ≤ 0) (a := 41) (b := 39) (S' := []) rfl (fun c2 => ?_) (fun c2 => ?_)
  · refine WS.run (C := []) (pc' := 11) (L' := [vR 51 0, vI x1, vI x2, vI x3, vI x4, vI x5, vI (x6 + (1 : Int32))]) (S' := []) (σ' := σ) 2 rfl trivial ?_
    exact (h.1 c2)
  · refine WS.run (C := []) (pc' := 40) (L' := [vR 51 0, vI x1, vI x2, vI x3, vI x4, vI x5, vI x6]) (S' := [vI (0 : Int32)]) (σ' := σ) 1 rfl trivial ?_
    exact WS.ret rfl rfl (by decide) rfl (h.2 c2)
set_option maxRecDepth 4000 in
set_option maxHeartbeats 400000 in
theorem b_MD_simple_0 {d : Nat} {σ : Mem} {Post : Option AV → Mem → Prop} {x1 x2 : Int32} (h : MM d M_MD_isWay [vR 51 0, vI x1] σ (fun r τ => WS (d + 1) M_MD_simple 5 [vR 51 0, vI x1, vI x2, vU, vU, vU] (r.toList ++ []) τ Post)) : WS (d + 1) M_MD_simple 0 [vR 51 0, vI x1, vI x2, vU, vU, vU] [] σ Post := by
  refine WS.run (C := []) (pc' := 2) (L' := [vR 51 0, vI x1, vI x2, vU, vU, vU]) (S' := [vI x1, vR 51 0]) (σ' := σ) 2 rfl trivial ?_
  refine WS.callV M_MD_isWay (k := 51) (i := 0) (as := [vI x1]) (rest := []) rfl lk_11_118 rfl rfl rfl (Nat.le_of_ble_eq_true rfl) ?_
  exact h
set_option maxRecDepth 4000 in
set_option maxHeartbeats 400000 in
theorem b_MD_simple_5t {d : Nat} {σ : Mem} {Post : Option AV → Mem → Prop} {x1 x2 : Int32} (h : vp_in x1 12 ∧ (((gI σ 55 0 x1.toNatClampNeg) = 0 → Post (some (vI (-1 : Int32))) σ) ∧ (¬ ((gI σ 55 0 x1.toNatClampNeg) = 0) → MM d M_MD_isIn [vI x2, vI (0 : Int32), vI (100 : Int32)] σ (fun r τ => WS (d + 1) M_MD_simple 24 [vR 51 0, vI x1, vI x2, vU, vU, vU] (r.toList ++ []) τ Post)))) : WS (d + 1) M_MD_simple 5 [vR 51 0, vI x1, vI x2, vU, vU, vU] [vI (1 : Int32)] σ Post := by
  refine WS.br (P := (1 : Int32) = 0) (a := 27) (b := 8) (S' := []) rfl (fun cc => absurd cc (by decide)) (fun _ => ?_)
  refine WS.run (C := [vp_in x1 12]) (pc' := 14) (L' := [vR 51 0, vI x1, vI x2, vU, vU, vU]) (S' := [vI (gI σ 55 0 x1.toNatClampNeg)]) (σ' := σ) 4 rfl ⟨h.1, trivial⟩ ?_
  refine WS.br (P := (gI σ 55 0 x1.toNatClampNeg) = 0) (a := 27) (b := 17) (S' := []) rfl (fun c1 => ?_) (fun c1 => ?_)
  · refine WS.run (C := []) (pc' := 28) (L' := [vR 51 0, vI x1, vI x2, vU, vU, vU]) (S' := [vI (-1 : Int32)]) (σ' := σ) 1 rfl trivial ?_
    exact WS.ret rfl rfl (by decide) rfl (h.2.1 c1)
  · refine WS.run (C := []) (pc' := 21) (L' := [vR 51 0, vI x1, vI x2, vU, vU, vU]) (S' := [vI (100 : Int32), vI (0 : Int32), vI x2]) (σ' := σ) 3 rfl trivial ?_
    refine WS.callS M_MD_isIn (as := [vI x2, vI (0 : Int32), vI (100 : Int32)]) (rest := []) rfl lk_11_114 rfl rfl (Nat.le_of_ble_eq_true rfl) ?_
    exact (h.2.2 c1)
set_option maxRecDepth 4000 in
set_option maxHeartbeats 400000 in
theorem b_MD_simple_5f {d : Nat} {σ : Mem} {Post : Option AV → Mem → Prop} {x1 x2 : Int32} (h : Post (some (vI (-1 : Int32))) σ) : WS d M_MD_simple 5 [vR 51 0, vI x1, vI x2, vU, vU, vU] [vI (0 : Int32)] σ Post := by
  refine WS.br (P := (0 : Int32) = 0) (a := 27) (b := 8) (S' := []) rfl (fun _ => ?_) (fun cc => absurd (by decide) cc)
  refine WS.run (C := []) (pc' := 28) (L' := [vR 51 0, vI x1, vI x2, vU, vU, vU]) (S' := [vI (-1 : Int32)]) (σ' := σ) 1 rfl trivial ?_
  exact WS.ret rfl rfl (by decide) rfl h
set_option maxRecDepth 4000 in
set_option maxHeartbeats 400000 in
theorem b_MD_simple_24t {d : Nat} {σ : Mem} {Post : Option AV → Mem → Prop} {x1 x2 : Int32} (h : vp_in x1 12 ∧ vp_in ((gI σ 55 0 x1.toNatClampNeg) - (1 : Int32)) 20 ∧ (∀ σ1 : Mem, σ1 = pI σ 60 0 ((gI σ 55 0 x1.toNatClampNeg) - (1 : Int32)).toNatClampNeg (1 : Int32) → WS d M_MD_simple 50 [vR 51 0, vI x1, vI x2, vI (gI σ 55 0 x1.toNatClampNeg), vI ((gI σ 55 0 x1.toNatClampNeg) - (2 : Int32)), vU] [] σ1 Post)) : WS d M_MD_simple 24 [vR 51 0, vI x1, vI x2, vU, vU, vU] [vI (1 : Int32)] σ Post := by
  refine WS.br (P := (1 : Int32) = 0) (a := 27) (b := 29) (S' := []) rfl (fun cc => absurd cc (by decide)) (fun _ => ?_)
  refine WS.run (C := [vp_in x1 12, vp_in ((gI σ 55 0 x1.toNatClampNeg) - (1 : Int32)) 20]) (pc' := 45) (L' := [vR 51 0, vI x1, vI x2, vI (gI σ 55 0 x1.toNatClampNeg), vU, vU]) (S' := []) (σ' := pI σ 60 0 ((gI σ 55 0 x1.toNatClampNeg) - (1 : Int32)).toNatClampNeg (1 : Int32)) 12 rfl ⟨h.1, h.2.1, trivial⟩ ?_
  obtain ⟨σ1, eσ1⟩ : ∃ z, z = pI σ 60 0 ((gI σ 55 0 x1.toNatClampNeg) - (1 : Int32)).toNatClampNeg (1 : Int32) := ⟨_, rfl⟩
  rw [← eσ1]
  refine WS.run (C := []) (pc' := 50) (L' := [vR 51 0, vI x1, vI x2, vI (gI σ 55 0 x1.toNatClampNeg), vI ((gI σ 55 0 x1.toNatClampNeg) - (2 : Int32)), vU]) (S' := []) (σ' := σ1) 4 rfl trivial ?_
  exact (h.2.2 σ1 eσ1)
set_option maxRecDepth 4000 in
set_option maxHeartbeats 400000 in
theorem b_MD_simple_24f {d : Nat} {σ : Mem} {Post : Option AV → Mem → Prop} {x1 x2 : Int32} (h : Post (some (vI (-1 : Int32))) σ) : WS d M_MD_simple 24 [vR 51 0, vI x1, vI x2, vU, vU, vU] [vI (0 : Int32)] σ Post := by
  refine WS.br (P := (0 : Int32) = 0) (a := 27) (b := 29) (S' := []) rfl (fun _ => ?_) (fun cc => absurd (by decide) cc)
  refine WS.run (C := []) (pc' := 28) (L' := [vR 51 0, vI x1, vI x2, vU, vU, vU]) (S' := [vI (-1 : Int32)]) (σ' := σ) 1 rfl trivial ?_
  exact WS.ret rfl rfl (by decide) rfl h
set_option maxRecDepth 4000 in
set_option maxHeartbeats 400000 in
theorem b_MD_simple_50 {d : Nat} {σ : Mem} {Post : Option AV → Mem → Prop} {x1 x2 x3 x4 : Int32} {v5 : AV} (h : ((x4 < 0 → vp_in x1 12 ∧ (∀ σ1 : Mem, σ1 = pI σ 58 0 x1.toNatClampNeg (0 : Int32) → WS d M_MD_simple 146 [vR 51 0, vI x1, vI x2, vI x3, vI (0 : Int32), v5] [] σ1 Post)) ∧ (¬ (x4 < 0) → vp_in x4 20 ∧ (∀ σ2 : Mem, σ2 = pI σ 60 0 x4.toNatClampNeg (100 : Int32) → WS d M_MD_simple 70 [vR 51 0, vI x1, vI x2, vI x3, vI x4, vI (x4 + (1 : Int32))] [] σ2 Post)))) : WS d M_MD_simple 50 [vR 51 0, vI x1, vI x2, vI x3, vI x4, v5] [] σ Post := by
  refine WS.run (C := []) (pc' := 52) (L' := [vR 51 0, vI x1, vI x2, vI x3, vI x4, v5]) (S' := [vI x4]) (σ' := σ) 1 rfl trivial ?_
  refine WS.br (P := x4 < 0) (a := 136) (b := 55) (S' := []) rfl (fun c2 => ?_) (fun c2 => ?_)
  · refine WS.run (C := [vp_in x1 12]) (pc' := 146) (L' := [vR 51 0, vI x1, vI x2, vI x3, vI (0 : Int32), v5]) (S' := []) (σ' := pI σ 58 0 x1.toNatClampNeg (0 : Int32)) 7 rfl ⟨(h.1 c2).1, trivial⟩ ?_
    obtain ⟨σ1, eσ1⟩ : ∃ z, z = pI σ 58 0 x1.toNatClampNeg (0 : Int32) := ⟨_, rfl⟩
    rw [← eσ1]
    exact ((h.1 c2).2 σ1 eσ1)
  · refine WS.run (C := [vp_in x4 20]) (pc' := 64) (L' := [vR 51 0, vI x1, vI x2, vI x3, vI x4, v5]) (S' := []) (σ' := pI σ 60 0 x4.toNatClampNeg (100 : Int32)) 5 rfl ⟨(h.2 c2).1, trivial⟩ ?_
    obtain ⟨σ2, eσ2⟩ : ∃ z, z = pI σ 60 0 x4.toNatClampNeg (100 : Int32) := ⟨_, rfl⟩
    rw [← eσ2]
    refine WS.run (C := []) (pc' := 70) (L' := [vR 51 0, vI x1, vI x2, vI x3, vI x4, vI (x4 + (1 : Int32))]) (S' := []) (σ' := σ2) 4 rfl trivial ?_
    exact ((h.2 c2).2 σ2 eσ2)
set_option maxRecDepth 4000 in
set_option maxHeartbeats 400000 in
theorem b_MD_simple_70 {d : Nat} {σ : Mem} {Post : Option AV → Mem → Prop} {x1 x2 x3 x4 x5 : Int32} (h : ((x3 ≤ x5 → WS (d + 1) M_MD_simple 50 [vR 51 0, vI x1, vI x2, vI x3, vI (x4 + (-1 : Int32)), vI x5] [] σ Post) ∧ (¬ (x3 ≤ x5) → vp_in x5 20 ∧ vp_in x4 20 ∧ (((gI σ 60 0 x4.toNatClampNeg) ≤ ((gI σ 60 0 x5.toNatClampNeg) + (1 : Int32)) → WS (d + 1) M_MD_simple 70 [vR 51 0, vI x1, vI x2, vI x3, vI x4, vI (x5 + (1 : Int32))] [] σ Post) ∧ (¬ ((gI σ 60 0 x4.toNatClampNeg) ≤ ((gI σ 60 0 x5.toNatClampNeg) + (1 : Int32))) → MM d M_MD_isNear [vR 51 0, vI x1, vI x4, vI x5, vI x2] σ (fun r τ => WS (d + 1) M_MD_simple 105 [vR 51 0, vI x1, vI x2, vI x3, vI x4, vI x5] (r.toList ++ []) τ Post)))))) : WS (d + 1) M_MD_simple 70 [vR 51 0, vI x1, vI x2, vI x3, vI x4, vI x5] [] σ Post := by
  refine WS.run (C := []) (pc' := 73) (L' := [vR 51 0, vI x1, vI x2, vI x3, vI x4, vI x5]) (S' := [vI x3, vI x5]) (σ' := σ) 2 rfl trivial ?_
  refine WS.br (P := x3 ≤ x5) (a := 130) (b := 76) (S' := []) rfl (fun c3 => ?_) (fun c3 => ?_)
  · refine WS.run (C := []) (pc' := 50) (L' := [vR 51 0, vI x1, vI x2, vI x3, vI (x4 + (-1 : Int32)), vI x5]) (S' := []) (σ' := σ) 2 rfl trivial ?_
    exact (h.1 c3)
  · refine WS.run (C := [vp_in x5 20, vp_in x4 20]) (pc' := 92) (L' := [vR 51 0, vI x1, vI x2, vI x3, vI x4, vI x5]) (S' := [vI (gI σ 60 0 x4.toNatClampNeg), vI ((gI σ 60 0 x5.toNatClampNeg) + (1 : Int32))]) (σ' := σ) 10 rfl ⟨(h.2 c3).1, (h.2 c3).2.1, trivial⟩ ?_
    refine WS.br (P := (gI σ 60 0 x4.toNatClampNeg) ≤ ((gI σ 60 0 x5.toNatClampNeg) + (1 : Int32))) (a := 124) (b := 95) (S' := []) rfl (fun c4 => ?_) (fun c4 => ?_)
    · refine WS.run (C := []) (pc' := 70) (L' := [vR 51 0, vI x1, vI x2, vI x3, vI x4, vI (x5 + (1 : Int32))]) (S' := []) (σ' := σ) 2 rfl trivial ?_
      exact ((h.2 c3).2.2.1 c4)
    · refine WS.run (C := []) (pc' := 102) (L' := [vR 51 0, vI x1, vI x2, vI x3, vI x4, vI x5]) (S' := [vI x2, vI x5, vI x4, vI x1, vR 51 0]) (σ' := σ) 5 rfl trivial ?_
      refine WS.callV M_MD_isNear (k := 51) (i := 0) (as := [vI x1, vI x4, vI x5, vI x2]) (rest := []) rfl lk_11_142 rfl rfl rfl (Nat.le_of_ble_eq_true rfl) ?_
      exact ((h.2 c3).2.2.2 c4)
set_option maxRecDepth 4000 in
set_option maxHeartbeats 400000 in
theorem b_MD_simple_105t {d : Nat} {σ : Mem} {Post : Option AV → Mem → Prop} {x1 x2 x3 x4 x5 : Int32} (h : vp_in x5 20 ∧ vp_in x4 20 ∧ (∀ σ1 : Mem, σ1 = pI σ 60 0 x4.toNatClampNeg ((gI σ 60 0 x5.toNatClampNeg) + (1 : Int32)) → WS d M_MD_simple 70 [vR 51 0, vI x1, vI x2, vI x3, vI x4, vI (x5 + (1 : Int32))] [] σ1 Post)) : WS d M_MD_simple 105 [vR 51 0, vI x1, vI x2, vI x3, vI x4, vI x5] [vI (1 : Int32)] σ Post := by
  refine WS.br (P := (1 : Int32) = 0) (a := 124) (b := 108) (S' := []) rfl (fun cc => absurd cc (by decide)) (fun _ => ?_)
  refine WS.run (C := [vp_in x5 20, vp_in x4 20]) (pc' := 124) (L' := [vR 51 0, vI x1, vI x2, vI x3, vI x4, vI x5]) (S' := []) (σ' := pI σ 60 0 x4.toNatClampNeg ((gI σ 60 0 x5.toNatClampNeg) + (1 : Int32))) 10 rfl ⟨h.1, h.2.1, trivial⟩ ?_
  obtain ⟨σ1, eσ1⟩ : ∃ z, z = pI σ 60 0 x4.toNatClampNeg ((gI σ 60 0 x5.toNatClampNeg) + (1 : Int32)) := ⟨_, rfl⟩
  rw [← eσ1]
  refine WS.run (C := []) (pc' := 70) (L' := [vR 51 0, vI x1, vI x2, vI x3, vI x4, vI (x5 + (1 : Int32))]) (S' := []) (σ' := σ1) 2 rfl trivial ?_
  exact (h.2.2 σ1 eσ1)
set_option maxRecDepth 4000 in
set_option maxHeartbeats 400000 in
theorem b_MD_simple_105f {d : Nat} {σ : Mem} {Post : Option AV → Mem → Prop} {x1 x2 x3 x4 x5 : Int32} (h : WS d M_MD_simple 70 [vR 51 0, vI x1, vI x2, vI x3, vI x4, vI (x5 + (1 : Int32))] [] σ Post) : WS d M_MD_simple 105 [vR 51 0, vI x1, vI x2, vI x3, vI x4, vI x5] [vI (0 : Int32)] σ Post := by
  refine WS.br (P := (0 : Int32) = 0) (a := 124) (b := 108) (S' := []) rfl (fun _ => ?_) (fun cc => absurd (by decide) cc)
  refine WS.run (C := []) (pc' := 70) (L' := [vR 51 0, vI x1, vI x2, vI x3, vI x4, vI (x5 + (1 : Int32))]) (S' := []) (σ' := σ) 2 rfl trivial ?_
  exact h
set_option maxRecDepth 4000 in
set_option maxHeartbeats 400000 in
theorem b_MD_simple_146 {d : Nat} {σ : Mem} {Post : Option AV → Mem → Prop} {x1 x2 x3 x4 : Int32} {v5 : AV} (h : (((x3 - (1 : Int32)) ≤ x4 → MM d M_MD_puts [vR 51 0, vI x1, vI (x3 - (1 : Int32))] σ (fun r τ => WS (d + 1) M_MD_simple 219 [vR 51 0, vI x1, vI x2, vI x3, vI x4, v5] (r.toList ++ []) τ Post)) ∧ (¬ ((x3 - (1 : Int32)) ≤ x4) → MM d M_MD_puts [vR 51 0, vI x1, vI x4] σ (fun r τ => WS (d + 1) M_MD_simple 161 [vR 51 0, vI x1, vI x2, vI x3, vI x4, v5] (r.toList ++ []) τ Post)))) : WS (d + 1) M_MD_simple 146 [vR 51 0, vI x1, vI x2, vI x3, vI x4, v5] [] σ Post := by
  refine WS.run (C := []) (pc' := 151) (L' := [vR 51 0, vI x1, vI x2, vI x3, vI x4, v5]) (S' := [vI (x3 - (1 : Int32)), vI x4]) (σ' := σ) 4 rfl trivial ?_
  refine WS.br (P := (x3 - (1 : Int32)) ≤ x4) (a := 211) (b := 154) (S' := []) rfl (fun c5 => ?_) (fun c5 => ?_)
  · refine WS.run (C := []) (pc' := 216) (L' := [vR 51 0, vI x1, vI x2, vI x3, vI x4, v5]) (S' := [vI (x3 - (1 : Int32)), vI x1, vR 51 0]) (σ' := σ) 5 rfl trivial ?_
    refine WS.callV M_MD_puts (k := 51) (i := 0) (as := [vI x1, vI (x3 - (1 : Int32))]) (rest := []) rfl lk_11_146 rfl rfl rfl (Nat.le_of_ble_eq_true rfl) ?_
    exact (h.1 c5)
  · refine WS.run (C := []) (pc' := 158) (L' := [vR 51 0, vI x1, vI x2, vI x3, vI x4, v5]) (S' := [vI x4, vI x1, vR 51 0]) (σ' := σ) 3 rfl trivial ?_
    refine WS.callV M_MD_puts (k := 51) (i := 0) (as := [vI x1, vI x4]) (rest := []) rfl lk_11_146 rfl rfl rfl (Nat.le_of_ble_eq_true rfl) ?_
    exact (h.2 c5)
set_option maxRecDepth 4000 in
set_option maxHeartbeats 400000 in
theorem b_MD_simple_161 {d : Nat} {σ : Mem} {Post : Option AV → Mem → Prop} {x1 x2 x3 x4 : Int32} {v5 : AV} (h : WS d M_MD_simple 166 [vR 51 0, vI x1, vI x2, vI x3, vI x4, vI (x3 - (1 : Int32))] [] σ Post) : WS d M_MD_simple 161 [vR 51 0, vI x1, vI x2, vI x3, vI x4, v5] [] σ Post := by
  refine WS.run (C := []) (pc' := 166) (L' := [vR 51 0, vI x1, vI x2, vI x3, vI x4, vI (x3 - (1 : Int32))]) (S' := []) (σ' := σ) 4 rfl trivial ?_
  exact h
set_option maxRecDepth 4000 in
set_option maxHeartbeats 400000 in
theorem b_MD_simple_166 {d : Nat} {σ : Mem} {Post : Option AV → Mem → Prop} {x1 x2 x3 x4 x5 : Int32} (h : vp_in x5 20 ∧ vp_in x4 20 ∧ ((((gI σ 60 0 x5.toNatClampNeg) + (1 : Int32)) = (gI σ 60 0 x4.toNatClampNeg) → MM d M_MD_isNear [vR 51 0, vI x1, vI x4, vI x5, vI x2] σ (fun r τ => WS (d + 1) M_MD_simple 195 [vR 51 0, vI x1, vI x2, vI x3, vI x4, vI x5] (r.toList ++ []) τ Post)) ∧ (¬ (((gI σ 60 0 x5.toNatClampNeg) + (1 : Int32)) = (gI σ 60 0 x4.toNatClampNeg)) → WS (d + 1) M_MD_simple 166 [vR 51 0, vI x1, vI x2, vI x3, vI x4, vI (x5 + (-1 : Int32))] [] σ Post))) : WS (d + 1) M_MD_simple 166 [vR 51 0, vI x1, vI x2, vI x3, vI x4, vI x5] [] σ Post := by
  refine WS.run (C := [vp_in x5 20, vp_in x4 20]) (pc' := 182) (L' := [vR 51 0, vI x1, vI x2, vI x3, vI x4, vI x5]) (S' := [vI (gI σ 60 0 x4.toNatClampNeg), vI ((gI σ 60 0 x5.toNatClampNeg) + (1 : Int32))]) (σ' := σ) 10 rfl ⟨h.1, h.2.1, trivial⟩ ?_
  refine WS.br (P := ((gI σ 60 0 x5.toNatClampNeg) + (1 : Int32)) = (gI σ 60 0 x4.toNatClampNeg)) (a := 185) (b := 198) (S' := []) rfl (fun c6 => ?_) (fun c6 => ?_)
  · refine WS.run (C := []) (pc' := 192) (L' := [vR 51 0, vI x1, vI x2, vI x3, vI x4, vI x5]) (S' := [vI x2, vI x5, vI x4, vI x1, vR 51 0]) (σ' := σ) 5 rfl trivial ?_
    refine WS.callV M_MD_isNear (k := 51) (i := 0) (as := [vI x1, vI x4, vI x5, vI x2]) (rest := []) rfl lk_11_142 rfl rfl rfl (Nat.le_of_ble_eq_true rfl) ?_
    exact (h.2.2.1 c6)
  · refine WS.run (C := []) (pc' := 166) (L' := [vR 51 0, vI x1, vI x2, vI x3, vI x4, vI (x5 + (-1 : Int32))]) (S' := []) (σ' := σ) 2 rfl trivial ?_
    exact (h.2.2.2 c6)
set_option maxRecDepth 4000 in
set_option maxHeartbeats 400000 in
theorem b_MD_simple_195t {d : Nat} {σ : Mem} {Post : Option AV → Mem → Prop} {x1 x2 x3 x4 x5 : Int32} (h : WS d M_MD_simple 146 [vR 51 0, vI x1, vI x2, vI x3, vI x5, vI x5] [] σ Post) : WS d M_MD_simple 195 [vR 51 0, vI x1, vI x2, vI x3, vI x4, vI x5] [vI (1 : Int32)] σ Post := by
  refine WS.br (P := (1 : Int32) = 0) (a := 198) (b := 204) (S' := []) rfl (fun cc => absurd cc (by decide)) (fun _ => ?_)
  refine WS.run (C := []) (pc' := 146) (L' := [vR 51 0, vI x1, vI x2, vI x3, vI x5, vI x5]) (S' := []) (σ' := σ) 3 rfl trivial ?_
  exact h
set_option maxRecDepth 4000 in
set_option maxHeartbeats 400000 in
theorem b_MD_simple_195f {d : Nat} {σ : Mem} {Post : Option AV → Mem → Prop} {x1 x2 x3 x4 x5 : Int32} (h : WS d M_MD_simple 166 [vR 51 0, vI x1, vI x2, vI x3, vI x4, vI (x5 + (-1 : Int32))] [] σ Post) : WS d M_MD_simple 195 [vR 51 0, vI x1, vI x2, vI x3, vI x4, vI x5] [vI (0 : Int32)] σ Post := by
  refine WS.br (P := (0 : Int32) = 0) (a := 198) (b := 204) (S' := []) rfl (fun _ => ?_) (fun cc => absurd (by decide) cc)
  refine WS.run (C := []) (pc' := 166) (L' := [vR 51 0, vI x1, vI x2, vI x3, vI x4, vI (x5 + (-1 : Int32))]) (S' := []) (σ' := σ) 2 rfl trivial ?_
  exact h
set_option maxRecDepth 4000 in
set_option maxHeartbeats 400000 in
theorem b_MD_simple_219 {d : Nat} {σ : Mem} {Post : Option AV → Mem → Prop} {x1 x2 x3 x4 : Int32} {v5 : AV} (h : vp_in x1 12 ∧ Post (some (vI (gI σ 58 0 x1.toNatClampNeg))) σ) : WS d M_MD_simple 219 [vR 51 0, vI x1, vI x2, vI x3, vI x4, v5] [] σ Post := by
  refine WS.run (C := [vp_in x1 12]) (pc' := 225) (L' := [vR 51 0, vI x1, vI x2, vI x3, vI x4, v5]) (S' := [vI (gI σ 58 0 x1.toNatClampNeg)]) (σ' := σ) 4 rfl ⟨h.1, trivial⟩ ?_
  exact WS.ret rfl rfl (by decide) rfl h.2
set_option maxRecDepth 4000 in
set_option maxHeartbeats 400000 in
theorem b_MD_puts_0 {d : Nat} {σ : Mem} {Post : Option AV → Mem → Prop} {x1 x2 : Int32} (h : vp_in x1 12 ∧ vp_in (((20 : Int32) * x1) + (gI σ 58 0 x1.toNatClampNeg)) 240 ∧ (∀ σ1 : Mem, σ1 = pI σ 59 0 (((20 : Int32) * x1) + (gI σ 58 0 x1.toNatClampNeg)).toNatClampNeg x2 → vp_in x1 12 ∧ vp_in x1 12 ∧ (∀ σ2 : Mem, σ2 = pI σ1 58 0 x1.toNatClampNeg ((gI σ1 58 0 x1.toNatClampNeg) + (1 : Int32)) → Post none σ2))) : WS d M_MD_puts 0 [vR 51 0, vI x1, vI x2] [] σ Post := by
  refine WS.run (C := [vp_in x1 12, vp_in (((20 : Int32) * x1) + (gI σ 58 0 x1.toNatClampNeg)) 240]) (pc' := 17) (L' := [vR 51 0, vI x1, vI x2]) (S' := []) (σ' := pI σ 59 0 (((20 : Int32) * x1) + (gI σ 58 0 x1.toNatClampNeg)).toNatClampNeg x2) 12 rfl ⟨h.1, h.2.1, trivial⟩ ?_
  obtain ⟨σ1, eσ1⟩ : ∃ z, z = pI σ 59 0 (((20 : Int32) * x1) + (gI σ 58 0 x1.toNatClampNeg)).toNatClampNeg x2 := ⟨_, rfl⟩
  rw [← eσ1]
  refine WS.run (C := [vp_in x1 12, vp_in x1 12]) (pc' := 27) (L' := [vR 51 0, vI x1, vI x2]) (S' := []) (σ' := pI σ1 58 0 x1.toNatClampNeg ((gI σ1 58 0 x1.toNatClampNeg) + (1 : Int32))) 8 rfl ⟨(h.2.2 σ1 eσ1).1, (h.2.2 σ1 eσ1).2.1, trivial⟩ ?_
  obtain ⟨σ2, eσ2⟩ : ∃ z, z = pI σ1 58 0 x1.toNatClampNeg ((gI σ1 58 0 x1.toNatClampNeg) + (1 : Int32)) := ⟨_, rfl⟩
  rw [← eσ2]
  exact WS.vret rfl rfl ((h.2.2 σ1 eσ1).2.2 σ2 eσ2)
set_option maxRecDepth 4000 in
set_option maxHeartbeats 400000 in
theorem b_MD_drawn_0 {d : Nat} {σ : Mem} {Post : Option AV → Mem → Prop} {x1 x2 : Int32} (h : MM d M_MD_isWay [vR 51 0, vI x1] σ (fun r τ => WS (d + 1) M_MD_drawn 5 [vR 51 0, vI x1, vI x2] (r.toList ++ []) τ Post)) : WS (d + 1) M_MD_drawn 0 [vR 51 0, vI x1, vI x2] [] σ Post := by
  refine WS.run (C := []) (pc' := 2) (L' := [vR 51 0, vI x1, vI x2]) (S' := [vI x1, vR 51 0]) (σ' := σ) 2 rfl trivial ?_
  refine WS.callV M_MD_isWay (k := 51) (i := 0) (as := [vI x1]) (rest := []) rfl lk_11_118 rfl rfl rfl (Nat.le_of_ble_eq_true rfl) ?_
  exact h
set_option maxRecDepth 4000 in
set_option maxHeartbeats 400000 in
theorem b_MD_drawn_5t {d : Nat} {σ : Mem} {Post : Option AV → Mem → Prop} {x1 x2 : Int32} (h : ((x2 < 0 → Post (some (vI (-1 : Int32))) σ) ∧ (¬ (x2 < 0) → vp_in x1 12 ∧ (((gI σ 58 0 x1.toNatClampNeg) ≤ x2 → Post (some (vI (-1 : Int32))) σ) ∧ (¬ ((gI σ 58 0 x1.toNatClampNeg) ≤ x2) → vp_in (((20 : Int32) * x1) + x2) 240 ∧ Post (some (vI (gI σ 59 0 (((20 : Int32) * x1) + x2).toNatClampNeg))) σ))))) : WS d M_MD_drawn 5 [vR 51 0, vI x1, vI x2] [vI (1 : Int32)] σ Post := by
  refine WS.br (P := (1 : Int32) = 0) (a := 36) (b := 8) (S' := []) rfl (fun cc => absurd cc (by decide)) (fun _ => ?_)
  refine WS.run (C := []) (pc' := 9) (L' := [vR 51 0, vI x1, vI x2]) (S' := [vI x2]) (σ' := σ) 1 rfl trivial ?_
  refine WS.br (P := x2 < 0) (a := 36) (b := 12) (S' := []) rfl (fun c1 => ?_) (fun c1 => ?_)
  · refine WS.run (C := []) (pc' := 37) (L' := [vR 51 0, vI x1, vI x2]) (S' := [vI (-1 : Int32)]) (σ' := σ) 1 rfl trivial ?_
    exact WS.ret rfl rfl (by decide) rfl (h.1 c1)
  · refine WS.run (C := [vp_in x1 12]) (pc' := 19) (L' := [vR 51 0, vI x1, vI x2]) (S' := [vI (gI σ 58 0 x1.toNatClampNeg), vI x2]) (σ' := σ) 5 rfl ⟨(h.2 c1).1, trivial⟩ ?_
    refine WS.br (P := (gI σ 58 0 x1.toNatClampNeg) ≤ x2) (a := 36) (b := 22) (S' := []) rfl (fun c2 => ?_) (fun c2 => ?_)
    · refine WS.run (C := []) (pc' := 37) (L' := [vR 51 0, vI x1, vI x2]) (S' := [vI (-1 : Int32)]) (σ' := σ) 1 rfl trivial ?_
      exact WS.ret rfl rfl (by decide) rfl ((h.2 c1).2.1 c2)
    · refine WS.run (C := [vp_in (((20 : Int32) * x1) + x2) 240]) (pc' := 37) (L' := [vR 51 0, vI x1, vI x2]) (S' := [vI (gI σ 59 0 (((20 : Int32) * x1) + x2).toNatClampNeg)]) (σ' := σ) 9 rfl ⟨((h.2 c1).2.2 c2).1, trivial⟩ ?_
      exact WS.ret rfl rfl (by decide) rfl ((h.2 c1).2.2 c2).2
set_option maxRecDepth 4000 in
set_option maxHeartbeats 400000 in
theorem b_MD_drawn_5f {d : Nat} {σ : Mem} {Post : Option AV → Mem → Prop} {x1 x2 : Int32} (h : Post (some (vI (-1 : Int32))) σ) : WS d M_MD_drawn 5 [vR 51 0, vI x1, vI x2] [vI (0 : Int32)] σ Post := by
  refine WS.br (P := (0 : Int32) = 0) (a := 36) (b := 8) (S' := []) rfl (fun _ => ?_) (fun cc => absurd (by decide) cc)
  refine WS.run (C := []) (pc' := 37) (L' := [vR 51 0, vI x1, vI x2]) (S' := [vI (-1 : Int32)]) (σ' := σ) 1 rfl trivial ?_
  exact WS.ret rfl rfl (by decide) rfl h
set_option maxRecDepth 4000 in
set_option maxHeartbeats 400000 in
theorem b_MD_turn_0 {d : Nat} {σ : Mem} {Post : Option AV → Mem → Prop} {x1 x2 : Int32} (h : MM d M_MD_isWay [vR 51 0, vI x1] σ (fun r τ => WS (d + 1) M_MD_turn 5 [vR 51 0, vI x1, vI x2] (r.toList ++ []) τ Post)) : WS (d + 1) M_MD_turn 0 [vR 51 0, vI x1, vI x2] [] σ Post := by
  refine WS.run (C := []) (pc' := 2) (L' := [vR 51 0, vI x1, vI x2]) (S' := [vI x1, vR 51 0]) (σ' := σ) 2 rfl trivial ?_
  refine WS.callV M_MD_isWay (k := 51) (i := 0) (as := [vI x1]) (rest := []) rfl lk_11_118 rfl rfl rfl (Nat.le_of_ble_eq_true rfl) ?_
  exact h
set_option maxRecDepth 4000 in
set_option maxHeartbeats 400000 in
theorem b_MD_turn_5t {d : Nat} {σ : Mem} {Post : Option AV → Mem → Prop} {x1 x2 : Int32} (h : ((x2 < (1 : Int32) → Post (some (vI (-2 : Int32))) σ) ∧ (¬ (x2 < (1 : Int32)) → vp_in x1 12 ∧ ((x2 ≤ ((gI σ 58 0 x1.toNatClampNeg) - (2 : Int32)) → MM d M_MD_at [vR 51 0, vI x1, vI (x2 - (1 : Int32))] σ (fun r τ => WS (d + 1) M_MD_turn 37 [vR 51 0, vI x1, vI x2] (r.toList ++ [vR 51 0]) τ Post)) ∧ (¬ (x2 ≤ ((gI σ 58 0 x1.toNatClampNeg) - (2 : Int32))) → Post (some (vI (-2 : Int32))) σ))))) : WS (d + 1) M_MD_turn 5 [vR 51 0, vI x1, vI x2] [vI (1 : Int32)] σ Post := by
  refine WS.br (P := (1 : Int32) = 0) (a := 25) (b := 8) (S' := []) rfl (fun cc => absurd cc (by decide)) (fun _ => ?_)
  refine WS.run (C := []) (pc' := 10) (L' := [vR 51 0, vI x1, vI x2]) (S' := [vI (1 : Int32), vI x2]) (σ' := σ) 2 rfl trivial ?_
  refine WS.br (P := x2 < (1 : Int32)) (a := 25) (b := 13) (S' := []) rfl (fun c1 => ?_) (fun c1 => ?_)
  · refine WS.run (C := []) (pc' := 27) (L' := [vR 51 0, vI x1, vI x2]) (S' := [vI (-2 : Int32)]) (σ' := σ) 1 rfl trivial ?_
    exact WS.ret rfl rfl (by decide) rfl (h.1 c1)
  · refine WS.run (C := [vp_in x1 12]) (pc' := 22) (L' := [vR 51 0, vI x1, vI x2]) (S' := [vI ((gI σ 58 0 x1.toNatClampNeg) - (2 : Int32)), vI x2]) (σ' := σ) 7 rfl ⟨(h.2 c1).1, trivial⟩ ?_
    refine WS.br (P := x2 ≤ ((gI σ 58 0 x1.toNatClampNeg) - (2 : Int32))) (a := 28) (b := 25) (S' := []) rfl (fun c2 => ?_) (fun c2 => ?_)
    · refine WS.run (C := []) (pc' := 34) (L' := [vR 51 0, vI x1, vI x2]) (S' := [vI (x2 - (1 : Int32)), vI x1, vR 51 0, vR 51 0]) (σ' := σ) 6 rfl trivial ?_
      refine WS.callV M_MD_at (k := 51) (i := 0) (as := [vI x1, vI (x2 - (1 : Int32))]) (rest := [vR 51 0]) rfl lk_11_150 rfl rfl rfl (Nat.le_of_ble_eq_true rfl) ?_
      exact ((h.2 c1).2.1 c2)
    · refine WS.run (C := []) (pc' := 27) (L' := [vR 51 0, vI x1, vI x2]) (S' := [vI (-2 : Int32)]) (σ' := σ) 1 rfl trivial ?_
      exact WS.ret rfl rfl (by decide) rfl ((h.2 c1).2.2 c2)
set_option maxRecDepth 4000 in
set_option maxHeartbeats 400000 in
theorem b_MD_turn_5f {d : Nat} {σ : Mem} {Post : Option AV → Mem → Prop} {x1 x2 : Int32} (h : Post (some (vI (-2 : Int32))) σ) : WS d M_MD_turn 5 [vR 51 0, vI x1, vI x2] [vI (0 : Int32)] σ Post := by
  refine WS.br (P := (0 : Int32) = 0) (a := 25) (b := 8) (S' := []) rfl (fun _ => ?_) (fun cc => absurd (by decide) cc)
  refine WS.run (C := []) (pc' := 27) (L' := [vR 51 0, vI x1, vI x2]) (S' := [vI (-2 : Int32)]) (σ' := σ) 1 rfl trivial ?_
  exact WS.ret rfl rfl (by decide) rfl h
set_option maxRecDepth 4000 in
set_option maxHeartbeats 400000 in
theorem b_MD_turn_37 {d : Nat} {σ : Mem} {Post : Option AV → Mem → Prop} {x1 x2 sx0 : Int32} (h : MM d M_MD_at [vR 51 0, vI x1, vI x2] σ (fun r τ => WS (d + 1) M_MD_turn 43 [vR 51 0, vI x1, vI x2] (r.toList ++ [vI sx0, vR 51 0]) τ Post)) : WS (d + 1) M_MD_turn 37 [vR 51 0, vI x1, vI x2] [vI sx0, vR 51 0] σ Post := by
  refine WS.run (C := []) (pc' := 40) (L' := [vR 51 0, vI x1, vI x2]) (S' := [vI x2, vI x1, vR 51 0, vI sx0, vR 51 0]) (σ' := σ) 3 rfl trivial ?_
  refine WS.callV M_MD_at (k := 51) (i := 0) (as := [vI x1, vI x2]) (rest := [vI sx0, vR 51 0]) rfl lk_11_150 rfl rfl rfl (Nat.le_of_ble_eq_true rfl) ?_
  exact h
set_option maxRecDepth 4000 in
set_option maxHeartbeats 400000 in
theorem b_MD_turn_43 {d : Nat} {σ : Mem} {Post : Option AV → Mem → Prop} {x1 x2 sx0 sx1 : Int32} (h : MM d M_MD_at [vR 51 0, vI x1, vI (x2 + (1 : Int32))] σ (fun r τ => WS (d + 1) M_MD_turn 51 [vR 51 0, vI x1, vI x2] (r.toList ++ [vI sx0, vI sx1, vR 51 0]) τ Post)) : WS (d + 1) M_MD_turn 43 [vR 51 0, vI x1, vI x2] [vI sx0, vI sx1, vR 51 0] σ Post := by
  refine WS.run (C := []) (pc' := 48) (L' := [vR 51 0, vI x1, vI x2]) (S' := [vI (x2 + (1 : Int32)), vI x1, vR 51 0, vI sx0, vI sx1, vR 51 0]) (σ' := σ) 5 rfl trivial ?_
  refine WS.callV M_MD_at (k := 51) (i := 0) (as := [vI x1, vI (x2 + (1 : Int32))]) (rest := [vI sx0, vI sx1, vR 51 0]) rfl lk_11_150 rfl rfl rfl (Nat.le_of_ble_eq_true rfl) ?_
  exact h
set_option maxRecDepth 4000 in
set_option maxHeartbeats 400000 in
theorem b_MD_turn_51 {d : Nat} {σ : Mem} {Post : Option AV → Mem → Prop} {x1 x2 sx0 sx1 sx2 : Int32} (h : MM d M_MD_cross [vR 51 0, vI sx2, vI sx1, vI sx0] σ (fun r τ => WS (d + 1) M_MD_turn 54 [vR 51 0, vI x1, vI x2] (r.toList ++ []) τ Post)) : WS (d + 1) M_MD_turn 51 [vR 51 0, vI x1, vI x2] [vI sx0, vI sx1, vI sx2, vR 51 0] σ Post := by
  refine WS.callV M_MD_cross (k := 51) (i := 0) (as := [vI sx2, vI sx1, vI sx0]) (rest := []) rfl lk_11_134 rfl rfl rfl (Nat.le_of_ble_eq_true rfl) ?_
  exact h
set_option maxRecDepth 4000 in
set_option maxHeartbeats 400000 in
theorem b_MD_turn_54 {d : Nat} {σ : Mem} {Post : Option AV → Mem → Prop} {x1 x2 : Int32} {sy0 : Int64} (h : MM d M_MD_signOf [vJ sy0] σ (fun r τ => WS (d + 1) M_MD_turn 57 [vR 51 0, vI x1, vI x2] (r.toList ++ []) τ Post)) : WS (d + 1) M_MD_turn 54 [vR 51 0, vI x1, vI x2] [vJ sy0] σ Post := by
  refine WS.callS M_MD_signOf (as := [vJ sy0]) (rest := []) rfl lk_11_130 rfl rfl (Nat.le_of_ble_eq_true rfl) ?_
  exact h
set_option maxRecDepth 4000 in
set_option maxHeartbeats 400000 in
theorem b_MD_turn_57 {d : Nat} {σ : Mem} {Post : Option AV → Mem → Prop} {x1 x2 sx0 : Int32} (h : Post (some (vI sx0)) σ) : WS d M_MD_turn 57 [vR 51 0, vI x1, vI x2] [vI sx0] σ Post := by
  exact WS.ret rfl rfl (by decide) rfl h
set_option maxRecDepth 4000 in
set_option maxHeartbeats 400000 in
theorem b_MD_crossings_0 {d : Nat} {σ : Mem} {Post : Option AV → Mem → Prop} {x1 x2 : Int32} (h : MM d M_MD_isThere [vR 51 0, vI x1] σ (fun r τ => WS (d + 1) M_MD_crossings 5 [vR 51 0, vI x1, vI x2, vU, vU, vU] (r.toList ++ []) τ Post)) : WS (d + 1) M_MD_crossings 0 [vR 51 0, vI x1, vI x2, vU, vU, vU] [] σ Post := by
  refine WS.run (C := []) (pc' := 2) (L' := [vR 51 0, vI x1, vI x2, vU, vU, vU]) (S' := [vI x1, vR 51 0]) (σ' := σ) 2 rfl trivial ?_
  refine WS.callV M_MD_isThere (k := 51) (i := 0) (as := [vI x1]) (rest := []) rfl lk_11_173 rfl rfl rfl (Nat.le_of_ble_eq_true rfl) ?_
  exact h
set_option maxRecDepth 4000 in
set_option maxHeartbeats 400000 in
theorem b_MD_crossings_5t {d : Nat} {σ : Mem} {Post : Option AV → Mem → Prop} {x1 x2 : Int32} (h : MM d M_MD_isThere [vR 51 0, vI x2] σ (fun r τ => WS (d + 1) M_MD_crossings 13 [vR 51 0, vI x1, vI x2, vU, vU, vU] (r.toList ++ []) τ Post)) : WS (d + 1) M_MD_crossings 5 [vR 51 0, vI x1, vI x2, vU, vU, vU] [vI (1 : Int32)] σ Post := by
  refine WS.br (P := (1 : Int32) = 0) (a := 21) (b := 8) (S' := []) rfl (fun cc => absurd cc (by decide)) (fun _ => ?_)
  refine WS.run (C := []) (pc' := 10) (L' := [vR 51 0, vI x1, vI x2, vU, vU, vU]) (S' := [vI x2, vR 51 0]) (σ' := σ) 2 rfl trivial ?_
  refine WS.callV M_MD_isThere (k := 51) (i := 0) (as := [vI x2]) (rest := []) rfl lk_11_173 rfl rfl rfl (Nat.le_of_ble_eq_true rfl) ?_
  exact h
set_option maxRecDepth 4000 in
set_option maxHeartbeats 400000 in
theorem b_MD_crossings_5f {d : Nat} {σ : Mem} {Post : Option AV → Mem → Prop} {x1 x2 : Int32} (h : Post (some (vI (-1 : Int32))) σ) : WS d M_MD_crossings 5 [vR 51 0, vI x1, vI x2, vU, vU, vU] [vI (0 : Int32)] σ Post := by
  refine WS.br (P := (0 : Int32) = 0) (a := 21) (b := 8) (S' := []) rfl (fun _ => ?_) (fun cc => absurd (by decide) cc)
  refine WS.run (C := []) (pc' := 22) (L' := [vR 51 0, vI x1, vI x2, vU, vU, vU]) (S' := [vI (-1 : Int32)]) (σ' := σ) 1 rfl trivial ?_
  exact WS.ret rfl rfl (by decide) rfl h
set_option maxRecDepth 4000 in
set_option maxHeartbeats 400000 in
theorem b_MD_crossings_13t {d : Nat} {σ : Mem} {Post : Option AV → Mem → Prop} {x1 x2 : Int32} (h : ((x1 = x2 → Post (some (vI (-1 : Int32))) σ) ∧ (¬ (x1 = x2) → WS d M_MD_crossings 28 [vR 51 0, vI x1, vI x2, vI (0 : Int32), vI (0 : Int32), vU] [] σ Post))) : WS d M_MD_crossings 13 [vR 51 0, vI x1, vI x2, vU, vU, vU] [vI (1 : Int32)] σ Post := by
  refine WS.br (P := (1 : Int32) = 0) (a := 21) (b := 16) (S' := []) rfl (fun cc => absurd cc (by decide)) (fun _ => ?_)
  refine WS.run (C := []) (pc' := 18) (L' := [vR 51 0, vI x1, vI x2, vU, vU, vU]) (S' := [vI x2, vI x1]) (σ' := σ) 2 rfl trivial ?_
  refine WS.br (P := x1 = x2) (a := 21) (b := 23) (S' := []) rfl (fun c1 => ?_) (fun c1 => ?_)
  · refine WS.run (C := []) (pc' := 22) (L' := [vR 51 0, vI x1, vI x2, vU, vU, vU]) (S' := [vI (-1 : Int32)]) (σ' := σ) 1 rfl trivial ?_
    exact WS.ret rfl rfl (by decide) rfl (h.1 c1)
  · refine WS.run (C := []) (pc' := 28) (L' := [vR 51 0, vI x1, vI x2, vI (0 : Int32), vI (0 : Int32), vU]) (S' := []) (σ' := σ) 4 rfl trivial ?_
    exact (h.2 c1)
set_option maxRecDepth 4000 in
set_option maxHeartbeats 400000 in
theorem b_MD_crossings_13f {d : Nat} {σ : Mem} {Post : Option AV → Mem → Prop} {x1 x2 : Int32} (h : Post (some (vI (-1 : Int32))) σ) : WS d M_MD_crossings 13 [vR 51 0, vI x1, vI x2, vU, vU, vU] [vI (0 : Int32)] σ Post := by
  refine WS.br (P := (0 : Int32) = 0) (a := 21) (b := 16) (S' := []) rfl (fun _ => ?_) (fun cc => absurd (by decide) cc)
  refine WS.run (C := []) (pc' := 22) (L' := [vR 51 0, vI x1, vI x2, vU, vU, vU]) (S' := [vI (-1 : Int32)]) (σ' := σ) 1 rfl trivial ?_
  exact WS.ret rfl rfl (by decide) rfl h
set_option maxRecDepth 4000 in
set_option maxHeartbeats 400000 in
theorem b_MD_crossings_28 {d : Nat} {σ : Mem} {Post : Option AV → Mem → Prop} {x1 x2 x3 x4 : Int32} {v5 : AV} (h : vp_in x1 12 ∧ (((gI σ 58 0 x1.toNatClampNeg) ≤ (x4 + (1 : Int32)) → Post (some (vI x3)) σ) ∧ (¬ ((gI σ 58 0 x1.toNatClampNeg) ≤ (x4 + (1 : Int32))) → WS d M_MD_crossings 44 [vR 51 0, vI x1, vI x2, vI x3, vI x4, vI (0 : Int32)] [] σ Post))) : WS d M_MD_crossings 28 [vR 51 0, vI x1, vI x2, vI x3, vI x4, v5] [] σ Post := by
  refine WS.run (C := [vp_in x1 12]) (pc' := 38) (L' := [vR 51 0, vI x1, vI x2, vI x3, vI x4, v5]) (S' := [vI (gI σ 58 0 x1.toNatClampNeg), vI (x4 + (1 : Int32))]) (σ' := σ) 7 rfl ⟨h.1, trivial⟩ ?_
  refine WS.br (P := (gI σ 58 0 x1.toNatClampNeg) ≤ (x4 + (1 : Int32))) (a := 111) (b := 41) (S' := []) rfl (fun c2 => ?_) (fun c2 => ?_)
  · refine WS.run (C := []) (pc' := 112) (L' := [vR 51 0, vI x1, vI x2, vI x3, vI x4, v5]) (S' := [vI x3]) (σ' := σ) 1 rfl trivial ?_
    exact WS.ret rfl rfl (by decide) rfl (h.2.1 c2)
  · refine WS.run (C := []) (pc' := 44) (L' := [vR 51 0, vI x1, vI x2, vI x3, vI x4, vI (0 : Int32)]) (S' := []) (σ' := σ) 2 rfl trivial ?_
    exact (h.2.2 c2)
set_option maxRecDepth 4000 in
set_option maxHeartbeats 400000 in
theorem b_MD_crossings_44 {d : Nat} {σ : Mem} {Post : Option AV → Mem → Prop} {x1 x2 x3 x4 x5 : Int32} (h : vp_in x2 12 ∧ (((gI σ 58 0 x2.toNatClampNeg) ≤ (x5 + (1 : Int32)) → WS (d + 1) M_MD_crossings 28 [vR 51 0, vI x1, vI x2, vI x3, vI (x4 + (1 : Int32)), vI x5] [] σ Post) ∧ (¬ ((gI σ 58 0 x2.toNatClampNeg) ≤ (x5 + (1 : Int32))) → MM d M_MD_at [vR 51 0, vI x1, vI x4] σ (fun r τ => WS (d + 1) M_MD_crossings 65 [vR 51 0, vI x1, vI x2, vI x3, vI x4, vI x5] (r.toList ++ [vR 51 0]) τ Post)))) : WS (d + 1) M_MD_crossings 44 [vR 51 0, vI x1, vI x2, vI x3, vI x4, vI x5] [] σ Post := by
  refine WS.run (C := [vp_in x2 12]) (pc' := 54) (L' := [vR 51 0, vI x1, vI x2, vI x3, vI x4, vI x5]) (S' := [vI (gI σ 58 0 x2.toNatClampNeg), vI (x5 + (1 : Int32))]) (σ' := σ) 7 rfl ⟨h.1, trivial⟩ ?_
  refine WS.br (P := (gI σ 58 0 x2.toNatClampNeg) ≤ (x5 + (1 : Int32))) (a := 105) (b := 57) (S' := []) rfl (fun c3 => ?_) (fun c3 => ?_)
  · refine WS.run (C := []) (pc' := 28) (L' := [vR 51 0, vI x1, vI x2, vI x3, vI (x4 + (1 : Int32)), vI x5]) (S' := []) (σ' := σ) 2 rfl trivial ?_
    exact (h.2.1 c3)
  · refine WS.run (C := []) (pc' := 62) (L' := [vR 51 0, vI x1, vI x2, vI x3, vI x4, vI x5]) (S' := [vI x4, vI x1, vR 51 0, vR 51 0]) (σ' := σ) 4 rfl trivial ?_
    refine WS.callV M_MD_at (k := 51) (i := 0) (as := [vI x1, vI x4]) (rest := [vR 51 0]) rfl lk_11_150 rfl rfl rfl (Nat.le_of_ble_eq_true rfl) ?_
    exact (h.2.2 c3)
set_option maxRecDepth 4000 in
set_option maxHeartbeats 400000 in
theorem b_MD_crossings_65 {d : Nat} {σ : Mem} {Post : Option AV → Mem → Prop} {x1 x2 x3 x4 x5 sx0 : Int32} (h : MM d M_MD_at [vR 51 0, vI x1, vI (x4 + (1 : Int32))] σ (fun r τ => WS (d + 1) M_MD_crossings 74 [vR 51 0, vI x1, vI x2, vI x3, vI x4, vI x5] (r.toList ++ [vI sx0, vR 51 0]) τ Post)) : WS (d + 1) M_MD_crossings 65 [vR 51 0, vI x1, vI x2, vI x3, vI x4, vI x5] [vI sx0, vR 51 0] σ Post := by
  refine WS.run (C := []) (pc' := 71) (L' := [vR 51 0, vI x1, vI x2, vI x3, vI x4, vI x5]) (S' := [vI (x4 + (1 : Int32)), vI x1, vR 51 0, vI sx0, vR 51 0]) (σ' := σ) 5 rfl trivial ?_
  refine WS.callV M_MD_at (k := 51) (i := 0) (as := [vI x1, vI (x4 + (1 : Int32))]) (rest := [vI sx0, vR 51 0]) rfl lk_11_150 rfl rfl rfl (Nat.le_of_ble_eq_true rfl) ?_
  exact h
set_option maxRecDepth 4000 in
set_option maxHeartbeats 400000 in
theorem b_MD_crossings_74 {d : Nat} {σ : Mem} {Post : Option AV → Mem → Prop} {x1 x2 x3 x4 x5 sx0 sx1 : Int32} (h : MM d M_MD_at [vR 51 0, vI x2, vI x5] σ (fun r τ => WS (d + 1) M_MD_crossings 81 [vR 51 0, vI x1, vI x2, vI x3, vI x4, vI x5] (r.toList ++ [vI sx0, vI sx1, vR 51 0]) τ Post)) : WS (d + 1) M_MD_crossings 74 [vR 51 0, vI x1, vI x2, vI x3, vI x4, vI x5] [vI sx0, vI sx1, vR 51 0] σ Post := by
  refine WS.run (C := []) (pc' := 78) (L' := [vR 51 0, vI x1, vI x2, vI x3, vI x4, vI x5]) (S' := [vI x5, vI x2, vR 51 0, vI sx0, vI sx1, vR 51 0]) (σ' := σ) 3 rfl trivial ?_
  refine WS.callV M_MD_at (k := 51) (i := 0) (as := [vI x2, vI x5]) (rest := [vI sx0, vI sx1, vR 51 0]) rfl lk_11_150 rfl rfl rfl (Nat.le_of_ble_eq_true rfl) ?_
  exact h
set_option maxRecDepth 4000 in
set_option maxHeartbeats 400000 in
theorem b_MD_crossings_81 {d : Nat} {σ : Mem} {Post : Option AV → Mem → Prop} {x1 x2 x3 x4 x5 sx0 sx1 sx2 : Int32} (h : MM d M_MD_at [vR 51 0, vI x2, vI (x5 + (1 : Int32))] σ (fun r τ => WS (d + 1) M_MD_crossings 90 [vR 51 0, vI x1, vI x2, vI x3, vI x4, vI x5] (r.toList ++ [vI sx0, vI sx1, vI sx2, vR 51 0]) τ Post)) : WS (d + 1) M_MD_crossings 81 [vR 51 0, vI x1, vI x2, vI x3, vI x4, vI x5] [vI sx0, vI sx1, vI sx2, vR 51 0] σ Post := by
  refine WS.run (C := []) (pc' := 87) (L' := [vR 51 0, vI x1, vI x2, vI x3, vI x4, vI x5]) (S' := [vI (x5 + (1 : Int32)), vI x2, vR 51 0, vI sx0, vI sx1, vI sx2, vR 51 0]) (σ' := σ) 5 rfl trivial ?_
  refine WS.callV M_MD_at (k := 51) (i := 0) (as := [vI x2, vI (x5 + (1 : Int32))]) (rest := [vI sx0, vI sx1, vI sx2, vR 51 0]) rfl lk_11_150 rfl rfl rfl (Nat.le_of_ble_eq_true rfl) ?_
  exact h
set_option maxRecDepth 4000 in
set_option maxHeartbeats 400000 in
theorem b_MD_crossings_90 {d : Nat} {σ : Mem} {Post : Option AV → Mem → Prop} {x1 x2 x3 x4 x5 sx0 sx1 sx2 sx3 : Int32} (h : MM d M_MD_crosses [vR 51 0, vI sx3, vI sx2, vI sx1, vI sx0] σ (fun r τ => WS (d + 1) M_MD_crossings 93 [vR 51 0, vI x1, vI x2, vI x3, vI x4, vI x5] (r.toList ++ []) τ Post)) : WS (d + 1) M_MD_crossings 90 [vR 51 0, vI x1, vI x2, vI x3, vI x4, vI x5] [vI sx0, vI sx1, vI sx2, vI sx3, vR 51 0] σ Post := by
  refine WS.callV M_MD_crosses (k := 51) (i := 0) (as := [vI sx3, vI sx2, vI sx1, vI sx0]) (rest := []) rfl lk_11_179 rfl rfl rfl (Nat.le_of_ble_eq_true rfl) ?_
  exact h
set_option maxRecDepth 4000 in
set_option maxHeartbeats 400000 in
theorem b_MD_crossings_93t {d : Nat} {σ : Mem} {Post : Option AV → Mem → Prop} {x1 x2 x3 x4 x5 : Int32} (h : WS d M_MD_crossings 44 [vR 51 0, vI x1, vI x2, vI (x3 + (1 : Int32)), vI x4, vI (x5 + (1 : Int32))] [] σ Post) : WS d M_MD_crossings 93 [vR 51 0, vI x1, vI x2, vI x3, vI x4, vI x5] [vI (1 : Int32)] σ Post := by
  refine WS.br (P := (1 : Int32) = 0) (a := 99) (b := 96) (S' := []) rfl (fun cc => absurd cc (by decide)) (fun _ => ?_)
  refine WS.run (C := []) (pc' := 44) (L' := [vR 51 0, vI x1, vI x2, vI (x3 + (1 : Int32)), vI x4, vI (x5 + (1 : Int32))]) (S' := []) (σ' := σ) 3 rfl trivial ?_
  exact h
set_option maxRecDepth 4000 in
set_option maxHeartbeats 400000 in
theorem b_MD_crossings_93f {d : Nat} {σ : Mem} {Post : Option AV → Mem → Prop} {x1 x2 x3 x4 x5 : Int32} (h : WS d M_MD_crossings 44 [vR 51 0, vI x1, vI x2, vI x3, vI x4, vI (x5 + (1 : Int32))] [] σ Post) : WS d M_MD_crossings 93 [vR 51 0, vI x1, vI x2, vI x3, vI x4, vI x5] [vI (0 : Int32)] σ Post := by
  refine WS.br (P := (0 : Int32) = 0) (a := 99) (b := 96) (S' := []) rfl (fun _ => ?_) (fun cc => absurd (by decide) cc)
  refine WS.run (C := []) (pc' := 44) (L' := [vR 51 0, vI x1, vI x2, vI x3, vI x4, vI (x5 + (1 : Int32))]) (S' := []) (σ' := σ) 2 rfl trivial ?_
  exact h
set_option maxRecDepth 4000 in
set_option maxHeartbeats 400000 in
theorem b_MD_ones_0 {d : Nat} {σ : Mem} {Post : Option AV → Mem → Prop} {x0 : Int32} (h : WS d M_MD_ones 4 [vI x0, vI (0 : Int32), vI (0 : Int32)] [] σ Post) : WS d M_MD_ones 0 [vI x0, vU, vU] [] σ Post := by
  refine WS.run (C := []) (pc' := 4) (L' := [vI x0, vI (0 : Int32), vI (0 : Int32)]) (S' := []) (σ' := σ) 4 rfl trivial ?_
  exact h
set_option maxRecDepth 4000 in
set_option maxHeartbeats 400000 in
theorem b_MD_ones_4 {d : Nat} {σ : Mem} {Post : Option AV → Mem → Prop} {x0 x1 x2 : Int32} (h : (((12 : Int32) ≤ x2 → Post (some (vI x1)) σ) ∧ (¬ ((12 : Int32) ≤ x2) → WS d M_MD_ones 4 [vI x0, vI (x1 + ((x0 >>> (x2 &&& 31)) &&& (1 : Int32))), vI (x2 + (1 : Int32))] [] σ Post))) : WS d M_MD_ones 4 [vI x0, vI x1, vI x2] [] σ Post := by
  refine WS.run (C := []) (pc' := 7) (L' := [vI x0, vI x1, vI x2]) (S' := [vI (12 : Int32), vI x2]) (σ' := σ) 2 rfl trivial ?_
  refine WS.br (P := (12 : Int32) ≤ x2) (a := 24) (b := 10) (S' := []) rfl (fun c1 => ?_) (fun c1 => ?_)
  · refine WS.run (C := []) (pc' := 25) (L' := [vI x0, vI x1, vI x2]) (S' := [vI x1]) (σ' := σ) 1 rfl trivial ?_
    exact WS.ret rfl rfl (by decide) rfl (h.1 c1)
  · refine WS.run (C := []) (pc' := 4) (L' := [vI x0, vI (x1 + ((x0 >>> (x2 &&& 31)) &&& (1 : Int32))), vI (x2 + (1 : Int32))]) (S' := []) (σ' := σ) 10 rfl trivial ?_
    exact (h.2 c1)
set_option maxRecDepth 4000 in
set_option maxHeartbeats 400000 in
theorem b_MD_isFirst_0 {d : Nat} {σ : Mem} {Post : Option AV → Mem → Prop} {x0 x1 : Int32} (h : (((((x0 ^^^ x1) &&& (-(x0 ^^^ x1))) &&& x0) = 0 → Post (some (vI (0 : Int32))) σ) ∧ (¬ ((((x0 ^^^ x1) &&& (-(x0 ^^^ x1))) &&& x0) = 0) → Post (some (vI (1 : Int32))) σ))) : WS d M_MD_isFirst 0 [vI x0, vI x1, vU] [] σ Post := by
  refine WS.run (C := []) (pc' := 10) (L' := [vI x0, vI x1, vI (x0 ^^^ x1)]) (S' := [vI (((x0 ^^^ x1) &&& (-(x0 ^^^ x1))) &&& x0)]) (σ' := σ) 10 rfl trivial ?_
  refine WS.br (P := (((x0 ^^^ x1) &&& (-(x0 ^^^ x1))) &&& x0) = 0) (a := 17) (b := 13) (S' := []) rfl (fun c1 => ?_) (fun c1 => ?_)
  · refine WS.run (C := []) (pc' := 18) (L' := [vI x0, vI x1, vI (x0 ^^^ x1)]) (S' := [vI (0 : Int32)]) (σ' := σ) 1 rfl trivial ?_
    exact WS.ret rfl rfl (by decide) rfl (h.1 c1)
  · refine WS.run (C := []) (pc' := 18) (L' := [vI x0, vI x1, vI (x0 ^^^ x1)]) (S' := [vI (1 : Int32)]) (σ' := σ) 2 rfl trivial ?_
    exact WS.ret rfl rfl (by decide) rfl (h.2 c1)
set_option maxRecDepth 4000 in
set_option maxHeartbeats 400000 in
theorem b_MD_mayBe_0 {d : Nat} {σ : Mem} {Post : Option AV → Mem → Prop} {x1 : Int32} (h : WS d M_MD_mayBe 2 [vR 51 0, vI x1, vI (0 : Int32)] [] σ Post) : WS d M_MD_mayBe 0 [vR 51 0, vI x1, vU] [] σ Post := by
  refine WS.run (C := []) (pc' := 2) (L' := [vR 51 0, vI x1, vI (0 : Int32)]) (S' := []) (σ' := σ) 2 rfl trivial ?_
  exact h
set_option maxRecDepth 4000 in
set_option maxHeartbeats 400000 in
theorem b_MD_mayBe_2 {d : Nat} {σ : Mem} {Post : Option AV → Mem → Prop} {x1 x2 : Int32} (h : (((12 : Int32) ≤ x2 → Post (some (vI (1 : Int32))) σ) ∧ (¬ ((12 : Int32) ≤ x2) → ((((x1 >>> (x2 &&& 31)) &&& (1 : Int32)) = (1 : Int32) → vp_in x2 12 ∧ ((((gI σ 61 0 x2.toNatClampNeg) &&& x1) = 0 → WS d M_MD_mayBe 2 [vR 51 0, vI x1, vI (x2 + (1 : Int32))] [] σ Post) ∧ (¬ (((gI σ 61 0 x2.toNatClampNeg) &&& x1) = 0) → Post (some (vI (0 : Int32))) σ))) ∧ (¬ (((x1 >>> (x2 &&& 31)) &&& (1 : Int32)) = (1 : Int32)) → WS d M_MD_mayBe 2 [vR 51 0, vI x1, vI (x2 + (1 : Int32))] [] σ Post))))) : WS d M_MD_mayBe 2 [vR 51 0, vI x1, vI x2] [] σ Post := by
  refine WS.run (C := []) (pc' := 5) (L' := [vR 51 0, vI x1, vI x2]) (S' := [vI (12 : Int32), vI x2]) (σ' := σ) 2 rfl trivial ?_
  refine WS.br (P := (12 : Int32) ≤ x2) (a := 36) (b := 8) (S' := []) rfl (fun c1 => ?_) (fun c1 => ?_)
  · refine WS.run (C := []) (pc' := 37) (L' := [vR 51 0, vI x1, vI x2]) (S' := [vI (1 : Int32)]) (σ' := σ) 1 rfl trivial ?_
    exact WS.ret rfl rfl (by decide) rfl (h.1 c1)
  · refine WS.run (C := []) (pc' := 14) (L' := [vR 51 0, vI x1, vI x2]) (S' := [vI (1 : Int32), vI ((x1 >>> (x2 &&& 31)) &&& (1 : Int32))]) (σ' := σ) 6 rfl trivial ?_
    refine WS.br (P := ((x1 >>> (x2 &&& 31)) &&& (1 : Int32)) = (1 : Int32)) (a := 17) (b := 30) (S' := []) rfl (fun c2 => ?_) (fun c2 => ?_)
    · refine WS.run (C := [vp_in x2 12]) (pc' := 25) (L' := [vR 51 0, vI x1, vI x2]) (S' := [vI ((gI σ 61 0 x2.toNatClampNeg) &&& x1)]) (σ' := σ) 6 rfl ⟨((h.2 c1).1 c2).1, trivial⟩ ?_
      refine WS.br (P := ((gI σ 61 0 x2.toNatClampNeg) &&& x1) = 0) (a := 30) (b := 28) (S' := []) rfl (fun c3 => ?_) (fun c3 => ?_)
      · refine WS.run (C := []) (pc' := 2) (L' := [vR 51 0, vI x1, vI (x2 + (1 : Int32))]) (S' := []) (σ' := σ) 2 rfl trivial ?_
        exact (((h.2 c1).1 c2).2.1 c3)
      · refine WS.run (C := []) (pc' := 29) (L' := [vR 51 0, vI x1, vI x2]) (S' := [vI (0 : Int32)]) (σ' := σ) 1 rfl trivial ?_
        exact WS.ret rfl rfl (by decide) rfl (((h.2 c1).1 c2).2.2 c3)
    · refine WS.run (C := []) (pc' := 2) (L' := [vR 51 0, vI x1, vI (x2 + (1 : Int32))]) (S' := []) (σ' := σ) 2 rfl trivial ?_
      exact ((h.2 c1).2 c2)
set_option maxRecDepth 4000 in
set_option maxHeartbeats 400000 in
theorem b_MD_worthOf_0 {d : Nat} {σ : Mem} {Post : Option AV → Mem → Prop} {x1 : Int32} (h : WS d M_MD_worthOf 4 [vR 51 0, vI x1, vI (0 : Int32), vI (0 : Int32)] [] σ Post) : WS d M_MD_worthOf 0 [vR 51 0, vI x1, vU, vU] [] σ Post := by
  refine WS.run (C := []) (pc' := 4) (L' := [vR 51 0, vI x1, vI (0 : Int32), vI (0 : Int32)]) (S' := []) (σ' := σ) 4 rfl trivial ?_
  exact h
set_option maxRecDepth 4000 in
set_option maxHeartbeats 400000 in
theorem b_MD_worthOf_4 {d : Nat} {σ : Mem} {Post : Option AV → Mem → Prop} {x1 x2 x3 : Int32} (h : (((12 : Int32) ≤ x3 → Post (some (vI x2)) σ) ∧ (¬ ((12 : Int32) ≤ x3) → ((((x1 >>> (x3 &&& 31)) &&& (1 : Int32)) = (1 : Int32) → vp_in x3 12 ∧ WS d M_MD_worthOf 4 [vR 51 0, vI x1, vI (x2 + (gI σ 53 0 x3.toNatClampNeg)), vI (x3 + (1 : Int32))] [] σ Post) ∧ (¬ (((x1 >>> (x3 &&& 31)) &&& (1 : Int32)) = (1 : Int32)) → WS d M_MD_worthOf 4 [vR 51 0, vI x1, vI x2, vI (x3 + (1 : Int32))] [] σ Post))))) : WS d M_MD_worthOf 4 [vR 51 0, vI x1, vI x2, vI x3] [] σ Post := by
  refine WS.run (C := []) (pc' := 7) (L' := [vR 51 0, vI x1, vI x2, vI x3]) (S' := [vI (12 : Int32), vI x3]) (σ' := σ) 2 rfl trivial ?_
  refine WS.br (P := (12 : Int32) ≤ x3) (a := 34) (b := 10) (S' := []) rfl (fun c1 => ?_) (fun c1 => ?_)
  · refine WS.run (C := []) (pc' := 35) (L' := [vR 51 0, vI x1, vI x2, vI x3]) (S' := [vI x2]) (σ' := σ) 1 rfl trivial ?_
    exact WS.ret rfl rfl (by decide) rfl (h.1 c1)
  · refine WS.run (C := []) (pc' := 16) (L' := [vR 51 0, vI x1, vI x2, vI x3]) (S' := [vI (1 : Int32), vI ((x1 >>> (x3 &&& 31)) &&& (1 : Int32))]) (σ' := σ) 6 rfl trivial ?_
    refine WS.br (P := ((x1 >>> (x3 &&& 31)) &&& (1 : Int32)) = (1 : Int32)) (a := 19) (b := 28) (S' := []) rfl (fun c2 => ?_) (fun c2 => ?_)
    · refine WS.run (C := [vp_in x3 12]) (pc' := 4) (L' := [vR 51 0, vI x1, vI (x2 + (gI σ 53 0 x3.toNatClampNeg)), vI (x3 + (1 : Int32))]) (S' := []) (σ' := σ) 9 rfl ⟨((h.2 c1).1 c2).1, trivial⟩ ?_
      exact ((h.2 c1).1 c2).2
    · refine WS.run (C := []) (pc' := 4) (L' := [vR 51 0, vI x1, vI x2, vI (x3 + (1 : Int32))]) (S' := []) (σ' := σ) 2 rfl trivial ?_
      exact ((h.2 c1).2 c2)
set_option maxRecDepth 4000 in
set_option maxHeartbeats 400000 in
theorem b_MD_keep_0 {d : Nat} {σ : Mem} {Post : Option AV → Mem → Prop}  (h : WS d M_MD_keep 6 [vR 51 0, vI (0 : Int32), vI (0 : Int32), vI (0 : Int32), vU, vU] [] σ Post) : WS d M_MD_keep 0 [vR 51 0, vU, vU, vU, vU, vU] [] σ Post := by
  refine WS.run (C := []) (pc' := 6) (L' := [vR 51 0, vI (0 : Int32), vI (0 : Int32), vI (0 : Int32), vU, vU]) (S' := []) (σ' := σ) 6 rfl trivial ?_
  exact h
set_option maxRecDepth 4000 in
set_option maxHeartbeats 400000 in
theorem b_MD_keep_6 {d : Nat} {σ : Mem} {Post : Option AV → Mem → Prop} {x1 x2 x3 : Int32} {v4 : AV} (h : (((12 : Int32) ≤ x3 → MM d M_MD_mayBe [vR 51 0, vI x2] σ (fun r τ => WS (d + 1) M_MD_keep 116 [vR 51 0, vI x1, vI x2, vI x3, v4, vU] (r.toList ++ []) τ Post)) ∧ (¬ ((12 : Int32) ≤ x3) → vp_in x3 12 ∧ (∀ σ1 : Mem, σ1 = pI σ 61 0 x3.toNatClampNeg (0 : Int32) → MM d M_MD_isThere [vR 51 0, vI x3] σ1 (fun r τ => WS (d + 1) M_MD_keep 24 [vR 51 0, vI x1, vI x2, vI x3, v4, vU] (r.toList ++ []) τ Post))))) : WS (d + 1) M_MD_keep 6 [vR 51 0, vI x1, vI x2, vI x3, v4, vU] [] σ Post := by
  refine WS.run (C := []) (pc' := 9) (L' := [vR 51 0, vI x1, vI x2, vI x3, v4, vU]) (S' := [vI (12 : Int32), vI x3]) (σ' := σ) 2 rfl trivial ?_
  refine WS.br (P := (12 : Int32) ≤ x3) (a := 111) (b := 12) (S' := []) rfl (fun c1 => ?_) (fun c1 => ?_)
  · refine WS.run (C := []) (pc' := 113) (L' := [vR 51 0, vI x1, vI x2, vI x3, v4, vU]) (S' := [vI x2, vR 51 0]) (σ' := σ) 2 rfl trivial ?_
    refine WS.callV M_MD_mayBe (k := 51) (i := 0) (as := [vI x2]) (rest := []) rfl lk_11_182 rfl rfl rfl (Nat.le_of_ble_eq_true rfl) ?_
    exact (h.1 c1)
  · refine WS.run (C := [vp_in x3 12]) (pc' := 19) (L' := [vR 51 0, vI x1, vI x2, vI x3, v4, vU]) (S' := []) (σ' := pI σ 61 0 x3.toNatClampNeg (0 : Int32)) 5 rfl ⟨(h.2 c1).1, trivial⟩ ?_
    obtain ⟨σ1, eσ1⟩ : ∃ z, z = pI σ 61 0 x3.toNatClampNeg (0 : Int32) := ⟨_, rfl⟩
    rw [← eσ1]
    refine WS.run (C := []) (pc' := 21) (L' := [vR 51 0, vI x1, vI x2, vI x3, v4, vU]) (S' := [vI x3, vR 51 0]) (σ' := σ1) 2 rfl trivial ?_
    refine WS.callV M_MD_isThere (k := 51) (i := 0) (as := [vI x3]) (rest := []) rfl lk_11_173 rfl rfl rfl (Nat.le_of_ble_eq_true rfl) ?_
    exact ((h.2 c1).2 σ1 eσ1)
set_option maxRecDepth 4000 in
set_option maxHeartbeats 400000 in
theorem b_MD_keep_24t {d : Nat} {σ : Mem} {Post : Option AV → Mem → Prop} {x1 x2 x3 : Int32} {v4 : AV} (h : vp_in x3 12 ∧ (((gI σ 54 0 x3.toNatClampNeg) = 0 → WS d M_MD_keep 54 [vR 51 0, vI (x1 ||| ((1 : Int32) <<< (x3 &&& 31))), vI x2, vI x3, vI (0 : Int32), vU] [] σ Post) ∧ (¬ ((gI σ 54 0 x3.toNatClampNeg) = 0) → WS d M_MD_keep 54 [vR 51 0, vI (x1 ||| ((1 : Int32) <<< (x3 &&& 31))), vI (x2 ||| ((1 : Int32) <<< (x3 &&& 31))), vI x3, vI (0 : Int32), vU] [] σ Post))) : WS d M_MD_keep 24 [vR 51 0, vI x1, vI x2, vI x3, v4, vU] [vI (1 : Int32)] σ Post := by
  refine WS.br (P := (1 : Int32) = 0) (a := 27) (b := 30) (S' := []) rfl (fun cc => absurd cc (by decide)) (fun _ => ?_)
  refine WS.run (C := [vp_in x3 12]) (pc' := 42) (L' := [vR 51 0, vI (x1 ||| ((1 : Int32) <<< (x3 &&& 31))), vI x2, vI x3, v4, vU]) (S' := [vI (gI σ 54 0 x3.toNatClampNeg)]) (σ' := σ) 10 rfl ⟨h.1, trivial⟩ ?_
  refine WS.br (P := (gI σ 54 0 x3.toNatClampNeg) = 0) (a := 51) (b := 45) (S' := []) rfl (fun c2 => ?_) (fun c2 => ?_)
  · refine WS.run (C := []) (pc' := 54) (L' := [vR 51 0, vI (x1 ||| ((1 : Int32) <<< (x3 &&& 31))), vI x2, vI x3, vI (0 : Int32), vU]) (S' := []) (σ' := σ) 2 rfl trivial ?_
    exact (h.2.1 c2)
  · refine WS.run (C := []) (pc' := 54) (L' := [vR 51 0, vI (x1 ||| ((1 : Int32) <<< (x3 &&& 31))), vI (x2 ||| ((1 : Int32) <<< (x3 &&& 31))), vI x3, vI (0 : Int32), vU]) (S' := []) (σ' := σ) 8 rfl trivial ?_
    exact (h.2.2 c2)
set_option maxRecDepth 4000 in
set_option maxHeartbeats 400000 in
theorem b_MD_keep_24f {d : Nat} {σ : Mem} {Post : Option AV → Mem → Prop} {x1 x2 x3 : Int32} {v4 : AV} (h : WS d M_MD_keep 6 [vR 51 0, vI x1, vI x2, vI (x3 + (1 : Int32)), v4, vU] [] σ Post) : WS d M_MD_keep 24 [vR 51 0, vI x1, vI x2, vI x3, v4, vU] [vI (0 : Int32)] σ Post := by
  refine WS.br (P := (0 : Int32) = 0) (a := 27) (b := 30) (S' := []) rfl (fun _ => ?_) (fun cc => absurd (by decide) cc)
  refine WS.run (C := []) (pc' := 6) (L' := [vR 51 0, vI x1, vI x2, vI (x3 + (1 : Int32)), v4, vU]) (S' := []) (σ' := σ) 3 rfl trivial ?_
  exact h
set_option maxRecDepth 4000 in
set_option maxHeartbeats 400000 in
theorem b_MD_keep_54 {d : Nat} {σ : Mem} {Post : Option AV → Mem → Prop} {x1 x2 x3 x4 : Int32} (h : (((12 : Int32) ≤ x4 → WS (d + 1) M_MD_keep 6 [vR 51 0, vI x1, vI x2, vI (x3 + (1 : Int32)), vI x4, vU] [] σ Post) ∧ (¬ ((12 : Int32) ≤ x4) → ((x4 = x3 → WS (d + 1) M_MD_keep 54 [vR 51 0, vI x1, vI x2, vI x3, vI (x4 + (1 : Int32)), vU] [] σ Post) ∧ (¬ (x4 = x3) → MM d M_MD_isThere [vR 51 0, vI x4] σ (fun r τ => WS (d + 1) M_MD_keep 73 [vR 51 0, vI x1, vI x2, vI x3, vI x4, vU] (r.toList ++ []) τ Post)))))) : WS (d + 1) M_MD_keep 54 [vR 51 0, vI x1, vI x2, vI x3, vI x4, vU] [] σ Post := by
  refine WS.run (C := []) (pc' := 58) (L' := [vR 51 0, vI x1, vI x2, vI x3, vI x4, vU]) (S' := [vI (12 : Int32), vI x4]) (σ' := σ) 2 rfl trivial ?_
  refine WS.br (P := (12 : Int32) ≤ x4) (a := 105) (b := 61) (S' := []) rfl (fun c3 => ?_) (fun c3 => ?_)
  · refine WS.run (C := []) (pc' := 6) (L' := [vR 51 0, vI x1, vI x2, vI (x3 + (1 : Int32)), vI x4, vU]) (S' := []) (σ' := σ) 2 rfl trivial ?_
    exact (h.1 c3)
  · refine WS.run (C := []) (pc' := 64) (L' := [vR 51 0, vI x1, vI x2, vI x3, vI x4, vU]) (S' := [vI x3, vI x4]) (σ' := σ) 2 rfl trivial ?_
    refine WS.br (P := x4 = x3) (a := 99) (b := 67) (S' := []) rfl (fun c4 => ?_) (fun c4 => ?_)
    · refine WS.run (C := []) (pc' := 54) (L' := [vR 51 0, vI x1, vI x2, vI x3, vI (x4 + (1 : Int32)), vU]) (S' := []) (σ' := σ) 2 rfl trivial ?_
      exact ((h.2 c3).1 c4)
    · refine WS.run (C := []) (pc' := 70) (L' := [vR 51 0, vI x1, vI x2, vI x3, vI x4, vU]) (S' := [vI x4, vR 51 0]) (σ' := σ) 2 rfl trivial ?_
      refine WS.callV M_MD_isThere (k := 51) (i := 0) (as := [vI x4]) (rest := []) rfl lk_11_173 rfl rfl rfl (Nat.le_of_ble_eq_true rfl) ?_
      exact ((h.2 c3).2 c4)
set_option maxRecDepth 4000 in
set_option maxHeartbeats 400000 in
theorem b_MD_keep_73t {d : Nat} {σ : Mem} {Post : Option AV → Mem → Prop} {x1 x2 x3 x4 : Int32} (h : MM d M_MD_areNear [vR 51 0, vI x4, vI x3] σ (fun r τ => WS (d + 1) M_MD_keep 83 [vR 51 0, vI x1, vI x2, vI x3, vI x4, vU] (r.toList ++ []) τ Post)) : WS (d + 1) M_MD_keep 73 [vR 51 0, vI x1, vI x2, vI x3, vI x4, vU] [vI (1 : Int32)] σ Post := by
  refine WS.br (P := (1 : Int32) = 0) (a := 99) (b := 76) (S' := []) rfl (fun cc => absurd cc (by decide)) (fun _ => ?_)
  refine WS.run (C := []) (pc' := 80) (L' := [vR 51 0, vI x1, vI x2, vI x3, vI x4, vU]) (S' := [vI x3, vI x4, vR 51 0]) (σ' := σ) 3 rfl trivial ?_
  refine WS.callV M_MD_areNear (k := 51) (i := 0) (as := [vI x4, vI x3]) (rest := []) rfl lk_11_176 rfl rfl rfl (Nat.le_of_ble_eq_true rfl) ?_
  exact h
set_option maxRecDepth 4000 in
set_option maxHeartbeats 400000 in
theorem b_MD_keep_73f {d : Nat} {σ : Mem} {Post : Option AV → Mem → Prop} {x1 x2 x3 x4 : Int32} (h : WS d M_MD_keep 54 [vR 51 0, vI x1, vI x2, vI x3, vI (x4 + (1 : Int32)), vU] [] σ Post) : WS d M_MD_keep 73 [vR 51 0, vI x1, vI x2, vI x3, vI x4, vU] [vI (0 : Int32)] σ Post := by
  refine WS.br (P := (0 : Int32) = 0) (a := 99) (b := 76) (S' := []) rfl (fun _ => ?_) (fun cc => absurd (by decide) cc)
  refine WS.run (C := []) (pc' := 54) (L' := [vR 51 0, vI x1, vI x2, vI x3, vI (x4 + (1 : Int32)), vU]) (S' := []) (σ' := σ) 2 rfl trivial ?_
  exact h
set_option maxRecDepth 4000 in
set_option maxHeartbeats 400000 in
theorem b_MD_keep_83t {d : Nat} {σ : Mem} {Post : Option AV → Mem → Prop} {x1 x2 x3 x4 : Int32} (h : vp_in x3 12 ∧ vp_in x3 12 ∧ (∀ σ1 : Mem, σ1 = pI σ 61 0 x3.toNatClampNeg ((gI σ 61 0 x3.toNatClampNeg) ||| ((1 : Int32) <<< (x4 &&& 31))) → WS d M_MD_keep 54 [vR 51 0, vI x1, vI x2, vI x3, vI (x4 + (1 : Int32)), vU] [] σ1 Post)) : WS d M_MD_keep 83 [vR 51 0, vI x1, vI x2, vI x3, vI x4, vU] [vI (1 : Int32)] σ Post := by
  refine WS.br (P := (1 : Int32) = 0) (a := 99) (b := 86) (S' := []) rfl (fun cc => absurd cc (by decide)) (fun _ => ?_)
  refine WS.run (C := [vp_in x3 12, vp_in x3 12]) (pc' := 99) (L' := [vR 51 0, vI x1, vI x2, vI x3, vI x4, vU]) (S' := []) (σ' := pI σ 61 0 x3.toNatClampNeg ((gI σ 61 0 x3.toNatClampNeg) ||| ((1 : Int32) <<< (x4 &&& 31)))) 10 rfl ⟨h.1, h.2.1, trivial⟩ ?_
  obtain ⟨σ1, eσ1⟩ : ∃ z, z = pI σ 61 0 x3.toNatClampNeg ((gI σ 61 0 x3.toNatClampNeg) ||| ((1 : Int32) <<< (x4 &&& 31))) := ⟨_, rfl⟩
  rw [← eσ1]
  refine WS.run (C := []) (pc' := 54) (L' := [vR 51 0, vI x1, vI x2, vI x3, vI (x4 + (1 : Int32)), vU]) (S' := []) (σ' := σ1) 2 rfl trivial ?_
  exact (h.2.2 σ1 eσ1)
set_option maxRecDepth 4000 in
set_option maxHeartbeats 400000 in
theorem b_MD_keep_83f {d : Nat} {σ : Mem} {Post : Option AV → Mem → Prop} {x1 x2 x3 x4 : Int32} (h : WS d M_MD_keep 54 [vR 51 0, vI x1, vI x2, vI x3, vI (x4 + (1 : Int32)), vU] [] σ Post) : WS d M_MD_keep 83 [vR 51 0, vI x1, vI x2, vI x3, vI x4, vU] [vI (0 : Int32)] σ Post := by
  refine WS.br (P := (0 : Int32) = 0) (a := 99) (b := 86) (S' := []) rfl (fun _ => ?_) (fun cc => absurd (by decide) cc)
  refine WS.run (C := []) (pc' := 54) (L' := [vR 51 0, vI x1, vI x2, vI x3, vI (x4 + (1 : Int32)), vU]) (S' := []) (σ' := σ) 2 rfl trivial ?_
  exact h
set_option maxRecDepth 4000 in
set_option maxHeartbeats 400000 in
theorem b_MD_keep_116t {d : Nat} {σ : Mem} {Post : Option AV → Mem → Prop} {x1 x2 x3 : Int32} {v4 : AV} (h : WS d M_MD_keep 126 [vR 51 0, vI x1, vI x2, vI x2, vI (0 : Int32), vU] [] σ Post) : WS d M_MD_keep 116 [vR 51 0, vI x1, vI x2, vI x3, v4, vU] [vI (1 : Int32)] σ Post := by
  refine WS.br (P := (1 : Int32) = 0) (a := 119) (b := 121) (S' := []) rfl (fun cc => absurd cc (by decide)) (fun _ => ?_)
  refine WS.run (C := []) (pc' := 126) (L' := [vR 51 0, vI x1, vI x2, vI x2, vI (0 : Int32), vU]) (S' := []) (σ' := σ) 4 rfl trivial ?_
  exact h
set_option maxRecDepth 4000 in
set_option maxHeartbeats 400000 in
theorem b_MD_keep_116f {d : Nat} {σ : Mem} {Post : Option AV → Mem → Prop} {x1 x2 x3 : Int32} {v4 : AV} (h : Post (some (vI (-1 : Int32))) σ) : WS d M_MD_keep 116 [vR 51 0, vI x1, vI x2, vI x3, v4, vU] [vI (0 : Int32)] σ Post := by
  refine WS.br (P := (0 : Int32) = 0) (a := 119) (b := 121) (S' := []) rfl (fun _ => ?_) (fun cc => absurd (by decide) cc)
  refine WS.run (C := []) (pc' := 120) (L' := [vR 51 0, vI x1, vI x2, vI x3, v4, vU]) (S' := [vI (-1 : Int32)]) (σ' := σ) 1 rfl trivial ?_
  exact WS.ret rfl rfl (by decide) rfl h
set_option maxRecDepth 4000 in
set_option maxHeartbeats 400000 in
theorem b_MD_keep_126 {d : Nat} {σ : Mem} {Post : Option AV → Mem → Prop} {x1 x2 x3 x4 : Int32} {v5 : AV} (h : (((4096 : Int32) ≤ x4 → (∀ σ1 : Mem, σ1 = pI σ 51 0 10 x3 → (∀ σ2 : Mem, σ2 = pI σ1 51 0 11 (1 : Int32) → MM d M_MD_worthOf [vR 51 0, vI x3] σ2 (fun r τ => WS (d + 1) M_MD_keep 238 [vR 51 0, vI x1, vI x2, vI x3, vI x4, v5] (r.toList ++ []) τ Post)))) ∧ (¬ ((4096 : Int32) ≤ x4) → (((x4 &&& (x1 ^^^ (-1 : Int32))) = 0 → (((x2 &&& (x4 ^^^ (-1 : Int32))) = 0 → MM d M_MD_mayBe [vR 51 0, vI x4] σ (fun r τ => WS (d + 1) M_MD_keep 158 [vR 51 0, vI x1, vI x2, vI x3, vI x4, v5] (r.toList ++ []) τ Post)) ∧ (¬ ((x2 &&& (x4 ^^^ (-1 : Int32))) = 0) → WS (d + 1) M_MD_keep 126 [vR 51 0, vI x1, vI x2, vI x3, vI (x4 + (1 : Int32)), v5] [] σ Post))) ∧ (¬ ((x4 &&& (x1 ^^^ (-1 : Int32))) = 0) → WS (d + 1) M_MD_keep 126 [vR 51 0, vI x1, vI x2, vI x3, vI (x4 + (1 : Int32)), v5] [] σ Post))))) : WS (d + 1) M_MD_keep 126 [vR 51 0, vI x1, vI x2, vI x3, vI x4, v5] [] σ Post := by
  refine WS.run (C := []) (pc' := 131) (L' := [vR 51 0, vI x1, vI x2, vI x3, vI x4, v5]) (S' := [vI (4096 : Int32), vI x4]) (σ' := σ) 2 rfl trivial ?_
  refine WS.br (P := (4096 : Int32) ≤ x4) (a := 223) (b := 134) (S' := []) rfl (fun c5 => ?_) (fun c5 => ?_)
  · refine WS.run (C := []) (pc' := 228) (L' := [vR 51 0, vI x1, vI x2, vI x3, vI x4, v5]) (S' := []) (σ' := pI σ 51 0 10 x3) 3 rfl trivial ?_
    obtain ⟨σ1, eσ1⟩ : ∃ z, z = pI σ 51 0 10 x3 := ⟨_, rfl⟩
    rw [← eσ1]
    refine WS.run (C := [(1 : Int32) = 0 ∨ (1 : Int32) = 1]) (pc' := 233) (L' := [vR 51 0, vI x1, vI x2, vI x3, vI x4, v5]) (S' := []) (σ' := pI σ1 51 0 11 (1 : Int32)) 3 rfl ⟨(by decide), trivial⟩ ?_
    obtain ⟨σ2, eσ2⟩ : ∃ z, z = pI σ1 51 0 11 (1 : Int32) := ⟨_, rfl⟩
    rw [← eσ2]
    refine WS.run (C := []) (pc' := 235) (L' := [vR 51 0, vI x1, vI x2, vI x3, vI x4, v5]) (S' := [vI x3, vR 51 0]) (σ' := σ2) 2 rfl trivial ?_
    refine WS.callV M_MD_worthOf (k := 51) (i := 0) (as := [vI x3]) (rest := []) rfl lk_11_185 rfl rfl rfl (Nat.le_of_ble_eq_true rfl) ?_
    exact (((h.1 c5) σ1 eσ1) σ2 eσ2)
  · refine WS.run (C := []) (pc' := 140) (L' := [vR 51 0, vI x1, vI x2, vI x3, vI x4, v5]) (S' := [vI (x4 &&& (x1 ^^^ (-1 : Int32)))]) (σ' := σ) 5 rfl trivial ?_
    refine WS.br (P := (x4 &&& (x1 ^^^ (-1 : Int32))) = 0) (a := 143) (b := 217) (S' := []) rfl (fun c6 => ?_) (fun c6 => ?_)
    · refine WS.run (C := []) (pc' := 149) (L' := [vR 51 0, vI x1, vI x2, vI x3, vI x4, v5]) (S' := [vI (x2 &&& (x4 ^^^ (-1 : Int32)))]) (σ' := σ) 5 rfl trivial ?_
      refine WS.br (P := (x2 &&& (x4 ^^^ (-1 : Int32))) = 0) (a := 152) (b := 217) (S' := []) rfl (fun c7 => ?_) (fun c7 => ?_)
      · refine WS.run (C := []) (pc' := 155) (L' := [vR 51 0, vI x1, vI x2, vI x3, vI x4, v5]) (S' := [vI x4, vR 51 0]) (σ' := σ) 2 rfl trivial ?_
        refine WS.callV M_MD_mayBe (k := 51) (i := 0) (as := [vI x4]) (rest := []) rfl lk_11_182 rfl rfl rfl (Nat.le_of_ble_eq_true rfl) ?_
        exact (((h.2 c5).1 c6).1 c7)
      · refine WS.run (C := []) (pc' := 126) (L' := [vR 51 0, vI x1, vI x2, vI x3, vI (x4 + (1 : Int32)), v5]) (S' := []) (σ' := σ) 2 rfl trivial ?_
        exact (((h.2 c5).1 c6).2 c7)
    · refine WS.run (C := []) (pc' := 126) (L' := [vR 51 0, vI x1, vI x2, vI x3, vI (x4 + (1 : Int32)), v5]) (S' := []) (σ' := σ) 2 rfl trivial ?_
      exact ((h.2 c5).2 c6)
set_option maxRecDepth 4000 in
set_option maxHeartbeats 400000 in
theorem b_MD_keep_158t {d : Nat} {σ : Mem} {Post : Option AV → Mem → Prop} {x1 x2 x3 x4 : Int32} {v5 : AV} (h : MM d M_MD_worthOf [vR 51 0, vI x4] σ (fun r τ => WS (d + 1) M_MD_keep 170 [vR 51 0, vI x1, vI x2, vI x3, vI x4, v5] (r.toList ++ []) τ Post)) : WS (d + 1) M_MD_keep 158 [vR 51 0, vI x1, vI x2, vI x3, vI x4, v5] [vI (1 : Int32)] σ Post := by
  refine WS.br (P := (1 : Int32) = 0) (a := 161) (b := 164) (S' := []) rfl (fun cc => absurd cc (by decide)) (fun _ => ?_)
  refine WS.run (C := []) (pc' := 167) (L' := [vR 51 0, vI x1, vI x2, vI x3, vI x4, v5]) (S' := [vI x4, vR 51 0]) (σ' := σ) 2 rfl trivial ?_
  refine WS.callV M_MD_worthOf (k := 51) (i := 0) (as := [vI x4]) (rest := []) rfl lk_11_185 rfl rfl rfl (Nat.le_of_ble_eq_true rfl) ?_
  exact h
set_option maxRecDepth 4000 in
set_option maxHeartbeats 400000 in
theorem b_MD_keep_158f {d : Nat} {σ : Mem} {Post : Option AV → Mem → Prop} {x1 x2 x3 x4 : Int32} {v5 : AV} (h : WS d M_MD_keep 126 [vR 51 0, vI x1, vI x2, vI x3, vI (x4 + (1 : Int32)), v5] [] σ Post) : WS d M_MD_keep 158 [vR 51 0, vI x1, vI x2, vI x3, vI x4, v5] [vI (0 : Int32)] σ Post := by
  refine WS.br (P := (0 : Int32) = 0) (a := 161) (b := 164) (S' := []) rfl (fun _ => ?_) (fun cc => absurd (by decide) cc)
  refine WS.run (C := []) (pc' := 126) (L' := [vR 51 0, vI x1, vI x2, vI x3, vI (x4 + (1 : Int32)), v5]) (S' := []) (σ' := σ) 3 rfl trivial ?_
  exact h
set_option maxRecDepth 4000 in
set_option maxHeartbeats 400000 in
theorem b_MD_keep_170 {d : Nat} {σ : Mem} {Post : Option AV → Mem → Prop} {x1 x2 x3 x4 sx0 : Int32} {v5 : AV} (h : MM d M_MD_worthOf [vR 51 0, vI x3] σ (fun r τ => WS (d + 1) M_MD_keep 175 [vR 51 0, vI x1, vI x2, vI x3, vI x4, v5] (r.toList ++ [vI sx0]) τ Post)) : WS (d + 1) M_MD_keep 170 [vR 51 0, vI x1, vI x2, vI x3, vI x4, v5] [vI sx0] σ Post := by
  refine WS.run (C := []) (pc' := 172) (L' := [vR 51 0, vI x1, vI x2, vI x3, vI x4, v5]) (S' := [vI x3, vR 51 0, vI sx0]) (σ' := σ) 2 rfl trivial ?_
  refine WS.callV M_MD_worthOf (k := 51) (i := 0) (as := [vI x3]) (rest := [vI sx0]) rfl lk_11_185 rfl rfl rfl (Nat.le_of_ble_eq_true rfl) ?_
  exact h
set_option maxRecDepth 4000 in
set_option maxHeartbeats 400000 in
theorem b_MD_keep_175 {d : Nat} {σ : Mem} {Post : Option AV → Mem → Prop} {x1 x2 x3 x4 sx0 sx1 : Int32} {v5 : AV} (h : (((sx1 - sx0) = 0 → MM d M_MD_ones [vI x4] σ (fun r τ => WS (d + 1) M_MD_keep 188 [vR 51 0, vI x1, vI x2, vI x3, vI x4, vI (sx1 - sx0)] (r.toList ++ []) τ Post)) ∧ (¬ ((sx1 - sx0) = 0) → ((0 < (sx1 - sx0) → WS (d + 1) M_MD_keep 126 [vR 51 0, vI x1, vI x2, vI x4, vI (x4 + (1 : Int32)), vI (sx1 - sx0)] [] σ Post) ∧ (¬ (0 < (sx1 - sx0)) → (((sx1 - sx0) = 0 → MM d M_MD_isFirst [vI x4, vI x3] σ (fun r τ => WS (d + 1) M_MD_keep 211 [vR 51 0, vI x1, vI x2, vI x3, vI x4, vI (sx1 - sx0)] (r.toList ++ []) τ Post)) ∧ (¬ ((sx1 - sx0) = 0) → WS (d + 1) M_MD_keep 126 [vR 51 0, vI x1, vI x2, vI x3, vI (x4 + (1 : Int32)), vI (sx1 - sx0)] [] σ Post))))))) : WS (d + 1) M_MD_keep 175 [vR 51 0, vI x1, vI x2, vI x3, vI x4, v5] [vI sx0, vI sx1] σ Post := by
  refine WS.run (C := []) (pc' := 180) (L' := [vR 51 0, vI x1, vI x2, vI x3, vI x4, vI (sx1 - sx0)]) (S' := [vI (sx1 - sx0)]) (σ' := σ) 3 rfl trivial ?_
  refine WS.br (P := (sx1 - sx0) = 0) (a := 183) (b := 195) (S' := []) rfl (fun c8 => ?_) (fun c8 => ?_)
  · refine WS.run (C := []) (pc' := 185) (L' := [vR 51 0, vI x1, vI x2, vI x3, vI x4, vI (sx1 - sx0)]) (S' := [vI x4]) (σ' := σ) 1 rfl trivial ?_
    refine WS.callS M_MD_ones (as := [vI x4]) (rest := []) rfl lk_11_189 rfl rfl (Nat.le_of_ble_eq_true rfl) ?_
    exact (h.1 c8)
  · refine WS.run (C := []) (pc' := 197) (L' := [vR 51 0, vI x1, vI x2, vI x3, vI x4, vI (sx1 - sx0)]) (S' := [vI (sx1 - sx0)]) (σ' := σ) 1 rfl trivial ?_
    refine WS.br (P := 0 < (sx1 - sx0)) (a := 214) (b := 200) (S' := []) rfl (fun c9 => ?_) (fun c9 => ?_)
    · refine WS.run (C := []) (pc' := 126) (L' := [vR 51 0, vI x1, vI x2, vI x4, vI (x4 + (1 : Int32)), vI (sx1 - sx0)]) (S' := []) (σ' := σ) 4 rfl trivial ?_
      exact ((h.2 c8).1 c9)
    · refine WS.run (C := []) (pc' := 202) (L' := [vR 51 0, vI x1, vI x2, vI x3, vI x4, vI (sx1 - sx0)]) (S' := [vI (sx1 - sx0)]) (σ' := σ) 1 rfl trivial ?_
      refine WS.br (P := (sx1 - sx0) = 0) (a := 205) (b := 217) (S' := []) rfl (fun c10 => ?_) (fun c10 => ?_)
      · refine WS.run (C := []) (pc' := 208) (L' := [vR 51 0, vI x1, vI x2, vI x3, vI x4, vI (sx1 - sx0)]) (S' := [vI x3, vI x4]) (σ' := σ) 2 rfl trivial ?_
        refine WS.callS M_MD_isFirst (as := [vI x4, vI x3]) (rest := []) rfl lk_11_192 rfl rfl (Nat.le_of_ble_eq_true rfl) ?_
        exact (((h.2 c8).2 c9).1 c10)
      · refine WS.run (C := []) (pc' := 126) (L' := [vR 51 0, vI x1, vI x2, vI x3, vI (x4 + (1 : Int32)), vI (sx1 - sx0)]) (S' := []) (σ' := σ) 2 rfl trivial ?_
        exact (((h.2 c8).2 c9).2 c10)
set_option maxRecDepth 4000 in
set_option maxHeartbeats 400000 in
theorem b_MD_keep_188 {d : Nat} {σ : Mem} {Post : Option AV → Mem → Prop} {x1 x2 x3 x4 x5 sx0 : Int32} (h : MM d M_MD_ones [vI x3] σ (fun r τ => WS (d + 1) M_MD_keep 192 [vR 51 0, vI x1, vI x2, vI x3, vI x4, vI x5] (r.toList ++ [vI sx0]) τ Post)) : WS (d + 1) M_MD_keep 188 [vR 51 0, vI x1, vI x2, vI x3, vI x4, vI x5] [vI sx0] σ Post := by
  refine WS.run (C := []) (pc' := 189) (L' := [vR 51 0, vI x1, vI x2, vI x3, vI x4, vI x5]) (S' := [vI x3, vI sx0]) (σ' := σ) 1 rfl trivial ?_
  refine WS.callS M_MD_ones (as := [vI x3]) (rest := [vI sx0]) rfl lk_11_189 rfl rfl (Nat.le_of_ble_eq_true rfl) ?_
  exact h
set_option maxRecDepth 4000 in
set_option maxHeartbeats 400000 in
theorem b_MD_keep_192 {d : Nat} {σ : Mem} {Post : Option AV → Mem → Prop} {x1 x2 x3 x4 x5 sx0 sx1 : Int32} (h : ((0 < (sx1 - sx0) → WS (d + 1) M_MD_keep 126 [vR 51 0, vI x1, vI x2, vI x4, vI (x4 + (1 : Int32)), vI (sx1 - sx0)] [] σ Post) ∧ (¬ (0 < (sx1 - sx0)) → (((sx1 - sx0) = 0 → MM d M_MD_isFirst [vI x4, vI x3] σ (fun r τ => WS (d + 1) M_MD_keep 211 [vR 51 0, vI x1, vI x2, vI x3, vI x4, vI (sx1 - sx0)] (r.toList ++ []) τ Post)) ∧ (¬ ((sx1 - sx0) = 0) → WS (d + 1) M_MD_keep 126 [vR 51 0, vI x1, vI x2, vI x3, vI (x4 + (1 : Int32)), vI (sx1 - sx0)] [] σ Post))))) : WS (d + 1) M_MD_keep 192 [vR 51 0, vI x1, vI x2, vI x3, vI x4, vI x5] [vI sx0, vI sx1] σ Post := by
  refine WS.run (C := []) (pc' := 197) (L' := [vR 51 0, vI x1, vI x2, vI x3, vI x4, vI (sx1 - sx0)]) (S' := [vI (sx1 - sx0)]) (σ' := σ) 3 rfl trivial ?_
  refine WS.br (P := 0 < (sx1 - sx0)) (a := 214) (b := 200) (S' := []) rfl (fun c11 => ?_) (fun c11 => ?_)
  · refine WS.run (C := []) (pc' := 126) (L' := [vR 51 0, vI x1, vI x2, vI x4, vI (x4 + (1 : Int32)), vI (sx1 - sx0)]) (S' := []) (σ' := σ) 4 rfl trivial ?_
    exact (h.1 c11)
  · refine WS.run (C := []) (pc' := 202) (L' := [vR 51 0, vI x1, vI x2, vI x3, vI x4, vI (sx1 - sx0)]) (S' := [vI (sx1 - sx0)]) (σ' := σ) 1 rfl trivial ?_
    refine WS.br (P := (sx1 - sx0) = 0) (a := 205) (b := 217) (S' := []) rfl (fun c12 => ?_) (fun c12 => ?_)
    · refine WS.run (C := []) (pc' := 208) (L' := [vR 51 0, vI x1, vI x2, vI x3, vI x4, vI (sx1 - sx0)]) (S' := [vI x3, vI x4]) (σ' := σ) 2 rfl trivial ?_
      refine WS.callS M_MD_isFirst (as := [vI x4, vI x3]) (rest := []) rfl lk_11_192 rfl rfl (Nat.le_of_ble_eq_true rfl) ?_
      exact ((h.2 c11).1 c12)
    · refine WS.run (C := []) (pc' := 126) (L' := [vR 51 0, vI x1, vI x2, vI x3, vI (x4 + (1 : Int32)), vI (sx1 - sx0)]) (S' := []) (σ' := σ) 2 rfl trivial ?_
      exact ((h.2 c11).2 c12)
set_option maxRecDepth 4000 in
set_option maxHeartbeats 400000 in
theorem b_MD_keep_211t {d : Nat} {σ : Mem} {Post : Option AV → Mem → Prop} {x1 x2 x3 x4 x5 : Int32} (h : WS d M_MD_keep 126 [vR 51 0, vI x1, vI x2, vI x4, vI (x4 + (1 : Int32)), vI x5] [] σ Post) : WS d M_MD_keep 211 [vR 51 0, vI x1, vI x2, vI x3, vI x4, vI x5] [vI (1 : Int32)] σ Post := by
  refine WS.br (P := (1 : Int32) = 0) (a := 217) (b := 214) (S' := []) rfl (fun cc => absurd cc (by decide)) (fun _ => ?_)
  refine WS.run (C := []) (pc' := 126) (L' := [vR 51 0, vI x1, vI x2, vI x4, vI (x4 + (1 : Int32)), vI x5]) (S' := []) (σ' := σ) 4 rfl trivial ?_
  exact h
set_option maxRecDepth 4000 in
set_option maxHeartbeats 400000 in
theorem b_MD_keep_211f {d : Nat} {σ : Mem} {Post : Option AV → Mem → Prop} {x1 x2 x3 x4 x5 : Int32} (h : WS d M_MD_keep 126 [vR 51 0, vI x1, vI x2, vI x3, vI (x4 + (1 : Int32)), vI x5] [] σ Post) : WS d M_MD_keep 211 [vR 51 0, vI x1, vI x2, vI x3, vI x4, vI x5] [vI (0 : Int32)] σ Post := by
  refine WS.br (P := (0 : Int32) = 0) (a := 217) (b := 214) (S' := []) rfl (fun _ => ?_) (fun cc => absurd (by decide) cc)
  refine WS.run (C := []) (pc' := 126) (L' := [vR 51 0, vI x1, vI x2, vI x3, vI (x4 + (1 : Int32)), vI x5]) (S' := []) (σ' := σ) 2 rfl trivial ?_
  exact h
set_option maxRecDepth 4000 in
set_option maxHeartbeats 400000 in
theorem b_MD_keep_238 {d : Nat} {σ : Mem} {Post : Option AV → Mem → Prop} {x1 x2 x3 x4 sx0 : Int32} {v5 : AV} (h : Post (some (vI sx0)) σ) : WS d M_MD_keep 238 [vR 51 0, vI x1, vI x2, vI x3, vI x4, v5] [vI sx0] σ Post := by
  exact WS.ret rfl rfl (by decide) rfl h
set_option maxRecDepth 4000 in
set_option maxHeartbeats 400000 in
theorem b_MD_kept_0 {d : Nat} {σ : Mem} {Post : Option AV → Mem → Prop} {x1 : Int32} (h : (((gI σ 51 0 11) = 0 → Post (some (vI (-1 : Int32))) σ) ∧ (¬ ((gI σ 51 0 11) = 0) → MM d M_MD_isIn [vI x1, vI (0 : Int32), vI (11 : Int32)] σ (fun r τ => WS (d + 1) M_MD_kept 14 [vR 51 0, vI x1] (r.toList ++ []) τ Post)))) : WS (d + 1) M_MD_kept 0 [vR 51 0, vI x1] [] σ Post := by
  refine WS.run (C := []) (pc' := 4) (L' := [vR 51 0, vI x1]) (S' := [vI (gI σ 51 0 11)]) (σ' := σ) 2 rfl trivial ?_
  refine WS.br (P := (gI σ 51 0 11) = 0) (a := 28) (b := 7) (S' := []) rfl (fun c1 => ?_) (fun c1 => ?_)
  · refine WS.run (C := []) (pc' := 29) (L' := [vR 51 0, vI x1]) (S' := [vI (-1 : Int32)]) (σ' := σ) 1 rfl trivial ?_
    exact WS.ret rfl rfl (by decide) rfl (h.1 c1)
  · refine WS.run (C := []) (pc' := 11) (L' := [vR 51 0, vI x1]) (S' := [vI (11 : Int32), vI (0 : Int32), vI x1]) (σ' := σ) 3 rfl trivial ?_
    refine WS.callS M_MD_isIn (as := [vI x1, vI (0 : Int32), vI (11 : Int32)]) (rest := []) rfl lk_11_114 rfl rfl (Nat.le_of_ble_eq_true rfl) ?_
    exact (h.2 c1)
set_option maxRecDepth 4000 in
set_option maxHeartbeats 400000 in
theorem b_MD_kept_14t {d : Nat} {σ : Mem} {Post : Option AV → Mem → Prop} {x1 : Int32} (h : Post (some (vI (((gI σ 51 0 10) >>> (x1 &&& 31)) &&& (1 : Int32)))) σ) : WS d M_MD_kept 14 [vR 51 0, vI x1] [vI (1 : Int32)] σ Post := by
  refine WS.br (P := (1 : Int32) = 0) (a := 28) (b := 17) (S' := []) rfl (fun cc => absurd cc (by decide)) (fun _ => ?_)
  refine WS.run (C := []) (pc' := 29) (L' := [vR 51 0, vI x1]) (S' := [vI (((gI σ 51 0 10) >>> (x1 &&& 31)) &&& (1 : Int32))]) (σ' := σ) 7 rfl trivial ?_
  exact WS.ret rfl rfl (by decide) rfl h
set_option maxRecDepth 4000 in
set_option maxHeartbeats 400000 in
theorem b_MD_kept_14f {d : Nat} {σ : Mem} {Post : Option AV → Mem → Prop} {x1 : Int32} (h : Post (some (vI (-1 : Int32))) σ) : WS d M_MD_kept 14 [vR 51 0, vI x1] [vI (0 : Int32)] σ Post := by
  refine WS.br (P := (0 : Int32) = 0) (a := 28) (b := 17) (S' := []) rfl (fun _ => ?_) (fun cc => absurd (by decide) cc)
  refine WS.run (C := []) (pc' := 29) (L' := [vR 51 0, vI x1]) (S' := [vI (-1 : Int32)]) (σ' := σ) 1 rfl trivial ?_
  exact WS.ret rfl rfl (by decide) rfl h
set_option maxRecDepth 4000 in
set_option maxHeartbeats 400000 in
theorem b_MD_contract_0 {d : Nat} {σ : Mem} {Post : Option AV → Mem → Prop} {x1 x2 : Int32} (h : (∀ σ1 : Mem, σ1 = pI σ 51 0 15 (0 : Int32) → MM d M_MD_isIn [vI x1, vI (0 : Int32), vI (9 : Int32)] σ1 (fun r τ => WS (d + 1) M_MD_contract 17 [vR 51 0, vI x1, vI x2, vI (gI σ 51 0 15), vU] (r.toList ++ []) τ Post))) : WS (d + 1) M_MD_contract 0 [vR 51 0, vI x1, vI x2, vU, vU] [] σ Post := by
  refine WS.run (C := []) (pc' := 10) (L' := [vR 51 0, vI x1, vI x2, vI (gI σ 51 0 15), vU]) (S' := []) (σ' := pI σ 51 0 15 (0 : Int32)) 6 rfl trivial ?_
  obtain ⟨σ1, eσ1⟩ : ∃ z, z = pI σ 51 0 15 (0 : Int32) := ⟨_, rfl⟩
  rw [← eσ1]
  refine WS.run (C := []) (pc' := 14) (L' := [vR 51 0, vI x1, vI x2, vI (gI σ 51 0 15), vU]) (S' := [vI (9 : Int32), vI (0 : Int32), vI x1]) (σ' := σ1) 3 rfl trivial ?_
  refine WS.callS M_MD_isIn (as := [vI x1, vI (0 : Int32), vI (9 : Int32)]) (rest := []) rfl lk_11_114 rfl rfl (Nat.le_of_ble_eq_true rfl) ?_
  exact (h σ1 eσ1)
set_option maxRecDepth 4000 in
set_option maxHeartbeats 400000 in
theorem b_MD_contract_17t {d : Nat} {σ : Mem} {Post : Option AV → Mem → Prop} {x1 x2 x3 : Int32} (h : ((x2 = 0 → ((x2 = 0 → vp_in x1 10 ∧ (∀ σ1 : Mem, σ1 = pI σ 64 0 x1.toNatClampNeg (0 : Int32) → vp_in x1 10 ∧ (∀ σ2 : Mem, σ2 = pI σ1 66 0 x1.toNatClampNeg x2 → WS (d + 1) M_MD_contract 71 [vR 51 0, vI x1, vI x2, vI x3, vI (0 : Int32)] [] σ2 Post))) ∧ (¬ (x2 = 0) → vp_in x1 10 ∧ (∀ σ3 : Mem, σ3 = pI σ 64 0 x1.toNatClampNeg x3 → vp_in x1 10 ∧ (∀ σ4 : Mem, σ4 = pI σ3 66 0 x1.toNatClampNeg x2 → WS (d + 1) M_MD_contract 71 [vR 51 0, vI x1, vI x2, vI x3, vI (0 : Int32)] [] σ4 Post))))) ∧ (¬ (x2 = 0) → MM d M_MD_isIn [vI x2, vI (1 : Int32), vI (63 : Int32)] σ (fun r τ => WS (d + 1) M_MD_contract 31 [vR 51 0, vI x1, vI x2, vI x3, vU] (r.toList ++ []) τ Post)))) : WS (d + 1) M_MD_contract 17 [vR 51 0, vI x1, vI x2, vI x3, vU] [vI (1 : Int32)] σ Post := by
  refine WS.br (P := (1 : Int32) = 0) (a := 44) (b := 20) (S' := []) rfl (fun cc => absurd cc (by decide)) (fun _ => ?_)
  refine WS.run (C := []) (pc' := 21) (L' := [vR 51 0, vI x1, vI x2, vI x3, vU]) (S' := [vI x2]) (σ' := σ) 1 rfl trivial ?_
  refine WS.br (P := x2 = 0) (a := 46) (b := 24) (S' := []) rfl (fun c1 => ?_) (fun c1 => ?_)
  · refine WS.run (C := []) (pc' := 52) (L' := [vR 51 0, vI x1, vI x2, vI x3, vU]) (S' := [vI x2, vI x1, vR 64 0]) (σ' := σ) 4 rfl trivial ?_
    refine WS.br (P := x2 = 0) (a := 55) (b := 59) (S' := [vI x1, vR 64 0]) rfl (fun c2 => ?_) (fun c2 => ?_)
    · refine WS.run (C := [vp_in x1 10]) (pc' := 61) (L' := [vR 51 0, vI x1, vI x2, vI x3, vU]) (S' := []) (σ' := pI σ 64 0 x1.toNatClampNeg (0 : Int32)) 3 rfl ⟨((h.1 c1).1 c2).1, trivial⟩ ?_
      obtain ⟨σ1, eσ1⟩ : ∃ z, z = pI σ 64 0 x1.toNatClampNeg (0 : Int32) := ⟨_, rfl⟩
      rw [← eσ1]
      refine WS.run (C := [vp_in x1 10]) (pc' := 68) (L' := [vR 51 0, vI x1, vI x2, vI x3, vU]) (S' := []) (σ' := pI σ1 66 0 x1.toNatClampNeg x2) 5 rfl ⟨(((h.1 c1).1 c2).2 σ1 eσ1).1, trivial⟩ ?_
      obtain ⟨σ2, eσ2⟩ : ∃ z, z = pI σ1 66 0 x1.toNatClampNeg x2 := ⟨_, rfl⟩
      rw [← eσ2]
      refine WS.run (C := []) (pc' := 71) (L' := [vR 51 0, vI x1, vI x2, vI x3, vI (0 : Int32)]) (S' := []) (σ' := σ2) 2 rfl trivial ?_
      exact ((((h.1 c1).1 c2).2 σ1 eσ1).2 σ2 eσ2)
    · refine WS.run (C := [vp_in x1 10]) (pc' := 61) (L' := [vR 51 0, vI x1, vI x2, vI x3, vU]) (S' := []) (σ' := pI σ 64 0 x1.toNatClampNeg x3) 2 rfl ⟨((h.1 c1).2 c2).1, trivial⟩ ?_
      obtain ⟨σ3, eσ3⟩ : ∃ z, z = pI σ 64 0 x1.toNatClampNeg x3 := ⟨_, rfl⟩
      rw [← eσ3]
      refine WS.run (C := [vp_in x1 10]) (pc' := 68) (L' := [vR 51 0, vI x1, vI x2, vI x3, vU]) (S' := []) (σ' := pI σ3 66 0 x1.toNatClampNeg x2) 5 rfl ⟨(((h.1 c1).2 c2).2 σ3 eσ3).1, trivial⟩ ?_
      obtain ⟨σ4, eσ4⟩ : ∃ z, z = pI σ3 66 0 x1.toNatClampNeg x2 := ⟨_, rfl⟩
      rw [← eσ4]
      refine WS.run (C := []) (pc' := 71) (L' := [vR 51 0, vI x1, vI x2, vI x3, vI (0 : Int32)]) (S' := []) (σ' := σ4) 2 rfl trivial ?_
      exact ((((h.1 c1).2 c2).2 σ3 eσ3).2 σ4 eσ4)
  · refine WS.run (C := []) (pc' := 28) (L' := [vR 51 0, vI x1, vI x2, vI x3, vU]) (S' := [vI (63 : Int32), vI (1 : Int32), vI x2]) (σ' := σ) 3 rfl trivial ?_
    refine WS.callS M_MD_isIn (as := [vI x2, vI (1 : Int32), vI (63 : Int32)]) (rest := []) rfl lk_11_114 rfl rfl (Nat.le_of_ble_eq_true rfl) ?_
    exact (h.2 c1)
set_option maxRecDepth 4000 in
set_option maxHeartbeats 400000 in
theorem b_MD_contract_17f {d : Nat} {σ : Mem} {Post : Option AV → Mem → Prop} {x1 x2 x3 : Int32} (h : Post (some (vI (0 : Int32))) σ) : WS d M_MD_contract 17 [vR 51 0, vI x1, vI x2, vI x3, vU] [vI (0 : Int32)] σ Post := by
  refine WS.br (P := (0 : Int32) = 0) (a := 44) (b := 20) (S' := []) rfl (fun _ => ?_) (fun cc => absurd (by decide) cc)
  refine WS.run (C := []) (pc' := 45) (L' := [vR 51 0, vI x1, vI x2, vI x3, vU]) (S' := [vI (0 : Int32)]) (σ' := σ) 1 rfl trivial ?_
  exact WS.ret rfl rfl (by decide) rfl h
set_option maxRecDepth 4000 in
set_option maxHeartbeats 400000 in
theorem b_MD_contract_31t {d : Nat} {σ : Mem} {Post : Option AV → Mem → Prop} {x1 x2 x3 : Int32} (h : ((x3 < (2 : Int32) → Post (some (vI (0 : Int32))) σ) ∧ (¬ (x3 < (2 : Int32)) → ((x3 ≤ (4 : Int32) → ((x2 = 0 → vp_in x1 10 ∧ (∀ σ1 : Mem, σ1 = pI σ 64 0 x1.toNatClampNeg (0 : Int32) → vp_in x1 10 ∧ (∀ σ2 : Mem, σ2 = pI σ1 66 0 x1.toNatClampNeg x2 → WS d M_MD_contract 71 [vR 51 0, vI x1, vI x2, vI x3, vI (0 : Int32)] [] σ2 Post))) ∧ (¬ (x2 = 0) → vp_in x1 10 ∧ (∀ σ3 : Mem, σ3 = pI σ 64 0 x1.toNatClampNeg x3 → vp_in x1 10 ∧ (∀ σ4 : Mem, σ4 = pI σ3 66 0 x1.toNatClampNeg x2 → WS d M_MD_contract 71 [vR 51 0, vI x1, vI x2, vI x3, vI (0 : Int32)] [] σ4 Post))))) ∧ (¬ (x3 ≤ (4 : Int32)) → Post (some (vI (0 : Int32))) σ))))) : WS d M_MD_contract 31 [vR 51 0, vI x1, vI x2, vI x3, vU] [vI (1 : Int32)] σ Post := by
  refine WS.br (P := (1 : Int32) = 0) (a := 44) (b := 34) (S' := []) rfl (fun cc => absurd cc (by decide)) (fun _ => ?_)
  refine WS.run (C := []) (pc' := 36) (L' := [vR 51 0, vI x1, vI x2, vI x3, vU]) (S' := [vI (2 : Int32), vI x3]) (σ' := σ) 2 rfl trivial ?_
  refine WS.br (P := x3 < (2 : Int32)) (a := 44) (b := 39) (S' := []) rfl (fun c3 => ?_) (fun c3 => ?_)
  · refine WS.run (C := []) (pc' := 45) (L' := [vR 51 0, vI x1, vI x2, vI x3, vU]) (S' := [vI (0 : Int32)]) (σ' := σ) 1 rfl trivial ?_
    exact WS.ret rfl rfl (by decide) rfl (h.1 c3)
  · refine WS.run (C := []) (pc' := 41) (L' := [vR 51 0, vI x1, vI x2, vI x3, vU]) (S' := [vI (4 : Int32), vI x3]) (σ' := σ) 2 rfl trivial ?_
    refine WS.br (P := x3 ≤ (4 : Int32)) (a := 46) (b := 44) (S' := []) rfl (fun c4 => ?_) (fun c4 => ?_)
    · refine WS.run (C := []) (pc' := 52) (L' := [vR 51 0, vI x1, vI x2, vI x3, vU]) (S' := [vI x2, vI x1, vR 64 0]) (σ' := σ) 4 rfl trivial ?_
      refine WS.br (P := x2 = 0) (a := 55) (b := 59) (S' := [vI x1, vR 64 0]) rfl (fun c5 => ?_) (fun c5 => ?_)
      · refine WS.run (C := [vp_in x1 10]) (pc' := 61) (L' := [vR 51 0, vI x1, vI x2, vI x3, vU]) (S' := []) (σ' := pI σ 64 0 x1.toNatClampNeg (0 : Int32)) 3 rfl ⟨(((h.2 c3).1 c4).1 c5).1, trivial⟩ ?_
        obtain ⟨σ1, eσ1⟩ : ∃ z, z = pI σ 64 0 x1.toNatClampNeg (0 : Int32) := ⟨_, rfl⟩
        rw [← eσ1]
        refine WS.run (C := [vp_in x1 10]) (pc' := 68) (L' := [vR 51 0, vI x1, vI x2, vI x3, vU]) (S' := []) (σ' := pI σ1 66 0 x1.toNatClampNeg x2) 5 rfl ⟨((((h.2 c3).1 c4).1 c5).2 σ1 eσ1).1, trivial⟩ ?_
        obtain ⟨σ2, eσ2⟩ : ∃ z, z = pI σ1 66 0 x1.toNatClampNeg x2 := ⟨_, rfl⟩
        rw [← eσ2]
        refine WS.run (C := []) (pc' := 71) (L' := [vR 51 0, vI x1, vI x2, vI x3, vI (0 : Int32)]) (S' := []) (σ' := σ2) 2 rfl trivial ?_
        exact (((((h.2 c3).1 c4).1 c5).2 σ1 eσ1).2 σ2 eσ2)
      · refine WS.run (C := [vp_in x1 10]) (pc' := 61) (L' := [vR 51 0, vI x1, vI x2, vI x3, vU]) (S' := []) (σ' := pI σ 64 0 x1.toNatClampNeg x3) 2 rfl ⟨(((h.2 c3).1 c4).2 c5).1, trivial⟩ ?_
        obtain ⟨σ3, eσ3⟩ : ∃ z, z = pI σ 64 0 x1.toNatClampNeg x3 := ⟨_, rfl⟩
        rw [← eσ3]
        refine WS.run (C := [vp_in x1 10]) (pc' := 68) (L' := [vR 51 0, vI x1, vI x2, vI x3, vU]) (S' := []) (σ' := pI σ3 66 0 x1.toNatClampNeg x2) 5 rfl ⟨((((h.2 c3).1 c4).2 c5).2 σ3 eσ3).1, trivial⟩ ?_
        obtain ⟨σ4, eσ4⟩ : ∃ z, z = pI σ3 66 0 x1.toNatClampNeg x2 := ⟨_, rfl⟩
        rw [← eσ4]
        refine WS.run (C := []) (pc' := 71) (L' := [vR 51 0, vI x1, vI x2, vI x3, vI (0 : Int32)]) (S' := []) (σ' := σ4) 2 rfl trivial ?_
        exact (((((h.2 c3).1 c4).2 c5).2 σ3 eσ3).2 σ4 eσ4)
    · refine WS.run (C := []) (pc' := 45) (L' := [vR 51 0, vI x1, vI x2, vI x3, vU]) (S' := [vI (0 : Int32)]) (σ' := σ) 1 rfl trivial ?_
      exact WS.ret rfl rfl (by decide) rfl ((h.2 c3).2 c4)
set_option maxRecDepth 4000 in
set_option maxHeartbeats 400000 in
theorem b_MD_contract_31f {d : Nat} {σ : Mem} {Post : Option AV → Mem → Prop} {x1 x2 x3 : Int32} (h : Post (some (vI (0 : Int32))) σ) : WS d M_MD_contract 31 [vR 51 0, vI x1, vI x2, vI x3, vU] [vI (0 : Int32)] σ Post := by
  refine WS.br (P := (0 : Int32) = 0) (a := 44) (b := 34) (S' := []) rfl (fun _ => ?_) (fun cc => absurd (by decide) cc)
  refine WS.run (C := []) (pc' := 45) (L' := [vR 51 0, vI x1, vI x2, vI x3, vU]) (S' := [vI (0 : Int32)]) (σ' := σ) 1 rfl trivial ?_
  exact WS.ret rfl rfl (by decide) rfl h
set_option maxRecDepth 4000 in
set_option maxHeartbeats 400000 in
theorem b_MD_contract_71 {d : Nat} {σ : Mem} {Post : Option AV → Mem → Prop} {x1 x2 x3 x4 : Int32} (h : ((x3 ≤ x4 → Post (some (vI (1 : Int32))) σ) ∧ (¬ (x3 ≤ x4) → ((x2 = 0 → Post (some (vI (1 : Int32))) σ) ∧ (¬ (x2 = 0) → vp_in x4 12 ∧ vp_in (((4 : Int32) * x1) + x4) 40 ∧ (∀ σ1 : Mem, σ1 = pI σ 65 0 (((4 : Int32) * x1) + x4).toNatClampNeg (gI σ 63 0 x4.toNatClampNeg) → WS d M_MD_contract 71 [vR 51 0, vI x1, vI x2, vI x3, vI (x4 + (1 : Int32))] [] σ1 Post)))))) : WS d M_MD_contract 71 [vR 51 0, vI x1, vI x2, vI x3, vI x4] [] σ Post := by
  refine WS.run (C := []) (pc' := 74) (L' := [vR 51 0, vI x1, vI x2, vI x3, vI x4]) (S' := [vI x3, vI x4]) (σ' := σ) 2 rfl trivial ?_
  refine WS.br (P := x3 ≤ x4) (a := 105) (b := 77) (S' := []) rfl (fun c6 => ?_) (fun c6 => ?_)
  · refine WS.run (C := []) (pc' := 106) (L' := [vR 51 0, vI x1, vI x2, vI x3, vI x4]) (S' := [vI (1 : Int32)]) (σ' := σ) 1 rfl trivial ?_
    exact WS.ret rfl rfl (by decide) rfl (h.1 c6)
  · refine WS.run (C := []) (pc' := 78) (L' := [vR 51 0, vI x1, vI x2, vI x3, vI x4]) (S' := [vI x2]) (σ' := σ) 1 rfl trivial ?_
    refine WS.br (P := x2 = 0) (a := 105) (b := 81) (S' := []) rfl (fun c7 => ?_) (fun c7 => ?_)
    · refine WS.run (C := []) (pc' := 106) (L' := [vR 51 0, vI x1, vI x2, vI x3, vI x4]) (S' := [vI (1 : Int32)]) (σ' := σ) 1 rfl trivial ?_
      exact WS.ret rfl rfl (by decide) rfl ((h.2 c6).1 c7)
    · refine WS.run (C := [vp_in x4 12, vp_in (((4 : Int32) * x1) + x4) 40]) (pc' := 99) (L' := [vR 51 0, vI x1, vI x2, vI x3, vI x4]) (S' := []) (σ' := pI σ 65 0 (((4 : Int32) * x1) + x4).toNatClampNeg (gI σ 63 0 x4.toNatClampNeg)) 12 rfl ⟨((h.2 c6).2 c7).1, ((h.2 c6).2 c7).2.1, trivial⟩ ?_
      obtain ⟨σ1, eσ1⟩ : ∃ z, z = pI σ 65 0 (((4 : Int32) * x1) + x4).toNatClampNeg (gI σ 63 0 x4.toNatClampNeg) := ⟨_, rfl⟩
      rw [← eσ1]
      refine WS.run (C := []) (pc' := 71) (L' := [vR 51 0, vI x1, vI x2, vI x3, vI (x4 + (1 : Int32))]) (S' := []) (σ' := σ1) 2 rfl trivial ?_
      exact (((h.2 c6).2 c7).2.2 σ1 eσ1)
set_option maxRecDepth 4000 in
set_option maxHeartbeats 400000 in
theorem b_MD_stands_0 {d : Nat} {σ : Mem} {Post : Option AV → Mem → Prop} {x1 x2 x3 : Int32} (h : vp_in x1 10 ∧ (((gI σ 64 0 x1.toNatClampNeg) = 0 → Post (some (vI (0 : Int32))) σ) ∧ (¬ ((gI σ 64 0 x1.toNatClampNeg) = 0) → vp_in x1 10 ∧ vp_in x2 8 ∧ (((x3 + (gI σ 64 0 x1.toNatClampNeg)) ≤ (gI σ 67 0 x2.toNatClampNeg) → WS d M_MD_stands 31 [vR 51 0, vI x1, vI x2, vI x3, vI (0 : Int32)] [] σ Post) ∧ (¬ ((x3 + (gI σ 64 0 x1.toNatClampNeg)) ≤ (gI σ 67 0 x2.toNatClampNeg)) → Post (some (vI (0 : Int32))) σ))))) : WS d M_MD_stands 0 [vR 51 0, vI x1, vI x2, vI x3, vU] [] σ Post := by
  refine WS.run (C := [vp_in x1 10]) (pc' := 6) (L' := [vR 51 0, vI x1, vI x2, vI x3, vU]) (S' := [vI (gI σ 64 0 x1.toNatClampNeg)]) (σ' := σ) 4 rfl ⟨h.1, trivial⟩ ?_
  refine WS.br (P := (gI σ 64 0 x1.toNatClampNeg) = 0) (a := 26) (b := 9) (S' := []) rfl (fun c1 => ?_) (fun c1 => ?_)
  · refine WS.run (C := []) (pc' := 27) (L' := [vR 51 0, vI x1, vI x2, vI x3, vU]) (S' := [vI (0 : Int32)]) (σ' := σ) 1 rfl trivial ?_
    exact WS.ret rfl rfl (by decide) rfl (h.2.1 c1)
  · refine WS.run (C := [vp_in x1 10, vp_in x2 8]) (pc' := 23) (L' := [vR 51 0, vI x1, vI x2, vI x3, vU]) (S' := [vI (gI σ 67 0 x2.toNatClampNeg), vI (x3 + (gI σ 64 0 x1.toNatClampNeg))]) (σ' := σ) 10 rfl ⟨(h.2.2 c1).1, (h.2.2 c1).2.1, trivial⟩ ?_
    refine WS.br (P := (x3 + (gI σ 64 0 x1.toNatClampNeg)) ≤ (gI σ 67 0 x2.toNatClampNeg)) (a := 28) (b := 26) (S' := []) rfl (fun c2 => ?_) (fun c2 => ?_)
    · refine WS.run (C := []) (pc' := 31) (L' := [vR 51 0, vI x1, vI x2, vI x3, vI (0 : Int32)]) (S' := []) (σ' := σ) 2 rfl trivial ?_
      exact ((h.2.2 c1).2.2.1 c2)
    · refine WS.run (C := []) (pc' := 27) (L' := [vR 51 0, vI x1, vI x2, vI x3, vU]) (S' := [vI (0 : Int32)]) (σ' := σ) 1 rfl trivial ?_
      exact WS.ret rfl rfl (by decide) rfl ((h.2.2 c1).2.2.2 c2)
set_option maxRecDepth 4000 in
set_option maxHeartbeats 400000 in
theorem b_MD_stands_31 {d : Nat} {σ : Mem} {Post : Option AV → Mem → Prop} {x1 x2 x3 x4 : Int32} (h : vp_in x1 10 ∧ (((gI σ 64 0 x1.toNatClampNeg) ≤ x4 → Post (some (vI (1 : Int32))) σ) ∧ (¬ ((gI σ 64 0 x1.toNatClampNeg) ≤ x4) → vp_in ((((12 : Int32) * x2) + x3) + x4) 96 ∧ vp_in (((4 : Int32) * x1) + x4) 40 ∧ (((gI σ 68 0 ((((12 : Int32) * x2) + x3) + x4).toNatClampNeg) = (gI σ 65 0 (((4 : Int32) * x1) + x4).toNatClampNeg) → WS d M_MD_stands 31 [vR 51 0, vI x1, vI x2, vI x3, vI (x4 + (1 : Int32))] [] σ Post) ∧ (¬ ((gI σ 68 0 ((((12 : Int32) * x2) + x3) + x4).toNatClampNeg) = (gI σ 65 0 (((4 : Int32) * x1) + x4).toNatClampNeg)) → Post (some (vI (0 : Int32))) σ))))) : WS d M_MD_stands 31 [vR 51 0, vI x1, vI x2, vI x3, vI x4] [] σ Post := by
  refine WS.run (C := [vp_in x1 10]) (pc' := 39) (L' := [vR 51 0, vI x1, vI x2, vI x3, vI x4]) (S' := [vI (gI σ 64 0 x1.toNatClampNeg), vI x4]) (σ' := σ) 5 rfl ⟨h.1, trivial⟩ ?_
  refine WS.br (P := (gI σ 64 0 x1.toNatClampNeg) ≤ x4) (a := 78) (b := 42) (S' := []) rfl (fun c3 => ?_) (fun c3 => ?_)
  · refine WS.run (C := []) (pc' := 79) (L' := [vR 51 0, vI x1, vI x2, vI x3, vI x4]) (S' := [vI (1 : Int32)]) (σ' := σ) 1 rfl trivial ?_
    exact WS.ret rfl rfl (by decide) rfl (h.2.1 c3)
  · refine WS.run (C := [vp_in ((((12 : Int32) * x2) + x3) + x4) 96, vp_in (((4 : Int32) * x1) + x4) 40]) (pc' := 67) (L' := [vR 51 0, vI x1, vI x2, vI x3, vI x4]) (S' := [vI (gI σ 65 0 (((4 : Int32) * x1) + x4).toNatClampNeg), vI (gI σ 68 0 ((((12 : Int32) * x2) + x3) + x4).toNatClampNeg)]) (σ' := σ) 18 rfl ⟨(h.2.2 c3).1, (h.2.2 c3).2.1, trivial⟩ ?_
    refine WS.br (P := (gI σ 68 0 ((((12 : Int32) * x2) + x3) + x4).toNatClampNeg) = (gI σ 65 0 (((4 : Int32) * x1) + x4).toNatClampNeg)) (a := 72) (b := 70) (S' := []) rfl (fun c4 => ?_) (fun c4 => ?_)
    · refine WS.run (C := []) (pc' := 31) (L' := [vR 51 0, vI x1, vI x2, vI x3, vI (x4 + (1 : Int32))]) (S' := []) (σ' := σ) 2 rfl trivial ?_
      exact ((h.2.2 c3).2.2.1 c4)
    · refine WS.run (C := []) (pc' := 71) (L' := [vR 51 0, vI x1, vI x2, vI x3, vI x4]) (S' := [vI (0 : Int32)]) (σ' := σ) 1 rfl trivial ?_
      exact WS.ret rfl rfl (by decide) rfl ((h.2.2 c3).2.2.2 c4)
set_option maxRecDepth 4000 in
set_option maxHeartbeats 400000 in
theorem b_MD_writes_0 {d : Nat} {σ : Mem} {Post : Option AV → Mem → Prop} {x1 : Int32} (h : vp_in x1 8 ∧ vp_in (gI σ 67 0 x1.toNatClampNeg) 13 ∧ (∀ σ1 : Mem, σ1 = pI σ 72 0 (gI σ 67 0 x1.toNatClampNeg).toNatClampNeg (0 : Int32) → WS d M_MD_writes 18 [vR 51 0, vI x1, vI (gI σ 67 0 x1.toNatClampNeg), vI ((gI σ 67 0 x1.toNatClampNeg) - (1 : Int32)), vU, vU, vU] [] σ1 Post)) : WS d M_MD_writes 0 [vR 51 0, vI x1, vU, vU, vU, vU, vU] [] σ Post := by
  refine WS.run (C := [vp_in x1 8, vp_in (gI σ 67 0 x1.toNatClampNeg) 13]) (pc' := 14) (L' := [vR 51 0, vI x1, vI (gI σ 67 0 x1.toNatClampNeg), vU, vU, vU, vU]) (S' := []) (σ' := pI σ 72 0 (gI σ 67 0 x1.toNatClampNeg).toNatClampNeg (0 : Int32)) 10 rfl ⟨h.1, h.2.1, trivial⟩ ?_
  obtain ⟨σ1, eσ1⟩ : ∃ z, z = pI σ 72 0 (gI σ 67 0 x1.toNatClampNeg).toNatClampNeg (0 : Int32) := ⟨_, rfl⟩
  rw [← eσ1]
  refine WS.run (C := []) (pc' := 18) (L' := [vR 51 0, vI x1, vI (gI σ 67 0 x1.toNatClampNeg), vI ((gI σ 67 0 x1.toNatClampNeg) - (1 : Int32)), vU, vU, vU]) (S' := []) (σ' := σ1) 4 rfl trivial ?_
  exact (h.2.2 σ1 eσ1)
set_option maxRecDepth 4000 in
set_option maxHeartbeats 400000 in
theorem b_MD_writes_18 {d : Nat} {σ : Mem} {Post : Option AV → Mem → Prop} {x1 x2 x3 : Int32} {v4 : AV} (h : ((x3 < 0 → WS d M_MD_writes 123 [vR 51 0, vI x1, vI x2, vI (0 : Int32), vI (0 : Int32), vU, vU] [] σ Post) ∧ (¬ (x3 < 0) → vp_in (x3 + (1 : Int32)) 13 ∧ vp_in x3 13 ∧ (∀ σ1 : Mem, σ1 = pI σ 72 0 x3.toNatClampNeg ((gI σ 72 0 (x3 + (1 : Int32)).toNatClampNeg) + (1 : Int32)) → WS d M_MD_writes 41 [vR 51 0, vI x1, vI x2, vI x3, vI (0 : Int32), vU, vU] [] σ1 Post)))) : WS d M_MD_writes 18 [vR 51 0, vI x1, vI x2, vI x3, v4, vU, vU] [] σ Post := by
  refine WS.run (C := []) (pc' := 19) (L' := [vR 51 0, vI x1, vI x2, vI x3, v4, vU, vU]) (S' := [vI x3]) (σ' := σ) 1 rfl trivial ?_
  refine WS.br (P := x3 < 0) (a := 118) (b := 22) (S' := []) rfl (fun c1 => ?_) (fun c1 => ?_)
  · refine WS.run (C := []) (pc' := 123) (L' := [vR 51 0, vI x1, vI x2, vI (0 : Int32), vI (0 : Int32), vU, vU]) (S' := []) (σ' := σ) 4 rfl trivial ?_
    exact (h.1 c1)
  · refine WS.run (C := [vp_in (x3 + (1 : Int32)) 13, vp_in x3 13]) (pc' := 38) (L' := [vR 51 0, vI x1, vI x2, vI x3, v4, vU, vU]) (S' := []) (σ' := pI σ 72 0 x3.toNatClampNeg ((gI σ 72 0 (x3 + (1 : Int32)).toNatClampNeg) + (1 : Int32))) 12 rfl ⟨(h.2 c1).1, (h.2 c1).2.1, trivial⟩ ?_
    obtain ⟨σ1, eσ1⟩ : ∃ z, z = pI σ 72 0 x3.toNatClampNeg ((gI σ 72 0 (x3 + (1 : Int32)).toNatClampNeg) + (1 : Int32)) := ⟨_, rfl⟩
    rw [← eσ1]
    refine WS.run (C := []) (pc' := 41) (L' := [vR 51 0, vI x1, vI x2, vI x3, vI (0 : Int32), vU, vU]) (S' := []) (σ' := σ1) 2 rfl trivial ?_
    exact ((h.2 c1).2.2 σ1 eσ1)
set_option maxRecDepth 4000 in
set_option maxHeartbeats 400000 in
theorem b_MD_writes_41 {d : Nat} {σ : Mem} {Post : Option AV → Mem → Prop} {x1 x2 x3 x4 : Int32} (h : (((10 : Int32) ≤ x4 → WS (d + 1) M_MD_writes 18 [vR 51 0, vI x1, vI x2, vI (x3 + (-1 : Int32)), vI x4, vU, vU] [] σ Post) ∧ (¬ ((10 : Int32) ≤ x4) → MM d M_MD_stands [vR 51 0, vI x4, vI x1, vI x3] σ (fun r τ => WS (d + 1) M_MD_writes 56 [vR 51 0, vI x1, vI x2, vI x3, vI x4, vU, vU] (r.toList ++ []) τ Post)))) : WS (d + 1) M_MD_writes 41 [vR 51 0, vI x1, vI x2, vI x3, vI x4, vU, vU] [] σ Post := by
  refine WS.run (C := []) (pc' := 45) (L' := [vR 51 0, vI x1, vI x2, vI x3, vI x4, vU, vU]) (S' := [vI (10 : Int32), vI x4]) (σ' := σ) 2 rfl trivial ?_
  refine WS.br (P := (10 : Int32) ≤ x4) (a := 112) (b := 48) (S' := []) rfl (fun c2 => ?_) (fun c2 => ?_)
  · refine WS.run (C := []) (pc' := 18) (L' := [vR 51 0, vI x1, vI x2, vI (x3 + (-1 : Int32)), vI x4, vU, vU]) (S' := []) (σ' := σ) 2 rfl trivial ?_
    exact (h.1 c2)
  · refine WS.run (C := []) (pc' := 53) (L' := [vR 51 0, vI x1, vI x2, vI x3, vI x4, vU, vU]) (S' := [vI x3, vI x1, vI x4, vR 51 0]) (σ' := σ) 4 rfl trivial ?_
    refine WS.callV M_MD_stands (k := 51) (i := 0) (as := [vI x4, vI x1, vI x3]) (rest := []) rfl lk_11_205 rfl rfl rfl (Nat.le_of_ble_eq_true rfl) ?_
    exact (h.2 c2)
set_option maxRecDepth 4000 in
set_option maxHeartbeats 400000 in
theorem b_MD_writes_56t {d : Nat} {σ : Mem} {Post : Option AV → Mem → Prop} {x1 x2 x3 x4 : Int32} (h : vp_in x4 10 ∧ vp_in (x3 + (gI σ 64 0 x4.toNatClampNeg)) 13 ∧ vp_in x3 13 ∧ (((gI σ 72 0 x3.toNatClampNeg) ≤ ((gI σ 72 0 (x3 + (gI σ 64 0 x4.toNatClampNeg)).toNatClampNeg) + (1 : Int32)) → WS d M_MD_writes 41 [vR 51 0, vI x1, vI x2, vI x3, vI (x4 + (1 : Int32)), vU, vU] [] σ Post) ∧ (¬ ((gI σ 72 0 x3.toNatClampNeg) ≤ ((gI σ 72 0 (x3 + (gI σ 64 0 x4.toNatClampNeg)).toNatClampNeg) + (1 : Int32))) → vp_in x4 10 ∧ vp_in (x3 + (gI σ 64 0 x4.toNatClampNeg)) 13 ∧ vp_in x3 13 ∧ (∀ σ1 : Mem, σ1 = pI σ 72 0 x3.toNatClampNeg ((gI σ 72 0 (x3 + (gI σ 64 0 x4.toNatClampNeg)).toNatClampNeg) + (1 : Int32)) → WS d M_MD_writes 41 [vR 51 0, vI x1, vI x2, vI x3, vI (x4 + (1 : Int32)), vU, vU] [] σ1 Post)))) : WS d M_MD_writes 56 [vR 51 0, vI x1, vI x2, vI x3, vI x4, vU, vU] [vI (1 : Int32)] σ Post := by
  refine WS.br (P := (1 : Int32) = 0) (a := 106) (b := 59) (S' := []) rfl (fun cc => absurd cc (by decide)) (fun _ => ?_)
  refine WS.run (C := [vp_in x4 10, vp_in (x3 + (gI σ 64 0 x4.toNatClampNeg)) 13, vp_in x3 13]) (pc' := 81) (L' := [vR 51 0, vI x1, vI x2, vI x3, vI x4, vU, vU]) (S' := [vI (gI σ 72 0 x3.toNatClampNeg), vI ((gI σ 72 0 (x3 + (gI σ 64 0 x4.toNatClampNeg)).toNatClampNeg) + (1 : Int32))]) (σ' := σ) 15 rfl ⟨h.1, h.2.1, h.2.2.1, trivial⟩ ?_
  refine WS.br (P := (gI σ 72 0 x3.toNatClampNeg) ≤ ((gI σ 72 0 (x3 + (gI σ 64 0 x4.toNatClampNeg)).toNatClampNeg) + (1 : Int32))) (a := 106) (b := 84) (S' := []) rfl (fun c3 => ?_) (fun c3 => ?_)
  · refine WS.run (C := []) (pc' := 41) (L' := [vR 51 0, vI x1, vI x2, vI x3, vI (x4 + (1 : Int32)), vU, vU]) (S' := []) (σ' := σ) 2 rfl trivial ?_
    exact (h.2.2.2.1 c3)
  · refine WS.run (C := [vp_in x4 10, vp_in (x3 + (gI σ 64 0 x4.toNatClampNeg)) 13, vp_in x3 13]) (pc' := 106) (L' := [vR 51 0, vI x1, vI x2, vI x3, vI x4, vU, vU]) (S' := []) (σ' := pI σ 72 0 x3.toNatClampNeg ((gI σ 72 0 (x3 + (gI σ 64 0 x4.toNatClampNeg)).toNatClampNeg) + (1 : Int32))) 15 rfl ⟨(h.2.2.2.2 c3).1, (h.2.2.2.2 c3).2.1, (h.2.2.2.2 c3).2.2.1, trivial⟩ ?_
    obtain ⟨σ1, eσ1⟩ : ∃ z, z = pI σ 72 0 x3.toNatClampNeg ((gI σ 72 0 (x3 + (gI σ 64 0 x4.toNatClampNeg)).toNatClampNeg) + (1 : Int32)) := ⟨_, rfl⟩
    rw [← eσ1]
    refine WS.run (C := []) (pc' := 41) (L' := [vR 51 0, vI x1, vI x2, vI x3, vI (x4 + (1 : Int32)), vU, vU]) (S' := []) (σ' := σ1) 2 rfl trivial ?_
    exact ((h.2.2.2.2 c3).2.2.2 σ1 eσ1)
set_option maxRecDepth 4000 in
set_option maxHeartbeats 400000 in
theorem b_MD_writes_56f {d : Nat} {σ : Mem} {Post : Option AV → Mem → Prop} {x1 x2 x3 x4 : Int32} (h : WS d M_MD_writes 41 [vR 51 0, vI x1, vI x2, vI x3, vI (x4 + (1 : Int32)), vU, vU] [] σ Post) : WS d M_MD_writes 56 [vR 51 0, vI x1, vI x2, vI x3, vI x4, vU, vU] [vI (0 : Int32)] σ Post := by
  refine WS.br (P := (0 : Int32) = 0) (a := 106) (b := 59) (S' := []) rfl (fun _ => ?_) (fun cc => absurd (by decide) cc)
  refine WS.run (C := []) (pc' := 41) (L' := [vR 51 0, vI x1, vI x2, vI x3, vI (x4 + (1 : Int32)), vU, vU]) (S' := []) (σ' := σ) 2 rfl trivial ?_
  exact h
set_option maxRecDepth 4000 in
set_option maxHeartbeats 400000 in
theorem b_MD_writes_123 {d : Nat} {σ : Mem} {Post : Option AV → Mem → Prop} {x1 x2 x3 x4 : Int32} {v5 v6 : AV} (h : ((x2 ≤ x3 → vp_in (0 : Int32) 13 ∧ Post (some (vI (gI σ 72 0 (0 : Int32).toNatClampNeg))) σ) ∧ (¬ (x2 ≤ x3) → vp_in (((12 : Int32) * x1) + x3) 96 ∧ vp_in ((gI σ 68 0 (((12 : Int32) * x1) + x3).toNatClampNeg) - (97 : Int32)) 26 ∧ vp_in x4 12 ∧ (∀ σ1 : Mem, σ1 = pI σ 73 0 x4.toNatClampNeg (gI σ 62 0 ((gI σ 68 0 (((12 : Int32) * x1) + x3).toNatClampNeg) - (97 : Int32)).toNatClampNeg) → WS d M_MD_writes 160 [vR 51 0, vI x1, vI x2, vI x3, vI x4, vI (1 : Int32), vI (0 : Int32)] [] σ1 Post)))) : WS d M_MD_writes 123 [vR 51 0, vI x1, vI x2, vI x3, vI x4, v5, v6] [] σ Post := by
  refine WS.run (C := []) (pc' := 125) (L' := [vR 51 0, vI x1, vI x2, vI x3, vI x4, v5, v6]) (S' := [vI x2, vI x3]) (σ' := σ) 2 rfl trivial ?_
  refine WS.br (P := x2 ≤ x3) (a := 258) (b := 128) (S' := []) rfl (fun c4 => ?_) (fun c4 => ?_)
  · refine WS.run (C := [vp_in (0 : Int32) 13]) (pc' := 264) (L' := [vR 51 0, vI x1, vI x2, vI x3, vI x4, v5, v6]) (S' := [vI (gI σ 72 0 (0 : Int32).toNatClampNeg)]) (σ' := σ) 4 rfl ⟨(h.1 c4).1, trivial⟩ ?_
    exact WS.ret rfl rfl (by decide) rfl (h.1 c4).2
  · refine WS.run (C := [vp_in (((12 : Int32) * x1) + x3) 96, vp_in ((gI σ 68 0 (((12 : Int32) * x1) + x3).toNatClampNeg) - (97 : Int32)) 26, vp_in x4 12]) (pc' := 157) (L' := [vR 51 0, vI x1, vI x2, vI x3, vI x4, vI (1 : Int32), v6]) (S' := []) (σ' := pI σ 73 0 x4.toNatClampNeg (gI σ 62 0 ((gI σ 68 0 (((12 : Int32) * x1) + x3).toNatClampNeg) - (97 : Int32)).toNatClampNeg)) 19 rfl ⟨(h.2 c4).1, (h.2 c4).2.1, (h.2 c4).2.2.1, trivial⟩ ?_
    obtain ⟨σ1, eσ1⟩ : ∃ z, z = pI σ 73 0 x4.toNatClampNeg (gI σ 62 0 ((gI σ 68 0 (((12 : Int32) * x1) + x3).toNatClampNeg) - (97 : Int32)).toNatClampNeg) := ⟨_, rfl⟩
    rw [← eσ1]
    refine WS.run (C := []) (pc' := 160) (L' := [vR 51 0, vI x1, vI x2, vI x3, vI x4, vI (1 : Int32), vI (0 : Int32)]) (S' := []) (σ' := σ1) 2 rfl trivial ?_
    exact ((h.2 c4).2.2.2 σ1 eσ1)
set_option maxRecDepth 4000 in
set_option maxHeartbeats 400000 in
theorem b_MD_writes_160 {d : Nat} {σ : Mem} {Post : Option AV → Mem → Prop} {x1 x2 x3 x4 x5 x6 : Int32} (h : (((10 : Int32) ≤ x6 → WS (d + 1) M_MD_writes 123 [vR 51 0, vI x1, vI x2, vI (x3 + x5), vI (x4 + (1 : Int32)), vI x5, vI x6] [] σ Post) ∧ (¬ ((10 : Int32) ≤ x6) → MM d M_MD_stands [vR 51 0, vI x6, vI x1, vI x3] σ (fun r τ => WS (d + 1) M_MD_writes 175 [vR 51 0, vI x1, vI x2, vI x3, vI x4, vI x5, vI x6] (r.toList ++ []) τ Post)))) : WS (d + 1) M_MD_writes 160 [vR 51 0, vI x1, vI x2, vI x3, vI x4, vI x5, vI x6] [] σ Post := by
  refine WS.run (C := []) (pc' := 164) (L' := [vR 51 0, vI x1, vI x2, vI x3, vI x4, vI x5, vI x6]) (S' := [vI (10 : Int32), vI x6]) (σ' := σ) 2 rfl trivial ?_
  refine WS.br (P := (10 : Int32) ≤ x6) (a := 247) (b := 167) (S' := []) rfl (fun c5 => ?_) (fun c5 => ?_)
  · refine WS.run (C := []) (pc' := 123) (L' := [vR 51 0, vI x1, vI x2, vI (x3 + x5), vI (x4 + (1 : Int32)), vI x5, vI x6]) (S' := []) (σ' := σ) 6 rfl trivial ?_
    exact (h.1 c5)
  · refine WS.run (C := []) (pc' := 172) (L' := [vR 51 0, vI x1, vI x2, vI x3, vI x4, vI x5, vI x6]) (S' := [vI x3, vI x1, vI x6, vR 51 0]) (σ' := σ) 4 rfl trivial ?_
    refine WS.callV M_MD_stands (k := 51) (i := 0) (as := [vI x6, vI x1, vI x3]) (rest := []) rfl lk_11_205 rfl rfl rfl (Nat.le_of_ble_eq_true rfl) ?_
    exact (h.2 c5)
set_option maxRecDepth 4000 in
set_option maxHeartbeats 400000 in
theorem b_MD_writes_175t {d : Nat} {σ : Mem} {Post : Option AV → Mem → Prop} {x1 x2 x3 x4 x5 x6 : Int32} (h : vp_in x6 10 ∧ vp_in (x3 + (gI σ 64 0 x6.toNatClampNeg)) 13 ∧ vp_in x3 13 ∧ ((((gI σ 72 0 (x3 + (gI σ 64 0 x6.toNatClampNeg)).toNatClampNeg) + (1 : Int32)) = (gI σ 72 0 x3.toNatClampNeg) → vp_in x6 10 ∧ ((x5 < (gI σ 64 0 x6.toNatClampNeg) → vp_in x6 10 ∧ vp_in x6 10 ∧ vp_in x4 12 ∧ (∀ σ1 : Mem, σ1 = pI σ 73 0 x4.toNatClampNeg (gI σ 66 0 x6.toNatClampNeg) → WS d M_MD_writes 160 [vR 51 0, vI x1, vI x2, vI x3, vI x4, vI (gI σ 64 0 x6.toNatClampNeg), vI (x6 + (1 : Int32))] [] σ1 Post)) ∧ (¬ (x5 < (gI σ 64 0 x6.toNatClampNeg)) → WS d M_MD_writes 160 [vR 51 0, vI x1, vI x2, vI x3, vI x4, vI x5, vI (x6 + (1 : Int32))] [] σ Post))) ∧ (¬ (((gI σ 72 0 (x3 + (gI σ 64 0 x6.toNatClampNeg)).toNatClampNeg) + (1 : Int32)) = (gI σ 72 0 x3.toNatClampNeg)) → WS d M_MD_writes 160 [vR 51 0, vI x1, vI x2, vI x3, vI x4, vI x5, vI (x6 + (1 : Int32))] [] σ Post))) : WS d M_MD_writes 175 [vR 51 0, vI x1, vI x2, vI x3, vI x4, vI x5, vI x6] [vI (1 : Int32)] σ Post := by
  refine WS.br (P := (1 : Int32) = 0) (a := 241) (b := 178) (S' := []) rfl (fun cc => absurd cc (by decide)) (fun _ => ?_)
  refine WS.run (C := [vp_in x6 10, vp_in (x3 + (gI σ 64 0 x6.toNatClampNeg)) 13, vp_in x3 13]) (pc' := 200) (L' := [vR 51 0, vI x1, vI x2, vI x3, vI x4, vI x5, vI x6]) (S' := [vI (gI σ 72 0 x3.toNatClampNeg), vI ((gI σ 72 0 (x3 + (gI σ 64 0 x6.toNatClampNeg)).toNatClampNeg) + (1 : Int32))]) (σ' := σ) 15 rfl ⟨h.1, h.2.1, h.2.2.1, trivial⟩ ?_
  refine WS.br (P := ((gI σ 72 0 (x3 + (gI σ 64 0 x6.toNatClampNeg)).toNatClampNeg) + (1 : Int32)) = (gI σ 72 0 x3.toNatClampNeg)) (a := 203) (b := 241) (S' := []) rfl (fun c6 => ?_) (fun c6 => ?_)
  · refine WS.run (C := [vp_in x6 10]) (pc' := 212) (L' := [vR 51 0, vI x1, vI x2, vI x3, vI x4, vI x5, vI x6]) (S' := [vI x5, vI (gI σ 64 0 x6.toNatClampNeg)]) (σ' := σ) 5 rfl ⟨(h.2.2.2.1 c6).1, trivial⟩ ?_
    refine WS.br (P := x5 < (gI σ 64 0 x6.toNatClampNeg)) (a := 218) (b := 215) (S' := []) rfl (fun c7 => ?_) (fun c7 => ?_)
    · refine WS.run (C := [vp_in x6 10, vp_in x6 10, vp_in x4 12]) (pc' := 241) (L' := [vR 51 0, vI x1, vI x2, vI x3, vI x4, vI (gI σ 64 0 x6.toNatClampNeg), vI x6]) (S' := []) (σ' := pI σ 73 0 x4.toNatClampNeg (gI σ 66 0 x6.toNatClampNeg)) 13 rfl ⟨((h.2.2.2.1 c6).2.1 c7).1, ((h.2.2.2.1 c6).2.1 c7).2.1, ((h.2.2.2.1 c6).2.1 c7).2.2.1, trivial⟩ ?_
      obtain ⟨σ1, eσ1⟩ : ∃ z, z = pI σ 73 0 x4.toNatClampNeg (gI σ 66 0 x6.toNatClampNeg) := ⟨_, rfl⟩
      rw [← eσ1]
      refine WS.run (C := []) (pc' := 160) (L' := [vR 51 0, vI x1, vI x2, vI x3, vI x4, vI (gI σ 64 0 x6.toNatClampNeg), vI (x6 + (1 : Int32))]) (S' := []) (σ' := σ1) 2 rfl trivial ?_
      exact (((h.2.2.2.1 c6).2.1 c7).2.2.2 σ1 eσ1)
    · refine WS.run (C := []) (pc' := 160) (L' := [vR 51 0, vI x1, vI x2, vI x3, vI x4, vI x5, vI (x6 + (1 : Int32))]) (S' := []) (σ' := σ) 3 rfl trivial ?_
      exact ((h.2.2.2.1 c6).2.2 c7)
  · refine WS.run (C := []) (pc' := 160) (L' := [vR 51 0, vI x1, vI x2, vI x3, vI x4, vI x5, vI (x6 + (1 : Int32))]) (S' := []) (σ' := σ) 2 rfl trivial ?_
    exact (h.2.2.2.2 c6)
set_option maxRecDepth 4000 in
set_option maxHeartbeats 400000 in
theorem b_MD_writes_175f {d : Nat} {σ : Mem} {Post : Option AV → Mem → Prop} {x1 x2 x3 x4 x5 x6 : Int32} (h : WS d M_MD_writes 160 [vR 51 0, vI x1, vI x2, vI x3, vI x4, vI x5, vI (x6 + (1 : Int32))] [] σ Post) : WS d M_MD_writes 175 [vR 51 0, vI x1, vI x2, vI x3, vI x4, vI x5, vI x6] [vI (0 : Int32)] σ Post := by
  refine WS.br (P := (0 : Int32) = 0) (a := 241) (b := 178) (S' := []) rfl (fun _ => ?_) (fun cc => absurd (by decide) cc)
  refine WS.run (C := []) (pc' := 160) (L' := [vR 51 0, vI x1, vI x2, vI x3, vI x4, vI x5, vI (x6 + (1 : Int32))]) (S' := []) (σ' := σ) 2 rfl trivial ?_
  exact h
set_option maxRecDepth 4000 in
set_option maxHeartbeats 400000 in
theorem b_MD_name_0 {d : Nat} {σ : Mem} {Post : Option AV → Mem → Prop} {x1 x2 x3 x4 : Int32} (h : (∀ σ1 : Mem, σ1 = pI σ 51 0 15 (0 : Int32) → MM d M_MD_isIn [vI x1, vI (0 : Int32), vI (7 : Int32)] σ1 (fun r τ => WS (d + 1) M_MD_name 18 [vR 51 0, vI x1, vI x2, vI x3, vI x4, vI (gI σ 51 0 15), vU] (r.toList ++ []) τ Post))) : WS (d + 1) M_MD_name 0 [vR 51 0, vI x1, vI x2, vI x3, vI x4, vU, vU] [] σ Post := by
  refine WS.run (C := []) (pc' := 11) (L' := [vR 51 0, vI x1, vI x2, vI x3, vI x4, vI (gI σ 51 0 15), vU]) (S' := []) (σ' := pI σ 51 0 15 (0 : Int32)) 6 rfl trivial ?_
  obtain ⟨σ1, eσ1⟩ : ∃ z, z = pI σ 51 0 15 (0 : Int32) := ⟨_, rfl⟩
  rw [← eσ1]
  refine WS.run (C := []) (pc' := 15) (L' := [vR 51 0, vI x1, vI x2, vI x3, vI x4, vI (gI σ 51 0 15), vU]) (S' := [vI (7 : Int32), vI (0 : Int32), vI x1]) (σ' := σ1) 3 rfl trivial ?_
  refine WS.callS M_MD_isIn (as := [vI x1, vI (0 : Int32), vI (7 : Int32)]) (rest := []) rfl lk_11_114 rfl rfl (Nat.le_of_ble_eq_true rfl) ?_
  exact (h σ1 eσ1)
set_option maxRecDepth 4000 in
set_option maxHeartbeats 400000 in
theorem b_MD_name_18t {d : Nat} {σ : Mem} {Post : Option AV → Mem → Prop} {x1 x2 x3 x4 x5 : Int32} (h : ((x5 = 0 → Post (some (vI (-1 : Int32))) σ) ∧ (¬ (x5 = 0) → MM d M_MD_isIn [vI x2, vI (0 : Int32), vI (400 : Int32)] σ (fun r τ => WS (d + 1) M_MD_name 34 [vR 51 0, vI x1, vI x2, vI x3, vI x4, vI x5, vU] (r.toList ++ []) τ Post)))) : WS (d + 1) M_MD_name 18 [vR 51 0, vI x1, vI x2, vI x3, vI x4, vI x5, vU] [vI (1 : Int32)] σ Post := by
  refine WS.br (P := (1 : Int32) = 0) (a := 60) (b := 21) (S' := []) rfl (fun cc => absurd cc (by decide)) (fun _ => ?_)
  refine WS.run (C := []) (pc' := 23) (L' := [vR 51 0, vI x1, vI x2, vI x3, vI x4, vI x5, vU]) (S' := [vI x5]) (σ' := σ) 1 rfl trivial ?_
  refine WS.br (P := x5 = 0) (a := 60) (b := 26) (S' := []) rfl (fun c1 => ?_) (fun c1 => ?_)
  · refine WS.run (C := []) (pc' := 61) (L' := [vR 51 0, vI x1, vI x2, vI x3, vI x4, vI x5, vU]) (S' := [vI (-1 : Int32)]) (σ' := σ) 1 rfl trivial ?_
    exact WS.ret rfl rfl (by decide) rfl (h.1 c1)
  · refine WS.run (C := []) (pc' := 31) (L' := [vR 51 0, vI x1, vI x2, vI x3, vI x4, vI x5, vU]) (S' := [vI (400 : Int32), vI (0 : Int32), vI x2]) (σ' := σ) 3 rfl trivial ?_
    refine WS.callS M_MD_isIn (as := [vI x2, vI (0 : Int32), vI (400 : Int32)]) (rest := []) rfl lk_11_114 rfl rfl (Nat.le_of_ble_eq_true rfl) ?_
    exact (h.2 c1)
set_option maxRecDepth 4000 in
set_option maxHeartbeats 400000 in
theorem b_MD_name_18f {d : Nat} {σ : Mem} {Post : Option AV → Mem → Prop} {x1 x2 x3 x4 x5 : Int32} (h : Post (some (vI (-1 : Int32))) σ) : WS d M_MD_name 18 [vR 51 0, vI x1, vI x2, vI x3, vI x4, vI x5, vU] [vI (0 : Int32)] σ Post := by
  refine WS.br (P := (0 : Int32) = 0) (a := 60) (b := 21) (S' := []) rfl (fun _ => ?_) (fun cc => absurd (by decide) cc)
  refine WS.run (C := []) (pc' := 61) (L' := [vR 51 0, vI x1, vI x2, vI x3, vI x4, vI x5, vU]) (S' := [vI (-1 : Int32)]) (σ' := σ) 1 rfl trivial ?_
  exact WS.ret rfl rfl (by decide) rfl h
set_option maxRecDepth 4000 in
set_option maxHeartbeats 400000 in
theorem b_MD_name_34t {d : Nat} {σ : Mem} {Post : Option AV → Mem → Prop} {x1 x2 x3 x4 x5 : Int32} (h : MM d M_MD_isIn [vI x3, vI (0 : Int32), vI (400 : Int32)] σ (fun r τ => WS (d + 1) M_MD_name 45 [vR 51 0, vI x1, vI x2, vI x3, vI x4, vI x5, vU] (r.toList ++ []) τ Post)) : WS (d + 1) M_MD_name 34 [vR 51 0, vI x1, vI x2, vI x3, vI x4, vI x5, vU] [vI (1 : Int32)] σ Post := by
  refine WS.br (P := (1 : Int32) = 0) (a := 60) (b := 37) (S' := []) rfl (fun cc => absurd cc (by decide)) (fun _ => ?_)
  refine WS.run (C := []) (pc' := 42) (L' := [vR 51 0, vI x1, vI x2, vI x3, vI x4, vI x5, vU]) (S' := [vI (400 : Int32), vI (0 : Int32), vI x3]) (σ' := σ) 3 rfl trivial ?_
  refine WS.callS M_MD_isIn (as := [vI x3, vI (0 : Int32), vI (400 : Int32)]) (rest := []) rfl lk_11_114 rfl rfl (Nat.le_of_ble_eq_true rfl) ?_
  exact h
set_option maxRecDepth 4000 in
set_option maxHeartbeats 400000 in
theorem b_MD_name_34f {d : Nat} {σ : Mem} {Post : Option AV → Mem → Prop} {x1 x2 x3 x4 x5 : Int32} (h : Post (some (vI (-1 : Int32))) σ) : WS d M_MD_name 34 [vR 51 0, vI x1, vI x2, vI x3, vI x4, vI x5, vU] [vI (0 : Int32)] σ Post := by
  refine WS.br (P := (0 : Int32) = 0) (a := 60) (b := 37) (S' := []) rfl (fun _ => ?_) (fun cc => absurd (by decide) cc)
  refine WS.run (C := []) (pc' := 61) (L' := [vR 51 0, vI x1, vI x2, vI x3, vI x4, vI x5, vU]) (S' := [vI (-1 : Int32)]) (σ' := σ) 1 rfl trivial ?_
  exact WS.ret rfl rfl (by decide) rfl h
set_option maxRecDepth 4000 in
set_option maxHeartbeats 400000 in
theorem b_MD_name_45t {d : Nat} {σ : Mem} {Post : Option AV → Mem → Prop} {x1 x2 x3 x4 x5 : Int32} (h : MM d M_MD_isIn [vI x4, vI (0 : Int32), vI (1000 : Int32)] σ (fun r τ => WS (d + 1) M_MD_name 57 [vR 51 0, vI x1, vI x2, vI x3, vI x4, vI x5, vU] (r.toList ++ []) τ Post)) : WS (d + 1) M_MD_name 45 [vR 51 0, vI x1, vI x2, vI x3, vI x4, vI x5, vU] [vI (1 : Int32)] σ Post := by
  refine WS.br (P := (1 : Int32) = 0) (a := 60) (b := 48) (S' := []) rfl (fun cc => absurd cc (by decide)) (fun _ => ?_)
  refine WS.run (C := []) (pc' := 54) (L' := [vR 51 0, vI x1, vI x2, vI x3, vI x4, vI x5, vU]) (S' := [vI (1000 : Int32), vI (0 : Int32), vI x4]) (σ' := σ) 3 rfl trivial ?_
  refine WS.callS M_MD_isIn (as := [vI x4, vI (0 : Int32), vI (1000 : Int32)]) (rest := []) rfl lk_11_114 rfl rfl (Nat.le_of_ble_eq_true rfl) ?_
  exact h
set_option maxRecDepth 4000 in
set_option maxHeartbeats 400000 in
theorem b_MD_name_45f {d : Nat} {σ : Mem} {Post : Option AV → Mem → Prop} {x1 x2 x3 x4 x5 : Int32} (h : Post (some (vI (-1 : Int32))) σ) : WS d M_MD_name 45 [vR 51 0, vI x1, vI x2, vI x3, vI x4, vI x5, vU] [vI (0 : Int32)] σ Post := by
  refine WS.br (P := (0 : Int32) = 0) (a := 60) (b := 48) (S' := []) rfl (fun _ => ?_) (fun cc => absurd (by decide) cc)
  refine WS.run (C := []) (pc' := 61) (L' := [vR 51 0, vI x1, vI x2, vI x3, vI x4, vI x5, vU]) (S' := [vI (-1 : Int32)]) (σ' := σ) 1 rfl trivial ?_
  exact WS.ret rfl rfl (by decide) rfl h
set_option maxRecDepth 4000 in
set_option maxHeartbeats 400000 in
theorem b_MD_name_57t {d : Nat} {σ : Mem} {Post : Option AV → Mem → Prop} {x1 x2 x3 x4 x5 : Int32} (h : vp_in x1 8 ∧ (∀ σ1 : Mem, σ1 = pI σ 67 0 x1.toNatClampNeg x5 → WS d M_MD_name 73 [vR 51 0, vI x1, vI x2, vI x3, vI x4, vI x5, vI (0 : Int32)] [] σ1 Post)) : WS d M_MD_name 57 [vR 51 0, vI x1, vI x2, vI x3, vI x4, vI x5, vU] [vI (1 : Int32)] σ Post := by
  refine WS.br (P := (1 : Int32) = 0) (a := 60) (b := 62) (S' := []) rfl (fun cc => absurd cc (by decide)) (fun _ => ?_)
  refine WS.run (C := [vp_in x1 8]) (pc' := 70) (L' := [vR 51 0, vI x1, vI x2, vI x3, vI x4, vI x5, vU]) (S' := []) (σ' := pI σ 67 0 x1.toNatClampNeg x5) 5 rfl ⟨h.1, trivial⟩ ?_
  obtain ⟨σ1, eσ1⟩ : ∃ z, z = pI σ 67 0 x1.toNatClampNeg x5 := ⟨_, rfl⟩
  rw [← eσ1]
  refine WS.run (C := []) (pc' := 73) (L' := [vR 51 0, vI x1, vI x2, vI x3, vI x4, vI x5, vI (0 : Int32)]) (S' := []) (σ' := σ1) 2 rfl trivial ?_
  exact (h.2 σ1 eσ1)
set_option maxRecDepth 4000 in
set_option maxHeartbeats 400000 in
theorem b_MD_name_57f {d : Nat} {σ : Mem} {Post : Option AV → Mem → Prop} {x1 x2 x3 x4 x5 : Int32} (h : Post (some (vI (-1 : Int32))) σ) : WS d M_MD_name 57 [vR 51 0, vI x1, vI x2, vI x3, vI x4, vI x5, vU] [vI (0 : Int32)] σ Post := by
  refine WS.br (P := (0 : Int32) = 0) (a := 60) (b := 62) (S' := []) rfl (fun _ => ?_) (fun cc => absurd (by decide) cc)
  refine WS.run (C := []) (pc' := 61) (L' := [vR 51 0, vI x1, vI x2, vI x3, vI x4, vI x5, vU]) (S' := [vI (-1 : Int32)]) (σ' := σ) 1 rfl trivial ?_
  exact WS.ret rfl rfl (by decide) rfl h
set_option maxRecDepth 4000 in
set_option maxHeartbeats 400000 in
theorem b_MD_name_73 {d : Nat} {σ : Mem} {Post : Option AV → Mem → Prop} {x1 x2 x3 x4 x5 x6 : Int32} (h : ((x5 ≤ x6 → vp_in x1 8 ∧ (∀ σ1 : Mem, σ1 = pI σ 69 0 x1.toNatClampNeg x2 → vp_in x1 8 ∧ (∀ σ2 : Mem, σ2 = pI σ1 70 0 x1.toNatClampNeg x3 → vp_in x1 8 ∧ (∀ σ3 : Mem, σ3 = pI σ2 71 0 x1.toNatClampNeg x4 → MM d M_MD_writes [vR 51 0, vI x1] σ3 (fun r τ => WS (d + 1) M_MD_name 132 [vR 51 0, vI x1, vI x2, vI x3, vI x4, vI x5, vI x6] (r.toList ++ []) τ Post))))) ∧ (¬ (x5 ≤ x6) → vp_in x6 12 ∧ vp_in (((12 : Int32) * x1) + x6) 96 ∧ (∀ σ4 : Mem, σ4 = pI σ 68 0 (((12 : Int32) * x1) + x6).toNatClampNeg (gI σ 63 0 x6.toNatClampNeg) → WS (d + 1) M_MD_name 73 [vR 51 0, vI x1, vI x2, vI x3, vI x4, vI x5, vI (x6 + (1 : Int32))] [] σ4 Post)))) : WS (d + 1) M_MD_name 73 [vR 51 0, vI x1, vI x2, vI x3, vI x4, vI x5, vI x6] [] σ Post := by
  refine WS.run (C := []) (pc' := 77) (L' := [vR 51 0, vI x1, vI x2, vI x3, vI x4, vI x5, vI x6]) (S' := [vI x5, vI x6]) (σ' := σ) 2 rfl trivial ?_
  refine WS.br (P := x5 ≤ x6) (a := 105) (b := 80) (S' := []) rfl (fun c2 => ?_) (fun c2 => ?_)
  · refine WS.run (C := [vp_in x1 8]) (pc' := 112) (L' := [vR 51 0, vI x1, vI x2, vI x3, vI x4, vI x5, vI x6]) (S' := []) (σ' := pI σ 69 0 x1.toNatClampNeg x2) 5 rfl ⟨(h.1 c2).1, trivial⟩ ?_
    obtain ⟨σ1, eσ1⟩ : ∃ z, z = pI σ 69 0 x1.toNatClampNeg x2 := ⟨_, rfl⟩
    rw [← eσ1]
    refine WS.run (C := [vp_in x1 8]) (pc' := 119) (L' := [vR 51 0, vI x1, vI x2, vI x3, vI x4, vI x5, vI x6]) (S' := []) (σ' := pI σ1 70 0 x1.toNatClampNeg x3) 5 rfl ⟨((h.1 c2).2 σ1 eσ1).1, trivial⟩ ?_
    obtain ⟨σ2, eσ2⟩ : ∃ z, z = pI σ1 70 0 x1.toNatClampNeg x3 := ⟨_, rfl⟩
    rw [← eσ2]
    refine WS.run (C := [vp_in x1 8]) (pc' := 127) (L' := [vR 51 0, vI x1, vI x2, vI x3, vI x4, vI x5, vI x6]) (S' := []) (σ' := pI σ2 71 0 x1.toNatClampNeg x4) 5 rfl ⟨(((h.1 c2).2 σ1 eσ1).2 σ2 eσ2).1, trivial⟩ ?_
    obtain ⟨σ3, eσ3⟩ : ∃ z, z = pI σ2 71 0 x1.toNatClampNeg x4 := ⟨_, rfl⟩
    rw [← eσ3]
    refine WS.run (C := []) (pc' := 129) (L' := [vR 51 0, vI x1, vI x2, vI x3, vI x4, vI x5, vI x6]) (S' := [vI x1, vR 51 0]) (σ' := σ3) 2 rfl trivial ?_
    refine WS.callV M_MD_writes (k := 51) (i := 0) (as := [vI x1]) (rest := []) rfl lk_11_208 rfl rfl rfl (Nat.le_of_ble_eq_true rfl) ?_
    exact ((((h.1 c2).2 σ1 eσ1).2 σ2 eσ2).2 σ3 eσ3)
  · refine WS.run (C := [vp_in x6 12, vp_in (((12 : Int32) * x1) + x6) 96]) (pc' := 99) (L' := [vR 51 0, vI x1, vI x2, vI x3, vI x4, vI x5, vI x6]) (S' := []) (σ' := pI σ 68 0 (((12 : Int32) * x1) + x6).toNatClampNeg (gI σ 63 0 x6.toNatClampNeg)) 12 rfl ⟨(h.2 c2).1, (h.2 c2).2.1, trivial⟩ ?_
    obtain ⟨σ4, eσ4⟩ : ∃ z, z = pI σ 68 0 (((12 : Int32) * x1) + x6).toNatClampNeg (gI σ 63 0 x6.toNatClampNeg) := ⟨_, rfl⟩
    rw [← eσ4]
    refine WS.run (C := []) (pc' := 73) (L' := [vR 51 0, vI x1, vI x2, vI x3, vI x4, vI x5, vI (x6 + (1 : Int32))]) (S' := []) (σ' := σ4) 2 rfl trivial ?_
    exact ((h.2 c2).2.2 σ4 eσ4)
set_option maxRecDepth 4000 in
set_option maxHeartbeats 400000 in
theorem b_MD_name_132 {d : Nat} {σ : Mem} {Post : Option AV → Mem → Prop} {x1 x2 x3 x4 x5 x6 sx0 : Int32} (h : Post (some (vI sx0)) σ) : WS d M_MD_name 132 [vR 51 0, vI x1, vI x2, vI x3, vI x4, vI x5, vI x6] [vI sx0] σ Post := by
  exact WS.ret rfl rfl (by decide) rfl h
set_option maxRecDepth 4000 in
set_option maxHeartbeats 400000 in
theorem b_MD_cell_0 {d : Nat} {σ : Mem} {Post : Option AV → Mem → Prop} {x1 x2 : Int32} (h : MM d M_MD_isName [vR 51 0, vI x1] σ (fun r τ => WS (d + 1) M_MD_cell 5 [vR 51 0, vI x1, vI x2] (r.toList ++ []) τ Post)) : WS (d + 1) M_MD_cell 0 [vR 51 0, vI x1, vI x2] [] σ Post := by
  refine WS.run (C := []) (pc' := 2) (L' := [vR 51 0, vI x1, vI x2]) (S' := [vI x1, vR 51 0]) (σ' := σ) 2 rfl trivial ?_
  refine WS.callV M_MD_isName (k := 51) (i := 0) (as := [vI x1]) (rest := []) rfl lk_11_211 rfl rfl rfl (Nat.le_of_ble_eq_true rfl) ?_
  exact h
set_option maxRecDepth 4000 in
set_option maxHeartbeats 400000 in
theorem b_MD_cell_5t {d : Nat} {σ : Mem} {Post : Option AV → Mem → Prop} {x1 x2 : Int32} (h : ((x2 < 0 → Post (some (vI (-1 : Int32))) σ) ∧ (¬ (x2 < 0) → MM d M_MD_writes [vR 51 0, vI x1] σ (fun r τ => WS (d + 1) M_MD_cell 18 [vR 51 0, vI x1, vI x2] (r.toList ++ [vI x2]) τ Post)))) : WS (d + 1) M_MD_cell 5 [vR 51 0, vI x1, vI x2] [vI (1 : Int32)] σ Post := by
  refine WS.br (P := (1 : Int32) = 0) (a := 30) (b := 8) (S' := []) rfl (fun cc => absurd cc (by decide)) (fun _ => ?_)
  refine WS.run (C := []) (pc' := 9) (L' := [vR 51 0, vI x1, vI x2]) (S' := [vI x2]) (σ' := σ) 1 rfl trivial ?_
  refine WS.br (P := x2 < 0) (a := 30) (b := 12) (S' := []) rfl (fun c1 => ?_) (fun c1 => ?_)
  · refine WS.run (C := []) (pc' := 31) (L' := [vR 51 0, vI x1, vI x2]) (S' := [vI (-1 : Int32)]) (σ' := σ) 1 rfl trivial ?_
    exact WS.ret rfl rfl (by decide) rfl (h.1 c1)
  · refine WS.run (C := []) (pc' := 15) (L' := [vR 51 0, vI x1, vI x2]) (S' := [vI x1, vR 51 0, vI x2]) (σ' := σ) 3 rfl trivial ?_
    refine WS.callV M_MD_writes (k := 51) (i := 0) (as := [vI x1]) (rest := [vI x2]) rfl lk_11_208 rfl rfl rfl (Nat.le_of_ble_eq_true rfl) ?_
    exact (h.2 c1)
set_option maxRecDepth 4000 in
set_option maxHeartbeats 400000 in
theorem b_MD_cell_5f {d : Nat} {σ : Mem} {Post : Option AV → Mem → Prop} {x1 x2 : Int32} (h : Post (some (vI (-1 : Int32))) σ) : WS d M_MD_cell 5 [vR 51 0, vI x1, vI x2] [vI (0 : Int32)] σ Post := by
  refine WS.br (P := (0 : Int32) = 0) (a := 30) (b := 8) (S' := []) rfl (fun _ => ?_) (fun cc => absurd (by decide) cc)
  refine WS.run (C := []) (pc' := 31) (L' := [vR 51 0, vI x1, vI x2]) (S' := [vI (-1 : Int32)]) (σ' := σ) 1 rfl trivial ?_
  exact WS.ret rfl rfl (by decide) rfl h
set_option maxRecDepth 4000 in
set_option maxHeartbeats 400000 in
theorem b_MD_cell_18 {d : Nat} {σ : Mem} {Post : Option AV → Mem → Prop} {x1 x2 sx0 sx1 : Int32} (h : ((sx0 ≤ sx1 → Post (some (vI (-1 : Int32))) σ) ∧ (¬ (sx0 ≤ sx1) → vp_in x2 12 ∧ Post (some (vI (gI σ 73 0 x2.toNatClampNeg))) σ))) : WS d M_MD_cell 18 [vR 51 0, vI x1, vI x2] [vI sx0, vI sx1] σ Post := by
  refine WS.br (P := sx0 ≤ sx1) (a := 30) (b := 21) (S' := []) rfl (fun c2 => ?_) (fun c2 => ?_)
  · refine WS.run (C := []) (pc' := 31) (L' := [vR 51 0, vI x1, vI x2]) (S' := [vI (-1 : Int32)]) (σ' := σ) 1 rfl trivial ?_
    exact WS.ret rfl rfl (by decide) rfl (h.1 c2)
  · refine WS.run (C := [vp_in x2 12]) (pc' := 31) (L' := [vR 51 0, vI x1, vI x2]) (S' := [vI (gI σ 73 0 x2.toNatClampNeg)]) (σ' := σ) 5 rfl ⟨(h.2 c2).1, trivial⟩ ?_
    exact WS.ret rfl rfl (by decide) rfl (h.2 c2).2
