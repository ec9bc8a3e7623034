/-! block lemmas -/
set_option maxRecDepth 4000 in
set_option maxHeartbeats 400000 in
theorem b_TM_contract_0 {d : Nat} {σ : Mem} {Post : Option AV → Mem → Prop} {x1 x2 : Int32} (h : MM d M_TM_inRange [vI x1, vI (9 : Int32)] σ (fun r τ => WS (d + 1) M_TM_contract 6 [vR 0 0, vI x1, vI x2, vU] (r.toList ++ []) τ Post)) : WS (d + 1) M_TM_contract 0 [vR 0 0, vI x1, vI x2, vU] [] σ Post := by
  refine WS.run (C := []) (pc' := 3) (L' := [vR 0 0, vI x1, vI x2, vU]) (S' := [vI (9 : Int32), vI x1]) (σ' := σ) 2 rfl trivial ?_
  refine WS.callS M_TM_inRange (as := [vI x1, vI (9 : Int32)]) (rest := []) rfl lk_10_71 rfl rfl (Nat.le_of_ble_eq_true rfl) ?_
  exact h
set_option maxRecDepth 4000 in
set_option maxHeartbeats 400000 in
theorem b_TM_contract_6t {d : Nat} {σ : Mem} {Post : Option AV → Mem → Prop} {x1 x2 : Int32} (h : MM d M_TM_inRange [vI x2, vI (63 : Int32)] σ (fun r τ => WS (d + 1) M_TM_contract 15 [vR 0 0, vI x1, vI x2, vU] (r.toList ++ []) τ Post)) : WS (d + 1) M_TM_contract 6 [vR 0 0, vI x1, vI x2, vU] [vI (1 : Int32)] σ Post := by
  refine WS.br (P := (1 : Int32) = 0) (a := 48) (b := 9) (S' := []) rfl (fun cc => absurd cc (by decide)) (fun _ => ?_)
  refine WS.run (C := []) (pc' := 12) (L' := [vR 0 0, vI x1, vI x2, vU]) (S' := [vI (63 : Int32), vI x2]) (σ' := σ) 2 rfl trivial ?_
  refine WS.callS M_TM_inRange (as := [vI x2, vI (63 : Int32)]) (rest := []) rfl lk_10_71 rfl rfl (Nat.le_of_ble_eq_true rfl) ?_
  exact h
set_option maxRecDepth 4000 in
set_option maxHeartbeats 400000 in
theorem b_TM_contract_6f {d : Nat} {σ : Mem} {Post : Option AV → Mem → Prop} {x1 x2 : Int32} (h : WS d M_TM_contract 67 [vR 0 0, vI x1, vI x2, vI (0 : Int32)] [] σ Post) : WS d M_TM_contract 6 [vR 0 0, vI x1, vI x2, vU] [vI (0 : Int32)] σ Post := by
  refine WS.br (P := (0 : Int32) = 0) (a := 48) (b := 9) (S' := []) rfl (fun _ => ?_) (fun cc => absurd (by decide) cc)
  refine WS.run (C := []) (pc' := 51) (L' := [vR 0 0, vI x1, vI x2, vI (0 : Int32)]) (S' := [vI (0 : Int32)]) (σ' := σ) 3 rfl trivial ?_
  refine WS.br (P := (0 : Int32) = 0) (a := 67) (b := 54) (S' := []) rfl (fun _ => ?_) (fun cc => absurd (by decide) cc)
  exact h
set_option maxRecDepth 4000 in
set_option maxHeartbeats 400000 in
theorem b_TM_contract_15t {d : Nat} {σ : Mem} {Post : Option AV → Mem → Prop} {x1 x2 : Int32} (h : ((x2 = 0 → MM d M_Speller_shorten [vR 24 0, vI x1, vR 22 0, vI x2] σ (fun r τ => WS (d + 1) M_TM_contract 67 [vR 0 0, vI x1, vI x2, vI (1 : Int32)] (r.toList ++ []) τ Post)) ∧ (¬ (x2 = 0) → (((gI σ 22 0 1) < (2 : Int32) → WS (d + 1) M_TM_contract 67 [vR 0 0, vI x1, vI x2, vI (0 : Int32)] [] σ Post) ∧ (¬ ((gI σ 22 0 1) < (2 : Int32)) → (((4 : Int32) < (gI σ 22 0 1) → WS (d + 1) M_TM_contract 67 [vR 0 0, vI x1, vI x2, vI (0 : Int32)] [] σ Post) ∧ (¬ ((4 : Int32) < (gI σ 22 0 1)) → MM d M_Speller_shorten [vR 24 0, vI x1, vR 22 0, vI x2] σ (fun r τ => WS (d + 1) M_TM_contract 67 [vR 0 0, vI x1, vI x2, vI (1 : Int32)] (r.toList ++ []) τ Post)))))))) : WS (d + 1) M_TM_contract 15 [vR 0 0, vI x1, vI x2, vU] [vI (1 : Int32)] σ Post := by
  refine WS.br (P := (1 : Int32) = 0) (a := 48) (b := 18) (S' := []) rfl (fun cc => absurd cc (by decide)) (fun _ => ?_)
  refine WS.run (C := []) (pc' := 19) (L' := [vR 0 0, vI x1, vI x2, vU]) (S' := [vI x2]) (σ' := σ) 1 rfl trivial ?_
  refine WS.br (P := x2 = 0) (a := 44) (b := 22) (S' := []) rfl (fun c1 => ?_) (fun c1 => ?_)
  · refine WS.run (C := []) (pc' := 51) (L' := [vR 0 0, vI x1, vI x2, vI (1 : Int32)]) (S' := [vI (1 : Int32)]) (σ' := σ) 4 rfl trivial ?_
    refine WS.br (P := (1 : Int32) = 0) (a := 67) (b := 54) (S' := []) rfl (fun cc => absurd cc (by decide)) (fun _ => ?_)
    refine WS.run (C := []) (pc' := 64) (L' := [vR 0 0, vI x1, vI x2, vI (1 : Int32)]) (S' := [vI x2, vR 22 0, vI x1, vR 24 0]) (σ' := σ) 6 rfl trivial ?_
    refine WS.callV M_Speller_shorten (k := 24) (i := 0) (as := [vI x1, vR 22 0, vI x2]) (rest := []) rfl lk_10_139 rfl rfl rfl (Nat.le_of_ble_eq_true rfl) ?_
    exact (h.1 c1)
  · refine WS.run (C := []) (pc' := 30) (L' := [vR 0 0, vI x1, vI x2, vU]) (S' := [vI (2 : Int32), vI (gI σ 22 0 1)]) (σ' := σ) 4 rfl trivial ?_
    refine WS.br (P := (gI σ 22 0 1) < (2 : Int32)) (a := 48) (b := 33) (S' := []) rfl (fun c2 => ?_) (fun c2 => ?_)
    · refine WS.run (C := []) (pc' := 51) (L' := [vR 0 0, vI x1, vI x2, vI (0 : Int32)]) (S' := [vI (0 : Int32)]) (σ' := σ) 3 rfl trivial ?_
      refine WS.br (P := (0 : Int32) = 0) (a := 67) (b := 54) (S' := []) rfl (fun _ => ?_) (fun cc => absurd (by decide) cc)
      exact ((h.2 c1).1 c2)
    · refine WS.run (C := []) (pc' := 41) (L' := [vR 0 0, vI x1, vI x2, vU]) (S' := [vI (4 : Int32), vI (gI σ 22 0 1)]) (σ' := σ) 4 rfl trivial ?_
      refine WS.br (P := (4 : Int32) < (gI σ 22 0 1)) (a := 48) (b := 44) (S' := []) rfl (fun c3 => ?_) (fun c3 => ?_)
      · refine WS.run (C := []) (pc' := 51) (L' := [vR 0 0, vI x1, vI x2, vI (0 : Int32)]) (S' := [vI (0 : Int32)]) (σ' := σ) 3 rfl trivial ?_
        refine WS.br (P := (0 : Int32) = 0) (a := 67) (b := 54) (S' := []) rfl (fun _ => ?_) (fun cc => absurd (by decide) cc)
        exact (((h.2 c1).2 c2).1 c3)
      · refine WS.run (C := []) (pc' := 51) (L' := [vR 0 0, vI x1, vI x2, vI (1 : Int32)]) (S' := [vI (1 : Int32)]) (σ' := σ) 4 rfl trivial ?_
        refine WS.br (P := (1 : Int32) = 0) (a := 67) (b := 54) (S' := []) rfl (fun cc => absurd cc (by decide)) (fun _ => ?_)
        refine WS.run (C := []) (pc' := 64) (L' := [vR 0 0, vI x1, vI x2, vI (1 : Int32)]) (S' := [vI x2, vR 22 0, vI x1, vR 24 0]) (σ' := σ) 6 rfl trivial ?_
        refine WS.callV M_Speller_shorten (k := 24) (i := 0) (as := [vI x1, vR 22 0, vI x2]) (rest := []) rfl lk_10_139 rfl rfl rfl (Nat.le_of_ble_eq_true rfl) ?_
        exact (((h.2 c1).2 c2).2 c3)
set_option maxRecDepth 4000 in
set_option maxHeartbeats 400000 in
theorem b_TM_contract_15f {d : Nat} {σ : Mem} {Post : Option AV → Mem → Prop} {x1 x2 : Int32} (h : WS d M_TM_contract 67 [vR 0 0, vI x1, vI x2, vI (0 : Int32)] [] σ Post) : WS d M_TM_contract 15 [vR 0 0, vI x1, vI x2, vU] [vI (0 : Int32)] σ Post := by
  refine WS.br (P := (0 : Int32) = 0) (a := 48) (b := 18) (S' := []) rfl (fun _ => ?_) (fun cc => absurd (by decide) cc)
  refine WS.run (C := []) (pc' := 51) (L' := [vR 0 0, vI x1, vI x2, vI (0 : Int32)]) (S' := [vI (0 : Int32)]) (σ' := σ) 3 rfl trivial ?_
  refine WS.br (P := (0 : Int32) = 0) (a := 67) (b := 54) (S' := []) rfl (fun _ => ?_) (fun cc => absurd (by decide) cc)
  exact h
set_option maxRecDepth 4000 in
set_option maxHeartbeats 400000 in
theorem b_TM_contract_67 {d : Nat} {σ : Mem} {Post : Option AV → Mem → Prop} {x1 x2 x3 : Int32} (h : MM d M_Word_clear [vR 22 0] σ (fun r τ => WS (d + 1) M_TM_contract 74 [vR 0 0, vI x1, vI x2, vI x3] (r.toList ++ []) τ Post)) : WS (d + 1) M_TM_contract 67 [vR 0 0, vI x1, vI x2, vI x3] [] σ Post := by
  refine WS.run (C := []) (pc' := 71) (L' := [vR 0 0, vI x1, vI x2, vI x3]) (S' := [vR 22 0]) (σ' := σ) 2 rfl trivial ?_
  refine WS.callV M_Word_clear (k := 22) (i := 0) (as := []) (rest := []) rfl lk_10_143 rfl rfl rfl (Nat.le_of_ble_eq_true rfl) ?_
  exact h
set_option maxRecDepth 4000 in
set_option maxHeartbeats 400000 in
theorem b_TM_contract_74 {d : Nat} {σ : Mem} {Post : Option AV → Mem → Prop} {x1 x2 x3 : Int32} (h : (x3 = 0 ∨ x3 = 1) ∧ Post (some (vI x3)) σ) : WS d M_TM_contract 74 [vR 0 0, vI x1, vI x2, vI x3] [] σ Post := by
  refine WS.run (C := []) (pc' := 75) (L' := [vR 0 0, vI x1, vI x2, vI x3]) (S' := [vI x3]) (σ' := σ) 1 rfl trivial ?_
  exact WS.ret rfl rfl (by decide) (nar01 h.1) h.2
set_option maxRecDepth 4000 in
set_option maxHeartbeats 400000 in
theorem b_TM_name_0 {d : Nat} {σ : Mem} {Post : Option AV → Mem → Prop} {x1 x2 x3 x4 : Int32} (h : MM d M_TM_inRange [vI x1, vI (7 : Int32)] σ (fun r τ => WS (d + 1) M_TM_name 6 [vR 0 0, vI x1, vI x2, vI x3, vI x4, vU, vU] (r.toList ++ []) τ Post)) : WS (d + 1) M_TM_name 0 [vR 0 0, vI x1, vI x2, vI x3, vI x4, vU, vU] [] σ Post := by
  refine WS.run (C := []) (pc' := 3) (L' := [vR 0 0, vI x1, vI x2, vI x3, vI x4, vU, vU]) (S' := [vI (7 : Int32), vI x1]) (σ' := σ) 2 rfl trivial ?_
  refine WS.callS M_TM_inRange (as := [vI x1, vI (7 : Int32)]) (rest := []) rfl lk_10_71 rfl rfl (Nat.le_of_ble_eq_true rfl) ?_
  exact h
set_option maxRecDepth 4000 in
set_option maxHeartbeats 400000 in
theorem b_TM_name_6t {d : Nat} {σ : Mem} {Post : Option AV → Mem → Prop} {x1 x2 x3 x4 : Int32} (h : MM d M_TM_isPlace [vI x2, vI x3] σ (fun r τ => WS (d + 1) M_TM_name 14 [vR 0 0, vI x1, vI x2, vI x3, vI x4, vU, vU] (r.toList ++ []) τ Post)) : WS (d + 1) M_TM_name 6 [vR 0 0, vI x1, vI x2, vI x3, vI x4, vU, vU] [vI (1 : Int32)] σ Post := by
  refine WS.br (P := (1 : Int32) = 0) (a := 42) (b := 9) (S' := []) rfl (fun cc => absurd cc (by decide)) (fun _ => ?_)
  refine WS.run (C := []) (pc' := 11) (L' := [vR 0 0, vI x1, vI x2, vI x3, vI x4, vU, vU]) (S' := [vI x3, vI x2]) (σ' := σ) 2 rfl trivial ?_
  refine WS.callS M_TM_isPlace (as := [vI x2, vI x3]) (rest := []) rfl lk_10_79 rfl rfl (Nat.le_of_ble_eq_true rfl) ?_
  exact h
set_option maxRecDepth 4000 in
set_option maxHeartbeats 400000 in
theorem b_TM_name_6f {d : Nat} {σ : Mem} {Post : Option AV → Mem → Prop} {x1 x2 x3 x4 : Int32} (h : MM d M_Word_clear [vR 22 0] σ (fun r τ => WS (d + 1) M_TM_name 90 [vR 0 0, vI x1, vI x2, vI x3, vI x4, vI (0 : Int32), vI (-1 : Int32)] (r.toList ++ []) τ Post)) : WS (d + 1) M_TM_name 6 [vR 0 0, vI x1, vI x2, vI x3, vI x4, vU, vU] [vI (0 : Int32)] σ Post := by
  refine WS.br (P := (0 : Int32) = 0) (a := 42) (b := 9) (S' := []) rfl (fun _ => ?_) (fun cc => absurd (by decide) cc)
  refine WS.run (C := []) (pc' := 50) (L' := [vR 0 0, vI x1, vI x2, vI x3, vI x4, vI (0 : Int32), vI (-1 : Int32)]) (S' := [vI (0 : Int32)]) (σ' := σ) 5 rfl trivial ?_
  refine WS.br (P := (0 : Int32) = 0) (a := 83) (b := 53) (S' := []) rfl (fun _ => ?_) (fun cc => absurd (by decide) cc)
  refine WS.run (C := []) (pc' := 87) (L' := [vR 0 0, vI x1, vI x2, vI x3, vI x4, vI (0 : Int32), vI (-1 : Int32)]) (S' := [vR 22 0]) (σ' := σ) 2 rfl trivial ?_
  refine WS.callV M_Word_clear (k := 22) (i := 0) (as := []) (rest := []) rfl lk_10_143 rfl rfl rfl (Nat.le_of_ble_eq_true rfl) ?_
  exact h
set_option maxRecDepth 4000 in
set_option maxHeartbeats 400000 in
theorem b_TM_name_14t {d : Nat} {σ : Mem} {Post : Option AV → Mem → Prop} {x1 x2 x3 x4 : Int32} (h : MM d M_TM_inRange [vI x4, vI (1000 : Int32)] σ (fun r τ => WS (d + 1) M_TM_name 25 [vR 0 0, vI x1, vI x2, vI x3, vI x4, vU, vU] (r.toList ++ []) τ Post)) : WS (d + 1) M_TM_name 14 [vR 0 0, vI x1, vI x2, vI x3, vI x4, vU, vU] [vI (1 : Int32)] σ Post := by
  refine WS.br (P := (1 : Int32) = 0) (a := 42) (b := 17) (S' := []) rfl (fun cc => absurd cc (by decide)) (fun _ => ?_)
  refine WS.run (C := []) (pc' := 22) (L' := [vR 0 0, vI x1, vI x2, vI x3, vI x4, vU, vU]) (S' := [vI (1000 : Int32), vI x4]) (σ' := σ) 2 rfl trivial ?_
  refine WS.callS M_TM_inRange (as := [vI x4, vI (1000 : Int32)]) (rest := []) rfl lk_10_71 rfl rfl (Nat.le_of_ble_eq_true rfl) ?_
  exact h
set_option maxRecDepth 4000 in
set_option maxHeartbeats 400000 in
theorem b_TM_name_14f {d : Nat} {σ : Mem} {Post : Option AV → Mem → Prop} {x1 x2 x3 x4 : Int32} (h : MM d M_Word_clear [vR 22 0] σ (fun r τ => WS (d + 1) M_TM_name 90 [vR 0 0, vI x1, vI x2, vI x3, vI x4, vI (0 : Int32), vI (-1 : Int32)] (r.toList ++ []) τ Post)) : WS (d + 1) M_TM_name 14 [vR 0 0, vI x1, vI x2, vI x3, vI x4, vU, vU] [vI (0 : Int32)] σ Post := by
  refine WS.br (P := (0 : Int32) = 0) (a := 42) (b := 17) (S' := []) rfl (fun _ => ?_) (fun cc => absurd (by decide) cc)
  refine WS.run (C := []) (pc' := 50) (L' := [vR 0 0, vI x1, vI x2, vI x3, vI x4, vI (0 : Int32), vI (-1 : Int32)]) (S' := [vI (0 : Int32)]) (σ' := σ) 5 rfl trivial ?_
  refine WS.br (P := (0 : Int32) = 0) (a := 83) (b := 53) (S' := []) rfl (fun _ => ?_) (fun cc => absurd (by decide) cc)
  refine WS.run (C := []) (pc' := 87) (L' := [vR 0 0, vI x1, vI x2, vI x3, vI x4, vI (0 : Int32), vI (-1 : Int32)]) (S' := [vR 22 0]) (σ' := σ) 2 rfl trivial ?_
  refine WS.callV M_Word_clear (k := 22) (i := 0) (as := []) (rest := []) rfl lk_10_143 rfl rfl rfl (Nat.le_of_ble_eq_true rfl) ?_
  exact h
set_option maxRecDepth 4000 in
set_option maxHeartbeats 400000 in
theorem b_TM_name_25t {d : Nat} {σ : Mem} {Post : Option AV → Mem → Prop} {x1 x2 x3 x4 : Int32} (h : (((gI σ 22 0 1) ≤ 0 → MM d M_Word_clear [vR 22 0] σ (fun r τ => WS (d + 1) M_TM_name 90 [vR 0 0, vI x1, vI x2, vI x3, vI x4, vI (0 : Int32), vI (-1 : Int32)] (r.toList ++ []) τ Post)) ∧ (¬ ((gI σ 22 0 1) ≤ 0) → vp_in x1 8 ∧ MM d M_Name_begin [vR 7 x1.toNatClampNeg, vR 22 0, vI x2, vI x3, vI x4] σ (fun r τ => WS (d + 1) M_TM_name 70 [vR 0 0, vI x1, vI x2, vI x3, vI x4, vI (1 : Int32), vI (-1 : Int32)] (r.toList ++ []) τ Post)))) : WS (d + 1) M_TM_name 25 [vR 0 0, vI x1, vI x2, vI x3, vI x4, vU, vU] [vI (1 : Int32)] σ Post := by
  refine WS.br (P := (1 : Int32) = 0) (a := 42) (b := 28) (S' := []) rfl (fun cc => absurd cc (by decide)) (fun _ => ?_)
  refine WS.run (C := []) (pc' := 35) (L' := [vR 0 0, vI x1, vI x2, vI x3, vI x4, vU, vU]) (S' := [vI (gI σ 22 0 1)]) (σ' := σ) 3 rfl trivial ?_
  refine WS.br (P := (gI σ 22 0 1) ≤ 0) (a := 42) (b := 38) (S' := []) rfl (fun c1 => ?_) (fun c1 => ?_)
  · refine WS.run (C := []) (pc' := 50) (L' := [vR 0 0, vI x1, vI x2, vI x3, vI x4, vI (0 : Int32), vI (-1 : Int32)]) (S' := [vI (0 : Int32)]) (σ' := σ) 5 rfl trivial ?_
    refine WS.br (P := (0 : Int32) = 0) (a := 83) (b := 53) (S' := []) rfl (fun _ => ?_) (fun cc => absurd (by decide) cc)
    refine WS.run (C := []) (pc' := 87) (L' := [vR 0 0, vI x1, vI x2, vI x3, vI x4, vI (0 : Int32), vI (-1 : Int32)]) (S' := [vR 22 0]) (σ' := σ) 2 rfl trivial ?_
    refine WS.callV M_Word_clear (k := 22) (i := 0) (as := []) (rest := []) rfl lk_10_143 rfl rfl rfl (Nat.le_of_ble_eq_true rfl) ?_
    exact (h.1 c1)
  · refine WS.run (C := []) (pc' := 50) (L' := [vR 0 0, vI x1, vI x2, vI x3, vI x4, vI (1 : Int32), vI (-1 : Int32)]) (S' := [vI (1 : Int32)]) (σ' := σ) 6 rfl trivial ?_
    refine WS.br (P := (1 : Int32) = 0) (a := 83) (b := 53) (S' := []) rfl (fun cc => absurd cc (by decide)) (fun _ => ?_)
    refine WS.run (C := [vp_in x1 8]) (pc' := 67) (L' := [vR 0 0, vI x1, vI x2, vI x3, vI x4, vI (1 : Int32), vI (-1 : Int32)]) (S' := [vI x4, vI x3, vI x2, vR 22 0, vR 7 x1.toNatClampNeg]) (σ' := σ) 9 rfl ⟨(h.2 c1).1, trivial⟩ ?_
    refine WS.callV M_Name_begin (k := 7) (i := x1.toNatClampNeg) (as := [vR 22 0, vI x2, vI x3, vI x4]) (rest := []) rfl lk_10_146 rfl rfl rfl (Nat.le_of_ble_eq_true rfl) ?_
    exact (h.2 c1).2
set_option maxRecDepth 4000 in
set_option maxHeartbeats 400000 in
theorem b_TM_name_25f {d : Nat} {σ : Mem} {Post : Option AV → Mem → Prop} {x1 x2 x3 x4 : Int32} (h : MM d M_Word_clear [vR 22 0] σ (fun r τ => WS (d + 1) M_TM_name 90 [vR 0 0, vI x1, vI x2, vI x3, vI x4, vI (0 : Int32), vI (-1 : Int32)] (r.toList ++ []) τ Post)) : WS (d + 1) M_TM_name 25 [vR 0 0, vI x1, vI x2, vI x3, vI x4, vU, vU] [vI (0 : Int32)] σ Post := by
  refine WS.br (P := (0 : Int32) = 0) (a := 42) (b := 28) (S' := []) rfl (fun _ => ?_) (fun cc => absurd (by decide) cc)
  refine WS.run (C := []) (pc' := 50) (L' := [vR 0 0, vI x1, vI x2, vI x3, vI x4, vI (0 : Int32), vI (-1 : Int32)]) (S' := [vI (0 : Int32)]) (σ' := σ) 5 rfl trivial ?_
  refine WS.br (P := (0 : Int32) = 0) (a := 83) (b := 53) (S' := []) rfl (fun _ => ?_) (fun cc => absurd (by decide) cc)
  refine WS.run (C := []) (pc' := 87) (L' := [vR 0 0, vI x1, vI x2, vI x3, vI x4, vI (0 : Int32), vI (-1 : Int32)]) (S' := [vR 22 0]) (σ' := σ) 2 rfl trivial ?_
  refine WS.callV M_Word_clear (k := 22) (i := 0) (as := []) (rest := []) rfl lk_10_143 rfl rfl rfl (Nat.le_of_ble_eq_true rfl) ?_
  exact h
set_option maxRecDepth 4000 in
set_option maxHeartbeats 400000 in
theorem b_TM_name_70 {d : Nat} {σ : Mem} {Post : Option AV → Mem → Prop} {x1 x2 x3 x4 x5 x6 : Int32} (h : MM d M_Speller_spell [vR 24 0, vR 22 0] σ (fun r τ => WS (d + 1) M_TM_name 81 [vR 0 0, vI x1, vI x2, vI x3, vI x4, vI x5, vI x6] (r.toList ++ []) τ Post)) : WS (d + 1) M_TM_name 70 [vR 0 0, vI x1, vI x2, vI x3, vI x4, vI x5, vI x6] [] σ Post := by
  refine WS.run (C := []) (pc' := 78) (L' := [vR 0 0, vI x1, vI x2, vI x3, vI x4, vI x5, vI x6]) (S' := [vR 22 0, vR 24 0]) (σ' := σ) 4 rfl trivial ?_
  refine WS.callV M_Speller_spell (k := 24) (i := 0) (as := [vR 22 0]) (rest := []) rfl lk_10_149 rfl rfl rfl (Nat.le_of_ble_eq_true rfl) ?_
  exact h
set_option maxRecDepth 4000 in
set_option maxHeartbeats 400000 in
theorem b_TM_name_81 {d : Nat} {σ : Mem} {Post : Option AV → Mem → Prop} {x1 x2 x3 x4 x5 x6 sx0 : Int32} (h : MM d M_Word_clear [vR 22 0] σ (fun r τ => WS (d + 1) M_TM_name 90 [vR 0 0, vI x1, vI x2, vI x3, vI x4, vI x5, vI sx0] (r.toList ++ []) τ Post)) : WS (d + 1) M_TM_name 81 [vR 0 0, vI x1, vI x2, vI x3, vI x4, vI x5, vI x6] [vI sx0] σ Post := by
  refine WS.run (C := []) (pc' := 87) (L' := [vR 0 0, vI x1, vI x2, vI x3, vI x4, vI x5, vI sx0]) (S' := [vR 22 0]) (σ' := σ) 3 rfl trivial ?_
  refine WS.callV M_Word_clear (k := 22) (i := 0) (as := []) (rest := []) rfl lk_10_143 rfl rfl rfl (Nat.le_of_ble_eq_true rfl) ?_
  exact h
set_option maxRecDepth 4000 in
set_option maxHeartbeats 400000 in
theorem b_TM_name_90 {d : Nat} {σ : Mem} {Post : Option AV → Mem → Prop} {x1 x2 x3 x4 x5 x6 : Int32} (h : Post (some (vI x6)) σ) : WS d M_TM_name 90 [vR 0 0, vI x1, vI x2, vI x3, vI x4, vI x5, vI x6] [] σ Post := by
  refine WS.run (C := []) (pc' := 92) (L' := [vR 0 0, vI x1, vI x2, vI x3, vI x4, vI x5, vI x6]) (S' := [vI x6]) (σ' := σ) 1 rfl trivial ?_
  exact WS.ret rfl rfl (by decide) rfl h
set_option maxRecDepth 4000 in
set_option maxHeartbeats 400000 in
theorem b_TM_cell_0 {d : Nat} {σ : Mem} {Post : Option AV → Mem → Prop} {x1 x2 : Int32} (h : MM d M_TM_isName [vR 0 0, vI x1] σ (fun r τ => WS (d + 1) M_TM_cell 5 [vR 0 0, vI x1, vI x2, vU] (r.toList ++ []) τ Post)) : WS (d + 1) M_TM_cell 0 [vR 0 0, vI x1, vI x2, vU] [] σ Post := by
  refine WS.run (C := []) (pc' := 2) (L' := [vR 0 0, vI x1, vI x2, vU]) (S' := [vI x1, vR 0 0]) (σ' := σ) 2 rfl trivial ?_
  refine WS.callV M_TM_isName (k := 0) (i := 0) (as := [vI x1]) (rest := []) rfl lk_10_153 rfl rfl rfl (Nat.le_of_ble_eq_true rfl) ?_
  exact h
set_option maxRecDepth 4000 in
set_option maxHeartbeats 400000 in
theorem b_TM_cell_5t {d : Nat} {σ : Mem} {Post : Option AV → Mem → Prop} {x1 x2 : Int32} (h : vp_in x1 8 ∧ MM d M_Speller_spell [vR 24 0, vR 8 x1.toNatClampNeg] σ (fun r τ => WS (d + 1) M_TM_cell 26 [vR 0 0, vI x1, vI x2, vU] (r.toList ++ []) τ Post)) : WS (d + 1) M_TM_cell 5 [vR 0 0, vI x1, vI x2, vU] [vI (1 : Int32)] σ Post := by
  refine WS.br (P := (1 : Int32) = 0) (a := 8) (b := 10) (S' := []) rfl (fun cc => absurd cc (by decide)) (fun _ => ?_)
  refine WS.run (C := [vp_in x1 8]) (pc' := 23) (L' := [vR 0 0, vI x1, vI x2, vU]) (S' := [vR 8 x1.toNatClampNeg, vR 24 0]) (σ' := σ) 7 rfl ⟨h.1, trivial⟩ ?_
  refine WS.callV M_Speller_spell (k := 24) (i := 0) (as := [vR 8 x1.toNatClampNeg]) (rest := []) rfl lk_10_149 rfl rfl rfl (Nat.le_of_ble_eq_true rfl) ?_
  exact h.2
set_option maxRecDepth 4000 in
set_option maxHeartbeats 400000 in
theorem b_TM_cell_5f {d : Nat} {σ : Mem} {Post : Option AV → Mem → Prop} {x1 x2 : Int32} (h : Post (some (vI (-1 : Int32))) σ) : WS d M_TM_cell 5 [vR 0 0, vI x1, vI x2, vU] [vI (0 : Int32)] σ Post := by
  refine WS.br (P := (0 : Int32) = 0) (a := 8) (b := 10) (S' := []) rfl (fun _ => ?_) (fun cc => absurd (by decide) cc)
  refine WS.run (C := []) (pc' := 9) (L' := [vR 0 0, vI x1, vI x2, vU]) (S' := [vI (-1 : Int32)]) (σ' := σ) 1 rfl trivial ?_
  exact WS.ret rfl rfl (by decide) rfl h
set_option maxRecDepth 4000 in
set_option maxHeartbeats 400000 in
theorem b_TM_cell_26 {d : Nat} {σ : Mem} {Post : Option AV → Mem → Prop} {x1 x2 sx0 : Int32} (h : MM d M_TM_inRange [vI x2, vI (sx0 - (1 : Int32))] σ (fun r τ => WS (d + 1) M_TM_cell 34 [vR 0 0, vI x1, vI x2, vI sx0] (r.toList ++ []) τ Post)) : WS (d + 1) M_TM_cell 26 [vR 0 0, vI x1, vI x2, vU] [vI sx0] σ Post := by
  refine WS.run (C := []) (pc' := 31) (L' := [vR 0 0, vI x1, vI x2, vI sx0]) (S' := [vI (sx0 - (1 : Int32)), vI x2]) (σ' := σ) 5 rfl trivial ?_
  refine WS.callS M_TM_inRange (as := [vI x2, vI (sx0 - (1 : Int32))]) (rest := []) rfl lk_10_71 rfl rfl (Nat.le_of_ble_eq_true rfl) ?_
  exact h
set_option maxRecDepth 4000 in
set_option maxHeartbeats 400000 in
theorem b_TM_cell_34t {d : Nat} {σ : Mem} {Post : Option AV → Mem → Prop} {x1 x2 x3 : Int32} (h : vp_in x2 12 ∧ Post (some (vI (gI σ 30 0 x2.toNatClampNeg))) σ) : WS d M_TM_cell 34 [vR 0 0, vI x1, vI x2, vI x3] [vI (1 : Int32)] σ Post := by
  refine WS.br (P := (1 : Int32) = 0) (a := 49) (b := 37) (S' := []) rfl (fun cc => absurd cc (by decide)) (fun _ => ?_)
  refine WS.run (C := [vp_in x2 12]) (pc' := 50) (L' := [vR 0 0, vI x1, vI x2, vI x3]) (S' := [vI (gI σ 30 0 x2.toNatClampNeg)]) (σ' := σ) 6 rfl ⟨h.1, trivial⟩ ?_
  exact WS.ret rfl rfl (by decide) rfl h.2
set_option maxRecDepth 4000 in
set_option maxHeartbeats 400000 in
theorem b_TM_cell_34f {d : Nat} {σ : Mem} {Post : Option AV → Mem → Prop} {x1 x2 x3 : Int32} (h : Post (some (vI (-1 : Int32))) σ) : WS d M_TM_cell 34 [vR 0 0, vI x1, vI x2, vI x3] [vI (0 : Int32)] σ Post := by
  refine WS.br (P := (0 : Int32) = 0) (a := 49) (b := 37) (S' := []) rfl (fun _ => ?_) (fun cc => absurd (by decide) cc)
  refine WS.run (C := []) (pc' := 50) (L' := [vR 0 0, vI x1, vI x2, vI x3]) (S' := [vI (-1 : Int32)]) (σ' := σ) 1 rfl trivial ?_
  exact WS.ret rfl rfl (by decide) rfl h
set_option maxRecDepth 4000 in
set_option maxHeartbeats 400000 in
theorem b_TM_set_0 {d : Nat} {σ : Mem} {Post : Option AV → Mem → Prop}  (h : MM d M_Setter_measure [vR 33 0, vR 6 0, vR 24 0] σ (fun r τ => WS (d + 1) M_TM_set 15 [vR 0 0] (r.toList ++ []) τ Post)) : WS (d + 1) M_TM_set 0 [vR 0 0] [] σ Post := by
  refine WS.run (C := []) (pc' := 12) (L' := [vR 0 0]) (S' := [vR 24 0, vR 6 0, vR 33 0]) (σ' := σ) 6 rfl trivial ?_
  refine WS.callV M_Setter_measure (k := 33) (i := 0) (as := [vR 6 0, vR 24 0]) (rest := []) rfl lk_10_165 rfl rfl rfl (Nat.le_of_ble_eq_true rfl) ?_
  exact h
set_option maxRecDepth 4000 in
set_option maxHeartbeats 400000 in
theorem b_TM_set_15 {d : Nat} {σ : Mem} {Post : Option AV → Mem → Prop}  (h : MM d M_Setter_avoid [vR 33 0, vR 1 0, vR 15 0] σ (fun r τ => WS (d + 1) M_TM_set 30 [vR 0 0] (r.toList ++ []) τ Post)) : WS (d + 1) M_TM_set 15 [vR 0 0] [] σ Post := by
  refine WS.run (C := []) (pc' := 27) (L' := [vR 0 0]) (S' := [vR 15 0, vR 1 0, vR 33 0]) (σ' := σ) 6 rfl trivial ?_
  refine WS.callV M_Setter_avoid (k := 33) (i := 0) (as := [vR 1 0, vR 15 0]) (rest := []) rfl lk_10_169 rfl rfl rfl (Nat.le_of_ble_eq_true rfl) ?_
  exact h
set_option maxRecDepth 4000 in
set_option maxHeartbeats 400000 in
theorem b_TM_set_30 {d : Nat} {σ : Mem} {Post : Option AV → Mem → Prop}  (h : MM d M_Setter_find [vR 33 0, vR 6 0] σ (fun r τ => WS (d + 1) M_TM_set 41 [vR 0 0] (r.toList ++ []) τ Post)) : WS (d + 1) M_TM_set 30 [vR 0 0] [] σ Post := by
  refine WS.run (C := []) (pc' := 38) (L' := [vR 0 0]) (S' := [vR 6 0, vR 33 0]) (σ' := σ) 4 rfl trivial ?_
  refine WS.callV M_Setter_find (k := 33) (i := 0) (as := [vR 6 0]) (rest := []) rfl lk_10_173 rfl rfl rfl (Nat.le_of_ble_eq_true rfl) ?_
  exact h
set_option maxRecDepth 4000 in
set_option maxHeartbeats 400000 in
theorem b_TM_set_41 {d : Nat} {σ : Mem} {Post : Option AV → Mem → Prop} {sx0 : Int32} (h : Post (some (vI sx0)) σ) : WS d M_TM_set 41 [vR 0 0] [vI sx0] σ Post := by
  exact WS.ret rfl rfl (by decide) rfl h
set_option maxRecDepth 4000 in
set_option maxHeartbeats 400000 in
theorem b_Word_copy8_0 {d : Nat} {σ : Mem} {Post : Option AV → Mem → Prop} {i0 : Nat} (h : MM d M_Word_clear [vR 8 i0] σ (fun r τ => WS (d + 1) M_Word_copy 4 [vR 8 i0, vR 22 0, vU] (r.toList ++ []) τ Post)) : WS (d + 1) M_Word_copy 0 [vR 8 i0, vR 22 0, vU] [] σ Post := by
  refine WS.run (C := []) (pc' := 1) (L' := [vR 8 i0, vR 22 0, vU]) (S' := [vR 8 i0]) (σ' := σ) 1 rfl trivial ?_
  refine WS.callV M_Word_clear (k := 8) (i := i0) (as := []) (rest := []) rfl lk_9_17 rfl rfl rfl (Nat.le_of_ble_eq_true rfl) ?_
  exact h
set_option maxRecDepth 4000 in
set_option maxHeartbeats 400000 in
theorem b_Word_copy8_4 {d : Nat} {σ : Mem} {Post : Option AV → Mem → Prop} {i0 : Nat} (h : WS d M_Word_copy 6 [vR 8 i0, vR 22 0, vI (0 : Int32)] [] σ Post) : WS d M_Word_copy 4 [vR 8 i0, vR 22 0, vU] [] σ Post := by
  refine WS.run (C := []) (pc' := 6) (L' := [vR 8 i0, vR 22 0, vI (0 : Int32)]) (S' := []) (σ' := σ) 2 rfl trivial ?_
  exact h
set_option maxRecDepth 4000 in
set_option maxHeartbeats 400000 in
theorem b_Word_copy8_6 {d : Nat} {σ : Mem} {Post : Option AV → Mem → Prop} {x2 : Int32} {i0 : Nat} (h : (((gI σ 22 0 1) ≤ x2 → Post none σ) ∧ (¬ ((gI σ 22 0 1) ≤ x2) → vp_in x2 12 ∧ MM d M_Word_append [vR 8 i0, vI (gI σ 23 0 x2.toNatClampNeg)] σ (fun r τ => WS (d + 1) M_Word_copy 24 [vR 8 i0, vR 22 0, vI x2] (r.toList ++ []) τ Post)))) : WS (d + 1) M_Word_copy 6 [vR 8 i0, vR 22 0, vI x2] [] σ Post := by
  refine WS.run (C := []) (pc' := 11) (L' := [vR 8 i0, vR 22 0, vI x2]) (S' := [vI (gI σ 22 0 1), vI x2]) (σ' := σ) 3 rfl trivial ?_
  refine WS.br (P := (gI σ 22 0 1) ≤ x2) (a := 30) (b := 14) (S' := []) rfl (fun c1 => ?_) (fun c1 => ?_)
  · exact WS.vret rfl rfl (h.1 c1)
  · refine WS.run (C := [vp_in x2 12]) (pc' := 21) (L' := [vR 8 i0, vR 22 0, vI x2]) (S' := [vI (gI σ 23 0 x2.toNatClampNeg), vR 8 i0]) (σ' := σ) 5 rfl ⟨(h.2 c1).1, trivial⟩ ?_
    refine WS.callV M_Word_append (k := 8) (i := i0) (as := [vI (gI σ 23 0 x2.toNatClampNeg)]) (rest := []) rfl lk_9_20 rfl rfl rfl (Nat.le_of_ble_eq_true rfl) ?_
    exact (h.2 c1).2
set_option maxRecDepth 4000 in
set_option maxHeartbeats 400000 in
theorem b_Word_copy8_24 {d : Nat} {σ : Mem} {Post : Option AV → Mem → Prop} {x2 : Int32} {i0 : Nat} (h : WS d M_Word_copy 6 [vR 8 i0, vR 22 0, vI (x2 + (1 : Int32))] [] σ Post) : WS d M_Word_copy 24 [vR 8 i0, vR 22 0, vI x2] [] σ Post := by
  refine WS.run (C := []) (pc' := 6) (L' := [vR 8 i0, vR 22 0, vI (x2 + (1 : Int32))]) (S' := []) (σ' := σ) 2 rfl trivial ?_
  exact h
set_option maxRecDepth 4000 in
set_option maxHeartbeats 400000 in
theorem b_Word_copy31_0 {d : Nat} {σ : Mem} {Post : Option AV → Mem → Prop} {i0 : Nat} (h : MM d M_Word_clear [vR 31 i0] σ (fun r τ => WS (d + 1) M_Word_copy 4 [vR 31 i0, vR 22 0, vU] (r.toList ++ []) τ Post)) : WS (d + 1) M_Word_copy 0 [vR 31 i0, vR 22 0, vU] [] σ Post := by
  refine WS.run (C := []) (pc' := 1) (L' := [vR 31 i0, vR 22 0, vU]) (S' := [vR 31 i0]) (σ' := σ) 1 rfl trivial ?_
  refine WS.callV M_Word_clear (k := 31) (i := i0) (as := []) (rest := []) rfl lk_9_17 rfl rfl rfl (Nat.le_of_ble_eq_true rfl) ?_
  exact h
set_option maxRecDepth 4000 in
set_option maxHeartbeats 400000 in
theorem b_Word_copy31_4 {d : Nat} {σ : Mem} {Post : Option AV → Mem → Prop} {i0 : Nat} (h : WS d M_Word_copy 6 [vR 31 i0, vR 22 0, vI (0 : Int32)] [] σ Post) : WS d M_Word_copy 4 [vR 31 i0, vR 22 0, vU] [] σ Post := by
  refine WS.run (C := []) (pc' := 6) (L' := [vR 31 i0, vR 22 0, vI (0 : Int32)]) (S' := []) (σ' := σ) 2 rfl trivial ?_
  exact h
set_option maxRecDepth 4000 in
set_option maxHeartbeats 400000 in
theorem b_Word_copy31_6 {d : Nat} {σ : Mem} {Post : Option AV → Mem → Prop} {x2 : Int32} {i0 : Nat} (h : (((gI σ 22 0 1) ≤ x2 → Post none σ) ∧ (¬ ((gI σ 22 0 1) ≤ x2) → vp_in x2 12 ∧ MM d M_Word_append [vR 31 i0, vI (gI σ 23 0 x2.toNatClampNeg)] σ (fun r τ => WS (d + 1) M_Word_copy 24 [vR 31 i0, vR 22 0, vI x2] (r.toList ++ []) τ Post)))) : WS (d + 1) M_Word_copy 6 [vR 31 i0, vR 22 0, vI x2] [] σ Post := by
  refine WS.run (C := []) (pc' := 11) (L' := [vR 31 i0, vR 22 0, vI x2]) (S' := [vI (gI σ 22 0 1), vI x2]) (σ' := σ) 3 rfl trivial ?_
  refine WS.br (P := (gI σ 22 0 1) ≤ x2) (a := 30) (b := 14) (S' := []) rfl (fun c1 => ?_) (fun c1 => ?_)
  · exact WS.vret rfl rfl (h.1 c1)
  · refine WS.run (C := [vp_in x2 12]) (pc' := 21) (L' := [vR 31 i0, vR 22 0, vI x2]) (S' := [vI (gI σ 23 0 x2.toNatClampNeg), vR 31 i0]) (σ' := σ) 5 rfl ⟨(h.2 c1).1, trivial⟩ ?_
    refine WS.callV M_Word_append (k := 31) (i := i0) (as := [vI (gI σ 23 0 x2.toNatClampNeg)]) (rest := []) rfl lk_9_20 rfl rfl rfl (Nat.le_of_ble_eq_true rfl) ?_
    exact (h.2 c1).2
set_option maxRecDepth 4000 in
set_option maxHeartbeats 400000 in
theorem b_Word_copy31_24 {d : Nat} {σ : Mem} {Post : Option AV → Mem → Prop} {x2 : Int32} {i0 : Nat} (h : WS d M_Word_copy 6 [vR 31 i0, vR 22 0, vI (x2 + (1 : Int32))] [] σ Post) : WS d M_Word_copy 24 [vR 31 i0, vR 22 0, vI x2] [] σ Post := by
  refine WS.run (C := []) (pc' := 6) (L' := [vR 31 i0, vR 22 0, vI (x2 + (1 : Int32))]) (S' := []) (σ' := σ) 2 rfl trivial ?_
  exact h
set_option maxRecDepth 4000 in
set_option maxHeartbeats 400000 in
theorem b_Word_hasAt22_0 {d : Nat} {σ : Mem} {Post : Option AV → Mem → Prop} {x1 : Int32} {i2 : Nat} (h : (((x1 + (gI σ 31 i2 1)) ≤ (gI σ 22 0 1) → WS d M_Word_hasAt 17 [vR 22 0, vI x1, vR 31 i2, vI (0 : Int32)] [] σ Post) ∧ (¬ ((x1 + (gI σ 31 i2 1)) ≤ (gI σ 22 0 1)) → Post (some (vI (0 : Int32))) σ))) : WS d M_Word_hasAt 0 [vR 22 0, vI x1, vR 31 i2, vU] [] σ Post := by
  refine WS.run (C := []) (pc' := 10) (L' := [vR 22 0, vI x1, vR 31 i2, vU]) (S' := [vI (gI σ 22 0 1), vI (x1 + (gI σ 31 i2 1))]) (σ' := σ) 6 rfl trivial ?_
  refine WS.br (P := (x1 + (gI σ 31 i2 1)) ≤ (gI σ 22 0 1)) (a := 15) (b := 13) (S' := []) rfl (fun c1 => ?_) (fun c1 => ?_)
  · refine WS.run (C := []) (pc' := 17) (L' := [vR 22 0, vI x1, vR 31 i2, vI (0 : Int32)]) (S' := []) (σ' := σ) 2 rfl trivial ?_
    exact (h.1 c1)
  · refine WS.run (C := []) (pc' := 14) (L' := [vR 22 0, vI x1, vR 31 i2, vU]) (S' := [vI (0 : Int32)]) (σ' := σ) 1 rfl trivial ?_
    exact WS.ret rfl rfl (by decide) rfl (h.2 c1)
set_option maxRecDepth 4000 in
set_option maxHeartbeats 400000 in
theorem b_Word_hasAt22_17 {d : Nat} {σ : Mem} {Post : Option AV → Mem → Prop} {x1 x3 : Int32} {i2 : Nat} (h : (((gI σ 31 i2 1) ≤ x3 → Post (some (vI (1 : Int32))) σ) ∧ (¬ ((gI σ 31 i2 1) ≤ x3) → vp_in (x1 + x3) 12 ∧ vp_in x3 4 ∧ (((gI σ 23 0 (x1 + x3).toNatClampNeg) = (gI σ 32 i2 x3.toNatClampNeg) → WS d M_Word_hasAt 17 [vR 22 0, vI x1, vR 31 i2, vI (x3 + (1 : Int32))] [] σ Post) ∧ (¬ ((gI σ 23 0 (x1 + x3).toNatClampNeg) = (gI σ 32 i2 x3.toNatClampNeg)) → Post (some (vI (0 : Int32))) σ))))) : WS d M_Word_hasAt 17 [vR 22 0, vI x1, vR 31 i2, vI x3] [] σ Post := by
  refine WS.run (C := []) (pc' := 22) (L' := [vR 22 0, vI x1, vR 31 i2, vI x3]) (S' := [vI (gI σ 31 i2 1), vI x3]) (σ' := σ) 3 rfl trivial ?_
  refine WS.br (P := (gI σ 31 i2 1) ≤ x3) (a := 50) (b := 25) (S' := []) rfl (fun c2 => ?_) (fun c2 => ?_)
  · refine WS.run (C := []) (pc' := 51) (L' := [vR 22 0, vI x1, vR 31 i2, vI x3]) (S' := [vI (1 : Int32)]) (σ' := σ) 1 rfl trivial ?_
    exact WS.ret rfl rfl (by decide) rfl (h.1 c2)
  · refine WS.run (C := [vp_in (x1 + x3) 12, vp_in x3 4]) (pc' := 39) (L' := [vR 22 0, vI x1, vR 31 i2, vI x3]) (S' := [vI (gI σ 32 i2 x3.toNatClampNeg), vI (gI σ 23 0 (x1 + x3).toNatClampNeg)]) (σ' := σ) 10 rfl ⟨(h.2 c2).1, (h.2 c2).2.1, trivial⟩ ?_
    refine WS.br (P := (gI σ 23 0 (x1 + x3).toNatClampNeg) = (gI σ 32 i2 x3.toNatClampNeg)) (a := 44) (b := 42) (S' := []) rfl (fun c3 => ?_) (fun c3 => ?_)
    · refine WS.run (C := []) (pc' := 17) (L' := [vR 22 0, vI x1, vR 31 i2, vI (x3 + (1 : Int32))]) (S' := []) (σ' := σ) 2 rfl trivial ?_
      exact ((h.2 c2).2.2.1 c3)
    · refine WS.run (C := []) (pc' := 43) (L' := [vR 22 0, vI x1, vR 31 i2, vI x3]) (S' := [vI (0 : Int32)]) (σ' := σ) 1 rfl trivial ?_
      exact WS.ret rfl rfl (by decide) rfl ((h.2 c2).2.2.2 c3)
set_option maxRecDepth 4000 in
set_option maxHeartbeats 400000 in
theorem b_Word_hasAt8_0 {d : Nat} {σ : Mem} {Post : Option AV → Mem → Prop} {x1 : Int32} {i0 i2 : Nat} (h : (((x1 + (gI σ 31 i2 1)) ≤ (gI σ 8 i0 1) → WS d M_Word_hasAt 17 [vR 8 i0, vI x1, vR 31 i2, vI (0 : Int32)] [] σ Post) ∧ (¬ ((x1 + (gI σ 31 i2 1)) ≤ (gI σ 8 i0 1)) → Post (some (vI (0 : Int32))) σ))) : WS d M_Word_hasAt 0 [vR 8 i0, vI x1, vR 31 i2, vU] [] σ Post := by
  refine WS.run (C := []) (pc' := 10) (L' := [vR 8 i0, vI x1, vR 31 i2, vU]) (S' := [vI (gI σ 8 i0 1), vI (x1 + (gI σ 31 i2 1))]) (σ' := σ) 6 rfl trivial ?_
  refine WS.br (P := (x1 + (gI σ 31 i2 1)) ≤ (gI σ 8 i0 1)) (a := 15) (b := 13) (S' := []) rfl (fun c1 => ?_) (fun c1 => ?_)
  · refine WS.run (C := []) (pc' := 17) (L' := [vR 8 i0, vI x1, vR 31 i2, vI (0 : Int32)]) (S' := []) (σ' := σ) 2 rfl trivial ?_
    exact (h.1 c1)
  · refine WS.run (C := []) (pc' := 14) (L' := [vR 8 i0, vI x1, vR 31 i2, vU]) (S' := [vI (0 : Int32)]) (σ' := σ) 1 rfl trivial ?_
    exact WS.ret rfl rfl (by decide) rfl (h.2 c1)
set_option maxRecDepth 4000 in
set_option maxHeartbeats 400000 in
theorem b_Word_hasAt8_17 {d : Nat} {σ : Mem} {Post : Option AV → Mem → Prop} {x1 x3 : Int32} {i0 i2 : Nat} (h : (((gI σ 31 i2 1) ≤ x3 → Post (some (vI (1 : Int32))) σ) ∧ (¬ ((gI σ 31 i2 1) ≤ x3) → vp_in (x1 + x3) 12 ∧ vp_in x3 4 ∧ (((gI σ 9 i0 (x1 + x3).toNatClampNeg) = (gI σ 32 i2 x3.toNatClampNeg) → WS d M_Word_hasAt 17 [vR 8 i0, vI x1, vR 31 i2, vI (x3 + (1 : Int32))] [] σ Post) ∧ (¬ ((gI σ 9 i0 (x1 + x3).toNatClampNeg) = (gI σ 32 i2 x3.toNatClampNeg)) → Post (some (vI (0 : Int32))) σ))))) : WS d M_Word_hasAt 17 [vR 8 i0, vI x1, vR 31 i2, vI x3] [] σ Post := by
  refine WS.run (C := []) (pc' := 22) (L' := [vR 8 i0, vI x1, vR 31 i2, vI x3]) (S' := [vI (gI σ 31 i2 1), vI x3]) (σ' := σ) 3 rfl trivial ?_
  refine WS.br (P := (gI σ 31 i2 1) ≤ x3) (a := 50) (b := 25) (S' := []) rfl (fun c2 => ?_) (fun c2 => ?_)
  · refine WS.run (C := []) (pc' := 51) (L' := [vR 8 i0, vI x1, vR 31 i2, vI x3]) (S' := [vI (1 : Int32)]) (σ' := σ) 1 rfl trivial ?_
    exact WS.ret rfl rfl (by decide) rfl (h.1 c2)
  · refine WS.run (C := [vp_in (x1 + x3) 12, vp_in x3 4]) (pc' := 39) (L' := [vR 8 i0, vI x1, vR 31 i2, vI x3]) (S' := [vI (gI σ 32 i2 x3.toNatClampNeg), vI (gI σ 9 i0 (x1 + x3).toNatClampNeg)]) (σ' := σ) 10 rfl ⟨(h.2 c2).1, (h.2 c2).2.1, trivial⟩ ?_
    refine WS.br (P := (gI σ 9 i0 (x1 + x3).toNatClampNeg) = (gI σ 32 i2 x3.toNatClampNeg)) (a := 44) (b := 42) (S' := []) rfl (fun c3 => ?_) (fun c3 => ?_)
    · refine WS.run (C := []) (pc' := 17) (L' := [vR 8 i0, vI x1, vR 31 i2, vI (x3 + (1 : Int32))]) (S' := []) (σ' := σ) 2 rfl trivial ?_
      exact ((h.2 c2).2.2.1 c3)
    · refine WS.run (C := []) (pc' := 43) (L' := [vR 8 i0, vI x1, vR 31 i2, vI x3]) (S' := [vI (0 : Int32)]) (σ' := σ) 1 rfl trivial ?_
      exact WS.ret rfl rfl (by decide) rfl ((h.2 c2).2.2.2 c3)
set_option maxRecDepth 4000 in
set_option maxHeartbeats 400000 in
theorem b_Speller_shorten_0 {d : Nat} {σ : Mem} {Post : Option AV → Mem → Prop} {x1 x3 : Int32} (h : vp_in x1 10 ∧ MM d M_Word_copy [vR 31 x1.toNatClampNeg, vR 22 0] σ (fun r τ => WS (d + 1) M_Speller_shorten 10 [vR 24 0, vI x1, vR 22 0, vI x3] (r.toList ++ []) τ Post)) : WS (d + 1) M_Speller_shorten 0 [vR 24 0, vI x1, vR 22 0, vI x3] [] σ Post := by
  refine WS.run (C := [vp_in x1 10]) (pc' := 7) (L' := [vR 24 0, vI x1, vR 22 0, vI x3]) (S' := [vR 22 0, vR 31 x1.toNatClampNeg]) (σ' := σ) 5 rfl ⟨h.1, trivial⟩ ?_
  refine WS.callV M_Word_copy (k := 31) (i := x1.toNatClampNeg) (as := [vR 22 0]) (rest := []) rfl lk_7_36 rfl rfl rfl (Nat.le_of_ble_eq_true rfl) ?_
  exact h.2
set_option maxRecDepth 4000 in
set_option maxHeartbeats 400000 in
theorem b_Speller_shorten_10 {d : Nat} {σ : Mem} {Post : Option AV → Mem → Prop} {x1 x3 : Int32} (h : vp_in x1 10 ∧ (∀ σ1 : Mem, σ1 = pI σ 26 0 x1.toNatClampNeg x3 → Post none σ1)) : WS d M_Speller_shorten 10 [vR 24 0, vI x1, vR 22 0, vI x3] [] σ Post := by
  refine WS.run (C := [vp_in x1 10]) (pc' := 17) (L' := [vR 24 0, vI x1, vR 22 0, vI x3]) (S' := []) (σ' := pI σ 26 0 x1.toNatClampNeg x3) 5 rfl ⟨h.1, trivial⟩ ?_
  obtain ⟨σ1, eσ1⟩ : ∃ z, z = pI σ 26 0 x1.toNatClampNeg x3 := ⟨_, rfl⟩
  rw [← eσ1]
  exact WS.vret rfl rfl (h.2 σ1 eσ1)
set_option maxRecDepth 4000 in
set_option maxHeartbeats 400000 in
theorem b_Speller_spell22_0 {d : Nat} {σ : Mem} {Post : Option AV → Mem → Prop}  (h : vp_in (gI σ 22 0 1) 13 ∧ (∀ σ1 : Mem, σ1 = pI σ 27 0 (gI σ 22 0 1).toNatClampNeg (0 : Int32) → WS d M_Speller_spell 17 [vR 24 0, vR 22 0, vI ((gI σ1 22 0 1) - (1 : Int32)), vU] [] σ1 Post)) : WS d M_Speller_spell 0 [vR 24 0, vR 22 0, vU, vU] [] σ Post := by
  refine WS.run (C := [vp_in (gI σ 22 0 1) 13]) (pc' := 10) (L' := [vR 24 0, vR 22 0, vU, vU]) (S' := []) (σ' := pI σ 27 0 (gI σ 22 0 1).toNatClampNeg (0 : Int32)) 6 rfl ⟨h.1, trivial⟩ ?_
  obtain ⟨σ1, eσ1⟩ : ∃ z, z = pI σ 27 0 (gI σ 22 0 1).toNatClampNeg (0 : Int32) := ⟨_, rfl⟩
  rw [← eσ1]
  refine WS.run (C := []) (pc' := 17) (L' := [vR 24 0, vR 22 0, vI ((gI σ1 22 0 1) - (1 : Int32)), vU]) (S' := []) (σ' := σ1) 5 rfl trivial ?_
  exact (h.2 σ1 eσ1)
set_option maxRecDepth 4000 in
set_option maxHeartbeats 400000 in
theorem b_Speller_spell22_17 {d : Nat} {σ : Mem} {Post : Option AV → Mem → Prop} {x2 : Int32} (h : ((x2 < 0 → WS (d + 1) M_Speller_spell 37 [vR 24 0, vR 22 0, vI (0 : Int32), vI (0 : Int32)] [] σ Post) ∧ (¬ (x2 < 0) → MM d M_Speller_findStep [vR 24 0, vR 22 0, vI x2] σ (fun r τ => WS (d + 1) M_Speller_spell 27 [vR 24 0, vR 22 0, vI x2, vU] (r.toList ++ []) τ Post)))) : WS (d + 1) M_Speller_spell 17 [vR 24 0, vR 22 0, vI x2, vU] [] σ Post := by
  refine WS.run (C := []) (pc' := 18) (L' := [vR 24 0, vR 22 0, vI x2, vU]) (S' := [vI x2]) (σ' := σ) 1 rfl trivial ?_
  refine WS.br (P := x2 < 0) (a := 33) (b := 21) (S' := []) rfl (fun c1 => ?_) (fun c1 => ?_)
  · refine WS.run (C := []) (pc' := 37) (L' := [vR 24 0, vR 22 0, vI (0 : Int32), vI (0 : Int32)]) (S' := []) (σ' := σ) 4 rfl trivial ?_
    exact (h.1 c1)
  · refine WS.run (C := []) (pc' := 24) (L' := [vR 24 0, vR 22 0, vI x2, vU]) (S' := [vI x2, vR 22 0, vR 24 0]) (σ' := σ) 3 rfl trivial ?_
    refine WS.callV M_Speller_findStep (k := 24) (i := 0) (as := [vR 22 0, vI x2]) (rest := []) rfl lk_7_44 rfl rfl rfl (Nat.le_of_ble_eq_true rfl) ?_
    exact (h.2 c1)
set_option maxRecDepth 4000 in
set_option maxHeartbeats 400000 in
theorem b_Speller_spell22_27 {d : Nat} {σ : Mem} {Post : Option AV → Mem → Prop} {x2 : Int32} (h : WS d M_Speller_spell 17 [vR 24 0, vR 22 0, vI (x2 + (-1 : Int32)), vU] [] σ Post) : WS d M_Speller_spell 27 [vR 24 0, vR 22 0, vI x2, vU] [] σ Post := by
  refine WS.run (C := []) (pc' := 17) (L' := [vR 24 0, vR 22 0, vI (x2 + (-1 : Int32)), vU]) (S' := []) (σ' := σ) 2 rfl trivial ?_
  exact h
set_option maxRecDepth 4000 in
set_option maxHeartbeats 400000 in
theorem b_Speller_spell22_37 {d : Nat} {σ : Mem} {Post : Option AV → Mem → Prop} {x2 x3 : Int32} (h : vp_in (0 : Int32) 13 ∧ (((gI σ 27 0 (0 : Int32).toNatClampNeg) ≤ x3 → vp_in (0 : Int32) 13 ∧ Post (some (vI (gI σ 27 0 (0 : Int32).toNatClampNeg))) σ) ∧ (¬ ((gI σ 27 0 (0 : Int32).toNatClampNeg) ≤ x3) → vp_in x2 12 ∧ vp_in x3 12 ∧ (∀ σ1 : Mem, σ1 = pI σ 30 0 x3.toNatClampNeg (gI σ 29 0 x2.toNatClampNeg) → vp_in x2 12 ∧ WS d M_Speller_spell 37 [vR 24 0, vR 22 0, vI (x2 + (gI σ1 28 0 x2.toNatClampNeg)), vI (x3 + (1 : Int32))] [] σ1 Post)))) : WS d M_Speller_spell 37 [vR 24 0, vR 22 0, vI x2, vI x3] [] σ Post := by
  refine WS.run (C := [vp_in (0 : Int32) 13]) (pc' := 44) (L' := [vR 24 0, vR 22 0, vI x2, vI x3]) (S' := [vI (gI σ 27 0 (0 : Int32).toNatClampNeg), vI x3]) (σ' := σ) 5 rfl ⟨h.1, trivial⟩ ?_
  refine WS.br (P := (gI σ 27 0 (0 : Int32).toNatClampNeg) ≤ x3) (a := 74) (b := 47) (S' := []) rfl (fun c2 => ?_) (fun c2 => ?_)
  · refine WS.run (C := [vp_in (0 : Int32) 13]) (pc' := 80) (L' := [vR 24 0, vR 22 0, vI x2, vI x3]) (S' := [vI (gI σ 27 0 (0 : Int32).toNatClampNeg)]) (σ' := σ) 4 rfl ⟨(h.2.1 c2).1, trivial⟩ ?_
    exact WS.ret rfl rfl (by decide) rfl (h.2.1 c2).2
  · refine WS.run (C := [vp_in x2 12, vp_in x3 12]) (pc' := 59) (L' := [vR 24 0, vR 22 0, vI x2, vI x3]) (S' := []) (σ' := pI σ 30 0 x3.toNatClampNeg (gI σ 29 0 x2.toNatClampNeg)) 8 rfl ⟨(h.2.2 c2).1, (h.2.2 c2).2.1, trivial⟩ ?_
    obtain ⟨σ1, eσ1⟩ : ∃ z, z = pI σ 30 0 x3.toNatClampNeg (gI σ 29 0 x2.toNatClampNeg) := ⟨_, rfl⟩
    rw [← eσ1]
    refine WS.run (C := [vp_in x2 12]) (pc' := 37) (L' := [vR 24 0, vR 22 0, vI (x2 + (gI σ1 28 0 x2.toNatClampNeg)), vI (x3 + (1 : Int32))]) (S' := []) (σ' := σ1) 9 rfl ⟨((h.2.2 c2).2.2 σ1 eσ1).1, trivial⟩ ?_
    exact ((h.2.2 c2).2.2 σ1 eσ1).2
set_option maxRecDepth 4000 in
set_option maxHeartbeats 400000 in
theorem b_Speller_spell8_0 {d : Nat} {σ : Mem} {Post : Option AV → Mem → Prop} {i1 : Nat} (h : vp_in (gI σ 8 i1 1) 13 ∧ (∀ σ1 : Mem, σ1 = pI σ 27 0 (gI σ 8 i1 1).toNatClampNeg (0 : Int32) → WS d M_Speller_spell 17 [vR 24 0, vR 8 i1, vI ((gI σ1 8 i1 1) - (1 : Int32)), vU] [] σ1 Post)) : WS d M_Speller_spell 0 [vR 24 0, vR 8 i1, vU, vU] [] σ Post := by
  refine WS.run (C := [vp_in (gI σ 8 i1 1) 13]) (pc' := 10) (L' := [vR 24 0, vR 8 i1, vU, vU]) (S' := []) (σ' := pI σ 27 0 (gI σ 8 i1 1).toNatClampNeg (0 : Int32)) 6 rfl ⟨h.1, trivial⟩ ?_
  obtain ⟨σ1, eσ1⟩ : ∃ z, z = pI σ 27 0 (gI σ 8 i1 1).toNatClampNeg (0 : Int32) := ⟨_, rfl⟩
  rw [← eσ1]
  refine WS.run (C := []) (pc' := 17) (L' := [vR 24 0, vR 8 i1, vI ((gI σ1 8 i1 1) - (1 : Int32)), vU]) (S' := []) (σ' := σ1) 5 rfl trivial ?_
  exact (h.2 σ1 eσ1)
set_option maxRecDepth 4000 in
set_option maxHeartbeats 400000 in
theorem b_Speller_spell8_17 {d : Nat} {σ : Mem} {Post : Option AV → Mem → Prop} {x2 : Int32} {i1 : Nat} (h : ((x2 < 0 → WS (d + 1) M_Speller_spell 37 [vR 24 0, vR 8 i1, vI (0 : Int32), vI (0 : Int32)] [] σ Post) ∧ (¬ (x2 < 0) → MM d M_Speller_findStep [vR 24 0, vR 8 i1, vI x2] σ (fun r τ => WS (d + 1) M_Speller_spell 27 [vR 24 0, vR 8 i1, vI x2, vU] (r.toList ++ []) τ Post)))) : WS (d + 1) M_Speller_spell 17 [vR 24 0, vR 8 i1, vI x2, vU] [] σ Post := by
  refine WS.run (C := []) (pc' := 18) (L' := [vR 24 0, vR 8 i1, vI x2, vU]) (S' := [vI x2]) (σ' := σ) 1 rfl trivial ?_
  refine WS.br (P := x2 < 0) (a := 33) (b := 21) (S' := []) rfl (fun c1 => ?_) (fun c1 => ?_)
  · refine WS.run (C := []) (pc' := 37) (L' := [vR 24 0, vR 8 i1, vI (0 : Int32), vI (0 : Int32)]) (S' := []) (σ' := σ) 4 rfl trivial ?_
    exact (h.1 c1)
  · refine WS.run (C := []) (pc' := 24) (L' := [vR 24 0, vR 8 i1, vI x2, vU]) (S' := [vI x2, vR 8 i1, vR 24 0]) (σ' := σ) 3 rfl trivial ?_
    refine WS.callV M_Speller_findStep (k := 24) (i := 0) (as := [vR 8 i1, vI x2]) (rest := []) rfl lk_7_44 rfl rfl rfl (Nat.le_of_ble_eq_true rfl) ?_
    exact (h.2 c1)
set_option maxRecDepth 4000 in
set_option maxHeartbeats 400000 in
theorem b_Speller_spell8_27 {d : Nat} {σ : Mem} {Post : Option AV → Mem → Prop} {x2 : Int32} {i1 : Nat} (h : WS d M_Speller_spell 17 [vR 24 0, vR 8 i1, vI (x2 + (-1 : Int32)), vU] [] σ Post) : WS d M_Speller_spell 27 [vR 24 0, vR 8 i1, vI x2, vU] [] σ Post := by
  refine WS.run (C := []) (pc' := 17) (L' := [vR 24 0, vR 8 i1, vI (x2 + (-1 : Int32)), vU]) (S' := []) (σ' := σ) 2 rfl trivial ?_
  exact h
set_option maxRecDepth 4000 in
set_option maxHeartbeats 400000 in
theorem b_Speller_spell8_37 {d : Nat} {σ : Mem} {Post : Option AV → Mem → Prop} {x2 x3 : Int32} {i1 : Nat} (h : vp_in (0 : Int32) 13 ∧ (((gI σ 27 0 (0 : Int32).toNatClampNeg) ≤ x3 → vp_in (0 : Int32) 13 ∧ Post (some (vI (gI σ 27 0 (0 : Int32).toNatClampNeg))) σ) ∧ (¬ ((gI σ 27 0 (0 : Int32).toNatClampNeg) ≤ x3) → vp_in x2 12 ∧ vp_in x3 12 ∧ (∀ σ1 : Mem, σ1 = pI σ 30 0 x3.toNatClampNeg (gI σ 29 0 x2.toNatClampNeg) → vp_in x2 12 ∧ WS d M_Speller_spell 37 [vR 24 0, vR 8 i1, vI (x2 + (gI σ1 28 0 x2.toNatClampNeg)), vI (x3 + (1 : Int32))] [] σ1 Post)))) : WS d M_Speller_spell 37 [vR 24 0, vR 8 i1, vI x2, vI x3] [] σ Post := by
  refine WS.run (C := [vp_in (0 : Int32) 13]) (pc' := 44) (L' := [vR 24 0, vR 8 i1, vI x2, vI x3]) (S' := [vI (gI σ 27 0 (0 : Int32).toNatClampNeg), vI x3]) (σ' := σ) 5 rfl ⟨h.1, trivial⟩ ?_
  refine WS.br (P := (gI σ 27 0 (0 : Int32).toNatClampNeg) ≤ x3) (a := 74) (b := 47) (S' := []) rfl (fun c2 => ?_) (fun c2 => ?_)
  · refine WS.run (C := [vp_in (0 : Int32) 13]) (pc' := 80) (L' := [vR 24 0, vR 8 i1, vI x2, vI x3]) (S' := [vI (gI σ 27 0 (0 : Int32).toNatClampNeg)]) (σ' := σ) 4 rfl ⟨(h.2.1 c2).1, trivial⟩ ?_
    exact WS.ret rfl rfl (by decide) rfl (h.2.1 c2).2
  · refine WS.run (C := [vp_in x2 12, vp_in x3 12]) (pc' := 59) (L' := [vR 24 0, vR 8 i1, vI x2, vI x3]) (S' := []) (σ' := pI σ 30 0 x3.toNatClampNeg (gI σ 29 0 x2.toNatClampNeg)) 8 rfl ⟨(h.2.2 c2).1, (h.2.2 c2).2.1, trivial⟩ ?_
    obtain ⟨σ1, eσ1⟩ : ∃ z, z = pI σ 30 0 x3.toNatClampNeg (gI σ 29 0 x2.toNatClampNeg) := ⟨_, rfl⟩
    rw [← eσ1]
    refine WS.run (C := [vp_in x2 12]) (pc' := 37) (L' := [vR 24 0, vR 8 i1, vI (x2 + (gI σ1 28 0 x2.toNatClampNeg)), vI (x3 + (1 : Int32))]) (S' := []) (σ' := σ1) 9 rfl ⟨((h.2.2 c2).2.2 σ1 eσ1).1, trivial⟩ ?_
    exact ((h.2.2 c2).2.2 σ1 eσ1).2
set_option maxRecDepth 4000 in
set_option maxHeartbeats 400000 in
theorem b_Speller_findStep22_0 {d : Nat} {σ : Mem} {Post : Option AV → Mem → Prop} {x2 : Int32} (h : vp_in (x2 + (1 : Int32)) 13 ∧ vp_in x2 13 ∧ (∀ σ1 : Mem, σ1 = pI σ 27 0 x2.toNatClampNeg ((gI σ 27 0 (x2 + (1 : Int32)).toNatClampNeg) + (1 : Int32)) → vp_in x2 12 ∧ (∀ σ2 : Mem, σ2 = pI σ1 28 0 x2.toNatClampNeg (1 : Int32) → vp_in x2 12 ∧ vp_in ((gI σ2 23 0 x2.toNatClampNeg) - (97 : Int32)) 26 ∧ vp_in x2 12 ∧ (∀ σ3 : Mem, σ3 = pI σ2 29 0 x2.toNatClampNeg (gI σ2 85 0 ((gI σ2 23 0 x2.toNatClampNeg) - (97 : Int32)).toNatClampNeg) → WS d M_Speller_findStep 44 [vR 24 0, vR 22 0, vI x2, vI (0 : Int32)] [] σ3 Post)))) : WS d M_Speller_findStep 0 [vR 24 0, vR 22 0, vI x2, vU] [] σ Post := by
  refine WS.run (C := [vp_in (x2 + (1 : Int32)) 13, vp_in x2 13]) (pc' := 16) (L' := [vR 24 0, vR 22 0, vI x2, vU]) (S' := []) (σ' := pI σ 27 0 x2.toNatClampNeg ((gI σ 27 0 (x2 + (1 : Int32)).toNatClampNeg) + (1 : Int32))) 12 rfl ⟨h.1, h.2.1, trivial⟩ ?_
  obtain ⟨σ1, eσ1⟩ : ∃ z, z = pI σ 27 0 x2.toNatClampNeg ((gI σ 27 0 (x2 + (1 : Int32)).toNatClampNeg) + (1 : Int32)) := ⟨_, rfl⟩
  rw [← eσ1]
  refine WS.run (C := [vp_in x2 12]) (pc' := 23) (L' := [vR 24 0, vR 22 0, vI x2, vU]) (S' := []) (σ' := pI σ1 28 0 x2.toNatClampNeg (1 : Int32)) 5 rfl ⟨(h.2.2 σ1 eσ1).1, trivial⟩ ?_
  obtain ⟨σ2, eσ2⟩ : ∃ z, z = pI σ1 28 0 x2.toNatClampNeg (1 : Int32) := ⟨_, rfl⟩
  rw [← eσ2]
  refine WS.run (C := [vp_in x2 12, vp_in ((gI σ2 23 0 x2.toNatClampNeg) - (97 : Int32)) 26, vp_in x2 12]) (pc' := 42) (L' := [vR 24 0, vR 22 0, vI x2, vU]) (S' := []) (σ' := pI σ2 29 0 x2.toNatClampNeg (gI σ2 85 0 ((gI σ2 23 0 x2.toNatClampNeg) - (97 : Int32)).toNatClampNeg)) 12 rfl ⟨((h.2.2 σ1 eσ1).2 σ2 eσ2).1, ((h.2.2 σ1 eσ1).2 σ2 eσ2).2.1, ((h.2.2 σ1 eσ1).2 σ2 eσ2).2.2.1, trivial⟩ ?_
  obtain ⟨σ3, eσ3⟩ : ∃ z, z = pI σ2 29 0 x2.toNatClampNeg (gI σ2 85 0 ((gI σ2 23 0 x2.toNatClampNeg) - (97 : Int32)).toNatClampNeg) := ⟨_, rfl⟩
  rw [← eσ3]
  refine WS.run (C := []) (pc' := 44) (L' := [vR 24 0, vR 22 0, vI x2, vI (0 : Int32)]) (S' := []) (σ' := σ3) 2 rfl trivial ?_
  exact (((h.2.2 σ1 eσ1).2 σ2 eσ2).2.2.2 σ3 eσ3)
set_option maxRecDepth 4000 in
set_option maxHeartbeats 400000 in
theorem b_Speller_findStep22_44 {d : Nat} {σ : Mem} {Post : Option AV → Mem → Prop} {x2 x3 : Int32} (h : (((10 : Int32) ≤ x3 → Post none σ) ∧ (¬ ((10 : Int32) ≤ x3) → vp_in x3 10 ∧ (((gI σ 26 0 x3.toNatClampNeg) = 0 → WS (d + 1) M_Speller_findStep 93 [vR 24 0, vR 22 0, vI x2, vI x3] [] σ Post) ∧ (¬ ((gI σ 26 0 x3.toNatClampNeg) = 0) → vp_in x3 10 ∧ MM d M_Word_hasAt [vR 22 0, vI x2, vR 31 x3.toNatClampNeg] σ (fun r τ => WS (d + 1) M_Speller_findStep 70 [vR 24 0, vR 22 0, vI x2, vI x3] (r.toList ++ []) τ Post)))))) : WS (d + 1) M_Speller_findStep 44 [vR 24 0, vR 22 0, vI x2, vI x3] [] σ Post := by
  refine WS.run (C := []) (pc' := 47) (L' := [vR 24 0, vR 22 0, vI x2, vI x3]) (S' := [vI (10 : Int32), vI x3]) (σ' := σ) 2 rfl trivial ?_
  refine WS.br (P := (10 : Int32) ≤ x3) (a := 99) (b := 50) (S' := []) rfl (fun c1 => ?_) (fun c1 => ?_)
  · exact WS.vret rfl rfl (h.1 c1)
  · refine WS.run (C := [vp_in x3 10]) (pc' := 56) (L' := [vR 24 0, vR 22 0, vI x2, vI x3]) (S' := [vI (gI σ 26 0 x3.toNatClampNeg)]) (σ' := σ) 4 rfl ⟨(h.2 c1).1, trivial⟩ ?_
    refine WS.br (P := (gI σ 26 0 x3.toNatClampNeg) = 0) (a := 93) (b := 59) (S' := []) rfl (fun c2 => ?_) (fun c2 => ?_)
    · exact ((h.2 c1).2.1 c2)
    · refine WS.run (C := [vp_in x3 10]) (pc' := 67) (L' := [vR 24 0, vR 22 0, vI x2, vI x3]) (S' := [vR 31 x3.toNatClampNeg, vI x2, vR 22 0]) (σ' := σ) 6 rfl ⟨((h.2 c1).2.2 c2).1, trivial⟩ ?_
      refine WS.callV M_Word_hasAt (k := 22) (i := 0) (as := [vI x2, vR 31 x3.toNatClampNeg]) (rest := []) rfl lk_7_54 rfl rfl rfl (Nat.le_of_ble_eq_true rfl) ?_
      exact ((h.2 c1).2.2 c2).2
set_option maxRecDepth 4000 in
set_option maxHeartbeats 400000 in
theorem b_Speller_findStep22_70t {d : Nat} {σ : Mem} {Post : Option AV → Mem → Prop} {x2 x3 : Int32} (h : vp_in x3 10 ∧ vp_in x3 10 ∧ MM d M_Speller_offerStep [vR 24 0, vI x2, vI (gI σ 31 x3.toNatClampNeg 1), vI (gI σ 26 0 x3.toNatClampNeg)] σ (fun r τ => WS (d + 1) M_Speller_findStep 93 [vR 24 0, vR 22 0, vI x2, vI x3] (r.toList ++ []) τ Post)) : WS (d + 1) M_Speller_findStep 70 [vR 24 0, vR 22 0, vI x2, vI x3] [vI (1 : Int32)] σ Post := by
  refine WS.br (P := (1 : Int32) = 0) (a := 93) (b := 73) (S' := []) rfl (fun cc => absurd cc (by decide)) (fun _ => ?_)
  refine WS.run (C := [vp_in x3 10, vp_in x3 10]) (pc' := 90) (L' := [vR 24 0, vR 22 0, vI x2, vI x3]) (S' := [vI (gI σ 26 0 x3.toNatClampNeg), vI (gI σ 31 x3.toNatClampNeg 1), vI x2, vR 24 0]) (σ' := σ) 11 rfl ⟨h.1, h.2.1, trivial⟩ ?_
  refine WS.callV M_Speller_offerStep (k := 24) (i := 0) (as := [vI x2, vI (gI σ 31 x3.toNatClampNeg 1), vI (gI σ 26 0 x3.toNatClampNeg)]) (rest := []) rfl lk_7_58 rfl rfl rfl (Nat.le_of_ble_eq_true rfl) ?_
  exact h.2.2
set_option maxRecDepth 4000 in
set_option maxHeartbeats 400000 in
theorem b_Speller_findStep22_70f {d : Nat} {σ : Mem} {Post : Option AV → Mem → Prop} {x2 x3 : Int32} (h : WS d M_Speller_findStep 93 [vR 24 0, vR 22 0, vI x2, vI x3] [] σ Post) : WS d M_Speller_findStep 70 [vR 24 0, vR 22 0, vI x2, vI x3] [vI (0 : Int32)] σ Post := by
  refine WS.br (P := (0 : Int32) = 0) (a := 93) (b := 73) (S' := []) rfl (fun _ => ?_) (fun cc => absurd (by decide) cc)
  exact h
set_option maxRecDepth 4000 in
set_option maxHeartbeats 400000 in
theorem b_Speller_findStep22_93 {d : Nat} {σ : Mem} {Post : Option AV → Mem → Prop} {x2 x3 : Int32} (h : WS d M_Speller_findStep 44 [vR 24 0, vR 22 0, vI x2, vI (x3 + (1 : Int32))] [] σ Post) : WS d M_Speller_findStep 93 [vR 24 0, vR 22 0, vI x2, vI x3] [] σ Post := by
  refine WS.run (C := []) (pc' := 44) (L' := [vR 24 0, vR 22 0, vI x2, vI (x3 + (1 : Int32))]) (S' := []) (σ' := σ) 2 rfl trivial ?_
  exact h
set_option maxRecDepth 4000 in
set_option maxHeartbeats 400000 in
theorem b_Speller_findStep8_0 {d : Nat} {σ : Mem} {Post : Option AV → Mem → Prop} {x2 : Int32} {i1 : Nat} (h : vp_in (x2 + (1 : Int32)) 13 ∧ vp_in x2 13 ∧ (∀ σ1 : Mem, σ1 = pI σ 27 0 x2.toNatClampNeg ((gI σ 27 0 (x2 + (1 : Int32)).toNatClampNeg) + (1 : Int32)) → vp_in x2 12 ∧ (∀ σ2 : Mem, σ2 = pI σ1 28 0 x2.toNatClampNeg (1 : Int32) → vp_in x2 12 ∧ vp_in ((gI σ2 9 i1 x2.toNatClampNeg) - (97 : Int32)) 26 ∧ vp_in x2 12 ∧ (∀ σ3 : Mem, σ3 = pI σ2 29 0 x2.toNatClampNeg (gI σ2 85 0 ((gI σ2 9 i1 x2.toNatClampNeg) - (97 : Int32)).toNatClampNeg) → WS d M_Speller_findStep 44 [vR 24 0, vR 8 i1, vI x2, vI (0 : Int32)] [] σ3 Post)))) : WS d M_Speller_findStep 0 [vR 24 0, vR 8 i1, vI x2, vU] [] σ Post := by
  refine WS.run (C := [vp_in (x2 + (1 : Int32)) 13, vp_in x2 13]) (pc' := 16) (L' := [vR 24 0, vR 8 i1, vI x2, vU]) (S' := []) (σ' := pI σ 27 0 x2.toNatClampNeg ((gI σ 27 0 (x2 + (1 : Int32)).toNatClampNeg) + (1 : Int32))) 12 rfl ⟨h.1, h.2.1, trivial⟩ ?_
  obtain ⟨σ1, eσ1⟩ : ∃ z, z = pI σ 27 0 x2.toNatClampNeg ((gI σ 27 0 (x2 + (1 : Int32)).toNatClampNeg) + (1 : Int32)) := ⟨_, rfl⟩
  rw [← eσ1]
  refine WS.run (C := [vp_in x2 12]) (pc' := 23) (L' := [vR 24 0, vR 8 i1, vI x2, vU]) (S' := []) (σ' := pI σ1 28 0 x2.toNatClampNeg (1 : Int32)) 5 rfl ⟨(h.2.2 σ1 eσ1).1, trivial⟩ ?_
  obtain ⟨σ2, eσ2⟩ : ∃ z, z = pI σ1 28 0 x2.toNatClampNeg (1 : Int32) := ⟨_, rfl⟩
  rw [← eσ2]
  refine WS.run (C := [vp_in x2 12, vp_in ((gI σ2 9 i1 x2.toNatClampNeg) - (97 : Int32)) 26, vp_in x2 12]) (pc' := 42) (L' := [vR 24 0, vR 8 i1, vI x2, vU]) (S' := []) (σ' := pI σ2 29 0 x2.toNatClampNeg (gI σ2 85 0 ((gI σ2 9 i1 x2.toNatClampNeg) - (97 : Int32)).toNatClampNeg)) 12 rfl ⟨((h.2.2 σ1 eσ1).2 σ2 eσ2).1, ((h.2.2 σ1 eσ1).2 σ2 eσ2).2.1, ((h.2.2 σ1 eσ1).2 σ2 eσ2).2.2.1, trivial⟩ ?_
  obtain ⟨σ3, eσ3⟩ : ∃ z, z = pI σ2 29 0 x2.toNatClampNeg (gI σ2 85 0 ((gI σ2 9 i1 x2.toNatClampNeg) - (97 : Int32)).toNatClampNeg) := ⟨_, rfl⟩
  rw [← eσ3]
  refine WS.run (C := []) (pc' := 44) (L' := [vR 24 0, vR 8 i1, vI x2, vI (0 : Int32)]) (S' := []) (σ' := σ3) 2 rfl trivial ?_
  exact (((h.2.2 σ1 eσ1).2 σ2 eσ2).2.2.2 σ3 eσ3)
set_option maxRecDepth 4000 in
set_option maxHeartbeats 400000 in
theorem b_Speller_findStep8_44 {d : Nat} {σ : Mem} {Post : Option AV → Mem → Prop} {x2 x3 : Int32} {i1 : Nat} (h : (((10 : Int32) ≤ x3 → Post none σ) ∧ (¬ ((10 : Int32) ≤ x3) → vp_in x3 10 ∧ (((gI σ 26 0 x3.toNatClampNeg) = 0 → WS (d + 1) M_Speller_findStep 93 [vR 24 0, vR 8 i1, vI x2, vI x3] [] σ Post) ∧ (¬ ((gI σ 26 0 x3.toNatClampNeg) = 0) → vp_in x3 10 ∧ MM d M_Word_hasAt [vR 8 i1, vI x2, vR 31 x3.toNatClampNeg] σ (fun r τ => WS (d + 1) M_Speller_findStep 70 [vR 24 0, vR 8 i1, vI x2, vI x3] (r.toList ++ []) τ Post)))))) : WS (d + 1) M_Speller_findStep 44 [vR 24 0, vR 8 i1, vI x2, vI x3] [] σ Post := by
  refine WS.run (C := []) (pc' := 47) (L' := [vR 24 0, vR 8 i1, vI x2, vI x3]) (S' := [vI (10 : Int32), vI x3]) (σ' := σ) 2 rfl trivial ?_
  refine WS.br (P := (10 : Int32) ≤ x3) (a := 99) (b := 50) (S' := []) rfl (fun c1 => ?_) (fun c1 => ?_)
  · exact WS.vret rfl rfl (h.1 c1)
  · refine WS.run (C := [vp_in x3 10]) (pc' := 56) (L' := [vR 24 0, vR 8 i1, vI x2, vI x3]) (S' := [vI (gI σ 26 0 x3.toNatClampNeg)]) (σ' := σ) 4 rfl ⟨(h.2 c1).1, trivial⟩ ?_
    refine WS.br (P := (gI σ 26 0 x3.toNatClampNeg) = 0) (a := 93) (b := 59) (S' := []) rfl (fun c2 => ?_) (fun c2 => ?_)
    · exact ((h.2 c1).2.1 c2)
    · refine WS.run (C := [vp_in x3 10]) (pc' := 67) (L' := [vR 24 0, vR 8 i1, vI x2, vI x3]) (S' := [vR 31 x3.toNatClampNeg, vI x2, vR 8 i1]) (σ' := σ) 6 rfl ⟨((h.2 c1).2.2 c2).1, trivial⟩ ?_
      refine WS.callV M_Word_hasAt (k := 8) (i := i1) (as := [vI x2, vR 31 x3.toNatClampNeg]) (rest := []) rfl lk_7_54 rfl rfl rfl (Nat.le_of_ble_eq_true rfl) ?_
      exact ((h.2 c1).2.2 c2).2
set_option maxRecDepth 4000 in
set_option maxHeartbeats 400000 in
theorem b_Speller_findStep8_70t {d : Nat} {σ : Mem} {Post : Option AV → Mem → Prop} {x2 x3 : Int32} {i1 : Nat} (h : vp_in x3 10 ∧ vp_in x3 10 ∧ MM d M_Speller_offerStep [vR 24 0, vI x2, vI (gI σ 31 x3.toNatClampNeg 1), vI (gI σ 26 0 x3.toNatClampNeg)] σ (fun r τ => WS (d + 1) M_Speller_findStep 93 [vR 24 0, vR 8 i1, vI x2, vI x3] (r.toList ++ []) τ Post)) : WS (d + 1) M_Speller_findStep 70 [vR 24 0, vR 8 i1, vI x2, vI x3] [vI (1 : Int32)] σ Post := by
  refine WS.br (P := (1 : Int32) = 0) (a := 93) (b := 73) (S' := []) rfl (fun cc => absurd cc (by decide)) (fun _ => ?_)
  refine WS.run (C := [vp_in x3 10, vp_in x3 10]) (pc' := 90) (L' := [vR 24 0, vR 8 i1, vI x2, vI x3]) (S' := [vI (gI σ 26 0 x3.toNatClampNeg), vI (gI σ 31 x3.toNatClampNeg 1), vI x2, vR 24 0]) (σ' := σ) 11 rfl ⟨h.1, h.2.1, trivial⟩ ?_
  refine WS.callV M_Speller_offerStep (k := 24) (i := 0) (as := [vI x2, vI (gI σ 31 x3.toNatClampNeg 1), vI (gI σ 26 0 x3.toNatClampNeg)]) (rest := []) rfl lk_7_58 rfl rfl rfl (Nat.le_of_ble_eq_true rfl) ?_
  exact h.2.2
set_option maxRecDepth 4000 in
set_option maxHeartbeats 400000 in
theorem b_Speller_findStep8_70f {d : Nat} {σ : Mem} {Post : Option AV → Mem → Prop} {x2 x3 : Int32} {i1 : Nat} (h : WS d M_Speller_findStep 93 [vR 24 0, vR 8 i1, vI x2, vI x3] [] σ Post) : WS d M_Speller_findStep 70 [vR 24 0, vR 8 i1, vI x2, vI x3] [vI (0 : Int32)] σ Post := by
  refine WS.br (P := (0 : Int32) = 0) (a := 93) (b := 73) (S' := []) rfl (fun _ => ?_) (fun cc => absurd (by decide) cc)
  exact h
set_option maxRecDepth 4000 in
set_option maxHeartbeats 400000 in
theorem b_Speller_findStep8_93 {d : Nat} {σ : Mem} {Post : Option AV → Mem → Prop} {x2 x3 : Int32} {i1 : Nat} (h : WS d M_Speller_findStep 44 [vR 24 0, vR 8 i1, vI x2, vI (x3 + (1 : Int32))] [] σ Post) : WS d M_Speller_findStep 93 [vR 24 0, vR 8 i1, vI x2, vI x3] [] σ Post := by
  refine WS.run (C := []) (pc' := 44) (L' := [vR 24 0, vR 8 i1, vI x2, vI (x3 + (1 : Int32))]) (S' := []) (σ' := σ) 2 rfl trivial ?_
  exact h
set_option maxRecDepth 4000 in
set_option maxHeartbeats 400000 in
theorem b_Speller_offerStep_0 {d : Nat} {σ : Mem} {Post : Option AV → Mem → Prop} {x1 x2 x3 : Int32} (h : vp_in (x1 + x2) 13 ∧ vp_in x1 13 ∧ ((((gI σ 27 0 (x1 + x2).toNatClampNeg) + (1 : Int32)) < (gI σ 27 0 x1.toNatClampNeg) → vp_in x1 13 ∧ (∀ σ1 : Mem, σ1 = pI σ 27 0 x1.toNatClampNeg ((gI σ 27 0 (x1 + x2).toNatClampNeg) + (1 : Int32)) → vp_in x1 12 ∧ (∀ σ2 : Mem, σ2 = pI σ1 28 0 x1.toNatClampNeg x2 → vp_in x1 12 ∧ (∀ σ3 : Mem, σ3 = pI σ2 29 0 x1.toNatClampNeg x3 → Post none σ3)))) ∧ (¬ (((gI σ 27 0 (x1 + x2).toNatClampNeg) + (1 : Int32)) < (gI σ 27 0 x1.toNatClampNeg)) → vp_in x1 13 ∧ ((((gI σ 27 0 (x1 + x2).toNatClampNeg) + (1 : Int32)) = (gI σ 27 0 x1.toNatClampNeg) → vp_in x1 12 ∧ ((x2 ≤ (gI σ 28 0 x1.toNatClampNeg) → Post none σ) ∧ (¬ (x2 ≤ (gI σ 28 0 x1.toNatClampNeg)) → vp_in x1 13 ∧ (∀ σ4 : Mem, σ4 = pI σ 27 0 x1.toNatClampNeg ((gI σ 27 0 (x1 + x2).toNatClampNeg) + (1 : Int32)) → vp_in x1 12 ∧ (∀ σ5 : Mem, σ5 = pI σ4 28 0 x1.toNatClampNeg x2 → vp_in x1 12 ∧ (∀ σ6 : Mem, σ6 = pI σ5 29 0 x1.toNatClampNeg x3 → Post none σ6)))))) ∧ (¬ (((gI σ 27 0 (x1 + x2).toNatClampNeg) + (1 : Int32)) = (gI σ 27 0 x1.toNatClampNeg)) → Post none σ))))) : WS d M_Speller_offerStep 0 [vR 24 0, vI x1, vI x2, vI x3, vU] [] σ Post := by
  refine WS.run (C := [vp_in (x1 + x2) 13, vp_in x1 13]) (pc' := 20) (L' := [vR 24 0, vI x1, vI x2, vI x3, vI ((gI σ 27 0 (x1 + x2).toNatClampNeg) + (1 : Int32))]) (S' := [vI (gI σ 27 0 x1.toNatClampNeg), vI ((gI σ 27 0 (x1 + x2).toNatClampNeg) + (1 : Int32))]) (σ' := σ) 14 rfl ⟨h.1, h.2.1, trivial⟩ ?_
  refine WS.br (P := ((gI σ 27 0 (x1 + x2).toNatClampNeg) + (1 : Int32)) < (gI σ 27 0 x1.toNatClampNeg)) (a := 44) (b := 23) (S' := []) rfl (fun c1 => ?_) (fun c1 => ?_)
  · refine WS.run (C := [vp_in x1 13]) (pc' := 52) (L' := [vR 24 0, vI x1, vI x2, vI x3, vI ((gI σ 27 0 (x1 + x2).toNatClampNeg) + (1 : Int32))]) (S' := []) (σ' := pI σ 27 0 x1.toNatClampNeg ((gI σ 27 0 (x1 + x2).toNatClampNeg) + (1 : Int32))) 5 rfl ⟨(h.2.2.1 c1).1, trivial⟩ ?_
    obtain ⟨σ1, eσ1⟩ : ∃ z, z = pI σ 27 0 x1.toNatClampNeg ((gI σ 27 0 (x1 + x2).toNatClampNeg) + (1 : Int32)) := ⟨_, rfl⟩
    rw [← eσ1]
    refine WS.run (C := [vp_in x1 12]) (pc' := 59) (L' := [vR 24 0, vI x1, vI x2, vI x3, vI ((gI σ 27 0 (x1 + x2).toNatClampNeg) + (1 : Int32))]) (S' := []) (σ' := pI σ1 28 0 x1.toNatClampNeg x2) 5 rfl ⟨((h.2.2.1 c1).2 σ1 eσ1).1, trivial⟩ ?_
    obtain ⟨σ2, eσ2⟩ : ∃ z, z = pI σ1 28 0 x1.toNatClampNeg x2 := ⟨_, rfl⟩
    rw [← eσ2]
    refine WS.run (C := [vp_in x1 12]) (pc' := 66) (L' := [vR 24 0, vI x1, vI x2, vI x3, vI ((gI σ 27 0 (x1 + x2).toNatClampNeg) + (1 : Int32))]) (S' := []) (σ' := pI σ2 29 0 x1.toNatClampNeg x3) 5 rfl ⟨(((h.2.2.1 c1).2 σ1 eσ1).2 σ2 eσ2).1, trivial⟩ ?_
    obtain ⟨σ3, eσ3⟩ : ∃ z, z = pI σ2 29 0 x1.toNatClampNeg x3 := ⟨_, rfl⟩
    rw [← eσ3]
    exact WS.vret rfl rfl ((((h.2.2.1 c1).2 σ1 eσ1).2 σ2 eσ2).2 σ3 eσ3)
  · refine WS.run (C := [vp_in x1 13]) (pc' := 31) (L' := [vR 24 0, vI x1, vI x2, vI x3, vI ((gI σ 27 0 (x1 + x2).toNatClampNeg) + (1 : Int32))]) (S' := [vI (gI σ 27 0 x1.toNatClampNeg), vI ((gI σ 27 0 (x1 + x2).toNatClampNeg) + (1 : Int32))]) (σ' := σ) 5 rfl ⟨(h.2.2.2 c1).1, trivial⟩ ?_
    refine WS.br (P := ((gI σ 27 0 (x1 + x2).toNatClampNeg) + (1 : Int32)) = (gI σ 27 0 x1.toNatClampNeg)) (a := 34) (b := 66) (S' := []) rfl (fun c2 => ?_) (fun c2 => ?_)
    · refine WS.run (C := [vp_in x1 12]) (pc' := 41) (L' := [vR 24 0, vI x1, vI x2, vI x3, vI ((gI σ 27 0 (x1 + x2).toNatClampNeg) + (1 : Int32))]) (S' := [vI (gI σ 28 0 x1.toNatClampNeg), vI x2]) (σ' := σ) 5 rfl ⟨((h.2.2.2 c1).2.1 c2).1, trivial⟩ ?_
      refine WS.br (P := x2 ≤ (gI σ 28 0 x1.toNatClampNeg)) (a := 66) (b := 44) (S' := []) rfl (fun c3 => ?_) (fun c3 => ?_)
      · exact WS.vret rfl rfl (((h.2.2.2 c1).2.1 c2).2.1 c3)
      · refine WS.run (C := [vp_in x1 13]) (pc' := 52) (L' := [vR 24 0, vI x1, vI x2, vI x3, vI ((gI σ 27 0 (x1 + x2).toNatClampNeg) + (1 : Int32))]) (S' := []) (σ' := pI σ 27 0 x1.toNatClampNeg ((gI σ 27 0 (x1 + x2).toNatClampNeg) + (1 : Int32))) 5 rfl ⟨(((h.2.2.2 c1).2.1 c2).2.2 c3).1, trivial⟩ ?_
        obtain ⟨σ4, eσ4⟩ : ∃ z, z = pI σ 27 0 x1.toNatClampNeg ((gI σ 27 0 (x1 + x2).toNatClampNeg) + (1 : Int32)) := ⟨_, rfl⟩
        rw [← eσ4]
        refine WS.run (C := [vp_in x1 12]) (pc' := 59) (L' := [vR 24 0, vI x1, vI x2, vI x3, vI ((gI σ 27 0 (x1 + x2).toNatClampNeg) + (1 : Int32))]) (S' := []) (σ' := pI σ4 28 0 x1.toNatClampNeg x2) 5 rfl ⟨((((h.2.2.2 c1).2.1 c2).2.2 c3).2 σ4 eσ4).1, trivial⟩ ?_
        obtain ⟨σ5, eσ5⟩ : ∃ z, z = pI σ4 28 0 x1.toNatClampNeg x2 := ⟨_, rfl⟩
        rw [← eσ5]
        refine WS.run (C := [vp_in x1 12]) (pc' := 66) (L' := [vR 24 0, vI x1, vI x2, vI x3, vI ((gI σ 27 0 (x1 + x2).toNatClampNeg) + (1 : Int32))]) (S' := []) (σ' := pI σ5 29 0 x1.toNatClampNeg x3) 5 rfl ⟨(((((h.2.2.2 c1).2.1 c2).2.2 c3).2 σ4 eσ4).2 σ5 eσ5).1, trivial⟩ ?_
        obtain ⟨σ6, eσ6⟩ : ∃ z, z = pI σ5 29 0 x1.toNatClampNeg x3 := ⟨_, rfl⟩
        rw [← eσ6]
        exact WS.vret rfl rfl ((((((h.2.2.2 c1).2.1 c2).2.2 c3).2 σ4 eσ4).2 σ5 eσ5).2 σ6 eσ6)
    · exact WS.vret rfl rfl ((h.2.2.2 c1).2.2 c2)
set_option maxRecDepth 4000 in
set_option maxHeartbeats 400000 in
theorem b_Name_begin_0 {d : Nat} {σ : Mem} {Post : Option AV → Mem → Prop} {x2 x3 x4 : Int32} {i0 : Nat} (h : MM d M_Word_copy [vR 8 i0, vR 22 0] σ (fun r τ => WS (d + 1) M_Name_begin 8 [vR 7 i0, vR 22 0, vI x2, vI x3, vI x4] (r.toList ++ []) τ Post)) : WS (d + 1) M_Name_begin 0 [vR 7 i0, vR 22 0, vI x2, vI x3, vI x4] [] σ Post := by
  refine WS.run (C := []) (pc' := 5) (L' := [vR 7 i0, vR 22 0, vI x2, vI x3, vI x4]) (S' := [vR 22 0, vR 8 i0]) (σ' := σ) 3 rfl trivial ?_
  refine WS.callV M_Word_copy (k := 8) (i := i0) (as := [vR 22 0]) (rest := []) rfl lk_4_20 rfl rfl rfl (Nat.le_of_ble_eq_true rfl) ?_
  exact h
set_option maxRecDepth 4000 in
set_option maxHeartbeats 400000 in
theorem b_Name_begin_8 {d : Nat} {σ : Mem} {Post : Option AV → Mem → Prop} {x2 x3 x4 : Int32} {i0 : Nat} (h : (∀ σ1 : Mem, σ1 = pI σ 7 i0 1 x2 → (∀ σ2 : Mem, σ2 = pI σ1 7 i0 2 x3 → (∀ σ3 : Mem, σ3 = pI σ2 7 i0 3 x4 → (∀ σ4 : Mem, σ4 = pI σ3 7 i0 4 (1 : Int32) → Post none σ4))))) : WS d M_Name_begin 8 [vR 7 i0, vR 22 0, vI x2, vI x3, vI x4] [] σ Post := by
  refine WS.run (C := []) (pc' := 13) (L' := [vR 7 i0, vR 22 0, vI x2, vI x3, vI x4]) (S' := []) (σ' := pI σ 7 i0 1 x2) 3 rfl trivial ?_
  obtain ⟨σ1, eσ1⟩ : ∃ z, z = pI σ 7 i0 1 x2 := ⟨_, rfl⟩
  rw [← eσ1]
  refine WS.run (C := []) (pc' := 18) (L' := [vR 7 i0, vR 22 0, vI x2, vI x3, vI x4]) (S' := []) (σ' := pI σ1 7 i0 2 x3) 3 rfl trivial ?_
  obtain ⟨σ2, eσ2⟩ : ∃ z, z = pI σ1 7 i0 2 x3 := ⟨_, rfl⟩
  rw [← eσ2]
  refine WS.run (C := []) (pc' := 24) (L' := [vR 7 i0, vR 22 0, vI x2, vI x3, vI x4]) (S' := []) (σ' := pI σ2 7 i0 3 x4) 3 rfl trivial ?_
  obtain ⟨σ3, eσ3⟩ : ∃ z, z = pI σ2 7 i0 3 x4 := ⟨_, rfl⟩
  rw [← eσ3]
  refine WS.run (C := [(1 : Int32) = 0 ∨ (1 : Int32) = 1]) (pc' := 29) (L' := [vR 7 i0, vR 22 0, vI x2, vI x3, vI x4]) (S' := []) (σ' := pI σ3 7 i0 4 (1 : Int32)) 3 rfl ⟨(by decide), trivial⟩ ?_
  obtain ⟨σ4, eσ4⟩ : ∃ z, z = pI σ3 7 i0 4 (1 : Int32) := ⟨_, rfl⟩
  rw [← eσ4]
  exact WS.vret rfl rfl ((((h σ1 eσ1) σ2 eσ2) σ3 eσ3) σ4 eσ4)
set_option maxRecDepth 4000 in
set_option maxHeartbeats 400000 in
theorem b_Setter_measure_0 {d : Nat} {σ : Mem} {Post : Option AV → Mem → Prop}  (h : (∀ σ1 : Mem, σ1 = pI σ 33 0 6 (0 : Int32) → WS d M_Setter_measure 7 [vR 33 0, vR 6 0, vR 24 0, vI (0 : Int32), vU, vU, vU, vU] [] σ1 Post)) : WS d M_Setter_measure 0 [vR 33 0, vR 6 0, vR 24 0, vU, vU, vU, vU, vU] [] σ Post := by
  refine WS.run (C := []) (pc' := 5) (L' := [vR 33 0, vR 6 0, vR 24 0, vU, vU, vU, vU, vU]) (S' := []) (σ' := pI σ 33 0 6 (0 : Int32)) 3 rfl trivial ?_
  obtain ⟨σ1, eσ1⟩ : ∃ z, z = pI σ 33 0 6 (0 : Int32) := ⟨_, rfl⟩
  rw [← eσ1]
  refine WS.run (C := []) (pc' := 7) (L' := [vR 33 0, vR 6 0, vR 24 0, vI (0 : Int32), vU, vU, vU, vU]) (S' := []) (σ' := σ1) 2 rfl trivial ?_
  exact (h σ1 eσ1)
set_option maxRecDepth 4000 in
set_option maxHeartbeats 400000 in
theorem b_Setter_measure_7 {d : Nat} {σ : Mem} {Post : Option AV → Mem → Prop} {x3 : Int32} {v4 v5 v6 v7 : AV} (h : (((8 : Int32) ≤ x3 → Post none σ) ∧ (¬ ((8 : Int32) ≤ x3) → vp_in x3 8 ∧ (((gI σ 7 x3.toNatClampNeg 4) = 0 → WS (d + 1) M_Setter_measure 154 [vR 33 0, vR 6 0, vR 24 0, vI x3, v4, v5, v6, v7] [] σ Post) ∧ (¬ ((gI σ 7 x3.toNatClampNeg 4) = 0) → vp_in x3 8 ∧ MM d M_Speller_spell [vR 24 0, vR 8 x3.toNatClampNeg] σ (fun r τ => WS (d + 1) M_Setter_measure 34 [vR 33 0, vR 6 0, vR 24 0, vI x3, v4, v5, v6, v7] (r.toList ++ [vI (6 : Int32)]) τ Post)))))) : WS (d + 1) M_Setter_measure 7 [vR 33 0, vR 6 0, vR 24 0, vI x3, v4, v5, v6, v7] [] σ Post := by
  refine WS.run (C := []) (pc' := 10) (L' := [vR 33 0, vR 6 0, vR 24 0, vI x3, v4, v5, v6, v7]) (S' := [vI (8 : Int32), vI x3]) (σ' := σ) 2 rfl trivial ?_
  refine WS.br (P := (8 : Int32) ≤ x3) (a := 160) (b := 13) (S' := []) rfl (fun c1 => ?_) (fun c1 => ?_)
  · exact WS.vret rfl rfl (h.1 c1)
  · refine WS.run (C := [vp_in x3 8]) (pc' := 19) (L' := [vR 33 0, vR 6 0, vR 24 0, vI x3, v4, v5, v6, v7]) (S' := [vI (gI σ 7 x3.toNatClampNeg 4)]) (σ' := σ) 4 rfl ⟨(h.2 c1).1, trivial⟩ ?_
    refine WS.br (P := (gI σ 7 x3.toNatClampNeg 4) = 0) (a := 154) (b := 22) (S' := []) rfl (fun c2 => ?_) (fun c2 => ?_)
    · exact ((h.2 c1).2.1 c2)
    · refine WS.run (C := [vp_in x3 8]) (pc' := 31) (L' := [vR 33 0, vR 6 0, vR 24 0, vI x3, v4, v5, v6, v7]) (S' := [vR 8 x3.toNatClampNeg, vR 24 0, vI (6 : Int32)]) (σ' := σ) 6 rfl ⟨((h.2 c1).2.2 c2).1, trivial⟩ ?_
      refine WS.callV M_Speller_spell (k := 24) (i := 0) (as := [vR 8 x3.toNatClampNeg]) (rest := [vI (6 : Int32)]) rfl lk_6_54 rfl rfl rfl (Nat.le_of_ble_eq_true rfl) ?_
      exact ((h.2 c1).2.2 c2).2
set_option maxRecDepth 4000 in
set_option maxHeartbeats 400000 in
theorem b_Setter_measure_34 {d : Nat} {σ : Mem} {Post : Option AV → Mem → Prop} {x3 sx0 sx1 : Int32} {v4 v5 v6 v7 : AV} (h : vp_in x3 8 ∧ vp_in x3 8 ∧ MM d M_Setter_putBox [vR 33 0, vI (x3 * (4 : Int32)), vI ((gI σ 7 x3.toNatClampNeg 1) + (4 : Int32)), vI ((gI σ 7 x3.toNatClampNeg 2) - (5 : Int32)), vI (sx1 * sx0)] σ (fun r τ => WS (d + 1) M_Setter_measure 74 [vR 33 0, vR 6 0, vR 24 0, vI x3, vI (sx1 * sx0), vI (gI σ 7 x3.toNatClampNeg 1), vI (gI σ 7 x3.toNatClampNeg 2), vI (x3 * (4 : Int32))] (r.toList ++ []) τ Post)) : WS (d + 1) M_Setter_measure 34 [vR 33 0, vR 6 0, vR 24 0, vI x3, v4, v5, v6, v7] [vI sx0, vI sx1] σ Post := by
  refine WS.run (C := [vp_in x3 8, vp_in x3 8]) (pc' := 71) (L' := [vR 33 0, vR 6 0, vR 24 0, vI x3, vI (sx1 * sx0), vI (gI σ 7 x3.toNatClampNeg 1), vI (gI σ 7 x3.toNatClampNeg 2), vI (x3 * (4 : Int32))]) (S' := [vI (sx1 * sx0), vI ((gI σ 7 x3.toNatClampNeg 2) - (5 : Int32)), vI ((gI σ 7 x3.toNatClampNeg 1) + (4 : Int32)), vI (x3 * (4 : Int32)), vR 33 0]) (σ' := σ) 25 rfl ⟨h.1, h.2.1, trivial⟩ ?_
  refine WS.callV M_Setter_putBox (k := 33) (i := 0) (as := [vI (x3 * (4 : Int32)), vI ((gI σ 7 x3.toNatClampNeg 1) + (4 : Int32)), vI ((gI σ 7 x3.toNatClampNeg 2) - (5 : Int32)), vI (sx1 * sx0)]) (rest := []) rfl lk_6_66 rfl rfl rfl (Nat.le_of_ble_eq_true rfl) ?_
  exact h.2.2
set_option maxRecDepth 4000 in
set_option maxHeartbeats 400000 in
theorem b_Setter_measure_74 {d : Nat} {σ : Mem} {Post : Option AV → Mem → Prop} {x3 x4 x5 x6 x7 : Int32} (h : MM d M_Setter_putBox [vR 33 0, vI (x7 + (1 : Int32)), vI ((x5 - (4 : Int32)) - x4), vI (x6 - (5 : Int32)), vI x4] σ (fun r τ => WS (d + 1) M_Setter_measure 95 [vR 33 0, vR 6 0, vR 24 0, vI x3, vI x4, vI x5, vI x6, vI x7] (r.toList ++ []) τ Post)) : WS (d + 1) M_Setter_measure 74 [vR 33 0, vR 6 0, vR 24 0, vI x3, vI x4, vI x5, vI x6, vI x7] [] σ Post := by
  refine WS.run (C := []) (pc' := 92) (L' := [vR 33 0, vR 6 0, vR 24 0, vI x3, vI x4, vI x5, vI x6, vI x7]) (S' := [vI x4, vI (x6 - (5 : Int32)), vI ((x5 - (4 : Int32)) - x4), vI (x7 + (1 : Int32)), vR 33 0]) (σ' := σ) 13 rfl trivial ?_
  refine WS.callV M_Setter_putBox (k := 33) (i := 0) (as := [vI (x7 + (1 : Int32)), vI ((x5 - (4 : Int32)) - x4), vI (x6 - (5 : Int32)), vI x4]) (rest := []) rfl lk_6_66 rfl rfl rfl (Nat.le_of_ble_eq_true rfl) ?_
  exact h
set_option maxRecDepth 4000 in
set_option maxHeartbeats 400000 in
theorem b_Setter_measure_95 {d : Nat} {σ : Mem} {Post : Option AV → Mem → Prop} {x3 x4 x5 x6 x7 : Int32} (h : ¬ (2 : Int32) = 0 ∧ MM d M_Setter_putBox [vR 33 0, vI (x7 + (2 : Int32)), vI (x5 - (x4 / (2 : Int32))), vI (x6 + (4 : Int32)), vI x4] σ (fun r τ => WS (d + 1) M_Setter_measure 116 [vR 33 0, vR 6 0, vR 24 0, vI x3, vI x4, vI x5, vI x6, vI x7] (r.toList ++ []) τ Post)) : WS (d + 1) M_Setter_measure 95 [vR 33 0, vR 6 0, vR 24 0, vI x3, vI x4, vI x5, vI x6, vI x7] [] σ Post := by
  refine WS.run (C := [¬ (2 : Int32) = 0]) (pc' := 113) (L' := [vR 33 0, vR 6 0, vR 24 0, vI x3, vI x4, vI x5, vI x6, vI x7]) (S' := [vI x4, vI (x6 + (4 : Int32)), vI (x5 - (x4 / (2 : Int32))), vI (x7 + (2 : Int32)), vR 33 0]) (σ' := σ) 13 rfl ⟨h.1, trivial⟩ ?_
  refine WS.callV M_Setter_putBox (k := 33) (i := 0) (as := [vI (x7 + (2 : Int32)), vI (x5 - (x4 / (2 : Int32))), vI (x6 + (4 : Int32)), vI x4]) (rest := []) rfl lk_6_66 rfl rfl rfl (Nat.le_of_ble_eq_true rfl) ?_
  exact h.2
set_option maxRecDepth 4000 in
set_option maxHeartbeats 400000 in
theorem b_Setter_measure_116 {d : Nat} {σ : Mem} {Post : Option AV → Mem → Prop} {x3 x4 x5 x6 x7 : Int32} (h : ¬ (2 : Int32) = 0 ∧ MM d M_Setter_putBox [vR 33 0, vI (x7 + (3 : Int32)), vI (x5 - (x4 / (2 : Int32))), vI ((x6 - (4 : Int32)) - (10 : Int32)), vI x4] σ (fun r τ => WS (d + 1) M_Setter_measure 140 [vR 33 0, vR 6 0, vR 24 0, vI x3, vI x4, vI x5, vI x6, vI x7] (r.toList ++ []) τ Post)) : WS (d + 1) M_Setter_measure 116 [vR 33 0, vR 6 0, vR 24 0, vI x3, vI x4, vI x5, vI x6, vI x7] [] σ Post := by
  refine WS.run (C := [¬ (2 : Int32) = 0]) (pc' := 137) (L' := [vR 33 0, vR 6 0, vR 24 0, vI x3, vI x4, vI x5, vI x6, vI x7]) (S' := [vI x4, vI ((x6 - (4 : Int32)) - (10 : Int32)), vI (x5 - (x4 / (2 : Int32))), vI (x7 + (3 : Int32)), vR 33 0]) (σ' := σ) 15 rfl ⟨h.1, trivial⟩ ?_
  refine WS.callV M_Setter_putBox (k := 33) (i := 0) (as := [vI (x7 + (3 : Int32)), vI (x5 - (x4 / (2 : Int32))), vI ((x6 - (4 : Int32)) - (10 : Int32)), vI x4]) (rest := []) rfl lk_6_66 rfl rfl rfl (Nat.le_of_ble_eq_true rfl) ?_
  exact h.2
set_option maxRecDepth 4000 in
set_option maxHeartbeats 400000 in
theorem b_Setter_measure_140 {d : Nat} {σ : Mem} {Post : Option AV → Mem → Prop} {x3 x4 x5 x6 x7 : Int32} (h : vp_in x3 8 ∧ MM d M_Chooser_price [vR 34 0, vI x3, vI (gI σ 7 x3.toNatClampNeg 3)] σ (fun r τ => WS (d + 1) M_Setter_measure 154 [vR 33 0, vR 6 0, vR 24 0, vI x3, vI x4, vI x5, vI x6, vI x7] (r.toList ++ []) τ Post)) : WS (d + 1) M_Setter_measure 140 [vR 33 0, vR 6 0, vR 24 0, vI x3, vI x4, vI x5, vI x6, vI x7] [] σ Post := by
  refine WS.run (C := [vp_in x3 8]) (pc' := 151) (L' := [vR 33 0, vR 6 0, vR 24 0, vI x3, vI x4, vI x5, vI x6, vI x7]) (S' := [vI (gI σ 7 x3.toNatClampNeg 3), vI x3, vR 34 0]) (σ' := σ) 7 rfl ⟨h.1, trivial⟩ ?_
  refine WS.callV M_Chooser_price (k := 34) (i := 0) (as := [vI x3, vI (gI σ 7 x3.toNatClampNeg 3)]) (rest := []) rfl lk_6_73 rfl rfl rfl (Nat.le_of_ble_eq_true rfl) ?_
  exact h.2
set_option maxRecDepth 4000 in
set_option maxHeartbeats 400000 in
theorem b_Setter_measure_154 {d : Nat} {σ : Mem} {Post : Option AV → Mem → Prop} {x3 : Int32} {v4 v5 v6 v7 : AV} (h : WS d M_Setter_measure 7 [vR 33 0, vR 6 0, vR 24 0, vI (x3 + (1 : Int32)), v4, v5, v6, v7] [] σ Post) : WS d M_Setter_measure 154 [vR 33 0, vR 6 0, vR 24 0, vI x3, v4, v5, v6, v7] [] σ Post := by
  refine WS.run (C := []) (pc' := 7) (L' := [vR 33 0, vR 6 0, vR 24 0, vI (x3 + (1 : Int32)), v4, v5, v6, v7]) (S' := []) (σ' := σ) 2 rfl trivial ?_
  exact h
set_option maxRecDepth 4000 in
set_option maxHeartbeats 400000 in
theorem b_Setter_putBox_0 {d : Nat} {σ : Mem} {Post : Option AV → Mem → Prop} {x1 x2 x3 x4 : Int32} (h : vp_in x1 32 ∧ (∀ σ1 : Mem, σ1 = pI σ 41 0 x1.toNatClampNeg x2 → vp_in x1 32 ∧ (∀ σ2 : Mem, σ2 = pI σ1 42 0 x1.toNatClampNeg x3 → vp_in x1 32 ∧ (∀ σ3 : Mem, σ3 = pI σ2 43 0 x1.toNatClampNeg x4 → MM d M_TM_isPlace [vI x2, vI x3] σ3 (fun r τ => WS (d + 1) M_Setter_putBox 27 [vR 33 0, vI x1, vI x2, vI x3, vI x4] (r.toList ++ []) τ Post))))) : WS (d + 1) M_Setter_putBox 0 [vR 33 0, vI x1, vI x2, vI x3, vI x4] [] σ Post := by
  refine WS.run (C := [vp_in x1 32]) (pc' := 7) (L' := [vR 33 0, vI x1, vI x2, vI x3, vI x4]) (S' := []) (σ' := pI σ 41 0 x1.toNatClampNeg x2) 5 rfl ⟨h.1, trivial⟩ ?_
  obtain ⟨σ1, eσ1⟩ : ∃ z, z = pI σ 41 0 x1.toNatClampNeg x2 := ⟨_, rfl⟩
  rw [← eσ1]
  refine WS.run (C := [vp_in x1 32]) (pc' := 14) (L' := [vR 33 0, vI x1, vI x2, vI x3, vI x4]) (S' := []) (σ' := pI σ1 42 0 x1.toNatClampNeg x3) 5 rfl ⟨(h.2 σ1 eσ1).1, trivial⟩ ?_
  obtain ⟨σ2, eσ2⟩ : ∃ z, z = pI σ1 42 0 x1.toNatClampNeg x3 := ⟨_, rfl⟩
  rw [← eσ2]
  refine WS.run (C := [vp_in x1 32]) (pc' := 22) (L' := [vR 33 0, vI x1, vI x2, vI x3, vI x4]) (S' := []) (σ' := pI σ2 43 0 x1.toNatClampNeg x4) 5 rfl ⟨((h.2 σ1 eσ1).2 σ2 eσ2).1, trivial⟩ ?_
  obtain ⟨σ3, eσ3⟩ : ∃ z, z = pI σ2 43 0 x1.toNatClampNeg x4 := ⟨_, rfl⟩
  rw [← eσ3]
  refine WS.run (C := []) (pc' := 24) (L' := [vR 33 0, vI x1, vI x2, vI x3, vI x4]) (S' := [vI x3, vI x2]) (σ' := σ3) 2 rfl trivial ?_
  refine WS.callS M_TM_isPlace (as := [vI x2, vI x3]) (rest := []) rfl lk_6_76 rfl rfl (Nat.le_of_ble_eq_true rfl) ?_
  exact (((h.2 σ1 eσ1).2 σ2 eσ2).2 σ3 eσ3)
set_option maxRecDepth 4000 in
set_option maxHeartbeats 400000 in
theorem b_Setter_putBox_27t {d : Nat} {σ : Mem} {Post : Option AV → Mem → Prop} {x1 x2 x3 x4 : Int32} (h : MM d M_TM_isPlace [vI (x2 + x4), vI (x3 + (10 : Int32))] σ (fun r τ => WS (d + 1) M_Setter_putBox 41 [vR 33 0, vI x1, vI x2, vI x3, vI x4] (r.toList ++ []) τ Post)) : WS (d + 1) M_Setter_putBox 27 [vR 33 0, vI x1, vI x2, vI x3, vI x4] [vI (1 : Int32)] σ Post := by
  refine WS.br (P := (1 : Int32) = 0) (a := 56) (b := 30) (S' := []) rfl (fun cc => absurd cc (by decide)) (fun _ => ?_)
  refine WS.run (C := []) (pc' := 38) (L' := [vR 33 0, vI x1, vI x2, vI x3, vI x4]) (S' := [vI (x3 + (10 : Int32)), vI (x2 + x4)]) (σ' := σ) 6 rfl trivial ?_
  refine WS.callS M_TM_isPlace (as := [vI (x2 + x4), vI (x3 + (10 : Int32))]) (rest := []) rfl lk_6_76 rfl rfl (Nat.le_of_ble_eq_true rfl) ?_
  exact h
set_option maxRecDepth 4000 in
set_option maxHeartbeats 400000 in
theorem b_Setter_putBox_27f {d : Nat} {σ : Mem} {Post : Option AV → Mem → Prop} {x1 x2 x3 x4 : Int32} (h : Post none σ) : WS d M_Setter_putBox 27 [vR 33 0, vI x1, vI x2, vI x3, vI x4] [vI (0 : Int32)] σ Post := by
  refine WS.br (P := (0 : Int32) = 0) (a := 56) (b := 30) (S' := []) rfl (fun _ => ?_) (fun cc => absurd (by decide) cc)
  exact WS.vret rfl rfl h
set_option maxRecDepth 4000 in
set_option maxHeartbeats 400000 in
theorem b_Setter_putBox_41t {d : Nat} {σ : Mem} {Post : Option AV → Mem → Prop} {x1 x2 x3 x4 : Int32} (h : (∀ σ1 : Mem, σ1 = pI σ 33 0 6 ((gI σ 33 0 6) ||| ((1 : Int32) <<< (x1 &&& 31))) → Post none σ1)) : WS d M_Setter_putBox 41 [vR 33 0, vI x1, vI x2, vI x3, vI x4] [vI (1 : Int32)] σ Post := by
  refine WS.br (P := (1 : Int32) = 0) (a := 56) (b := 44) (S' := []) rfl (fun cc => absurd cc (by decide)) (fun _ => ?_)
  refine WS.run (C := []) (pc' := 56) (L' := [vR 33 0, vI x1, vI x2, vI x3, vI x4]) (S' := []) (σ' := pI σ 33 0 6 ((gI σ 33 0 6) ||| ((1 : Int32) <<< (x1 &&& 31)))) 8 rfl trivial ?_
  obtain ⟨σ1, eσ1⟩ : ∃ z, z = pI σ 33 0 6 ((gI σ 33 0 6) ||| ((1 : Int32) <<< (x1 &&& 31))) := ⟨_, rfl⟩
  rw [← eσ1]
  exact WS.vret rfl rfl (h σ1 eσ1)
set_option maxRecDepth 4000 in
set_option maxHeartbeats 400000 in
theorem b_Setter_putBox_41f {d : Nat} {σ : Mem} {Post : Option AV → Mem → Prop} {x1 x2 x3 x4 : Int32} (h : Post none σ) : WS d M_Setter_putBox 41 [vR 33 0, vI x1, vI x2, vI x3, vI x4] [vI (0 : Int32)] σ Post := by
  refine WS.br (P := (0 : Int32) = 0) (a := 56) (b := 44) (S' := []) rfl (fun _ => ?_) (fun cc => absurd (by decide) cc)
  exact WS.vret rfl rfl h
set_option maxRecDepth 4000 in
set_option maxHeartbeats 400000 in
theorem b_Setter_isUsable_0 {d : Nat} {σ : Mem} {Post : Option AV → Mem → Prop} {x1 : Int32} (h : ((((((gI σ 33 0 6).toUInt32 >>> (x1.toUInt32 &&& Int32.toUInt32 31)).toInt32) &&& (1 : Int32)) = (1 : Int32) → Post (some (vI (1 : Int32))) σ) ∧ (¬ (((((gI σ 33 0 6).toUInt32 >>> (x1.toUInt32 &&& Int32.toUInt32 31)).toInt32) &&& (1 : Int32)) = (1 : Int32)) → Post (some (vI (0 : Int32))) σ))) : WS d M_Setter_isUsable 0 [vR 33 0, vI x1] [] σ Post := by
  refine WS.run (C := []) (pc' := 9) (L' := [vR 33 0, vI x1]) (S' := [vI (1 : Int32), vI ((((gI σ 33 0 6).toUInt32 >>> (x1.toUInt32 &&& Int32.toUInt32 31)).toInt32) &&& (1 : Int32))]) (σ' := σ) 7 rfl trivial ?_
  refine WS.br (P := ((((gI σ 33 0 6).toUInt32 >>> (x1.toUInt32 &&& Int32.toUInt32 31)).toInt32) &&& (1 : Int32)) = (1 : Int32)) (a := 12) (b := 16) (S' := []) rfl (fun c1 => ?_) (fun c1 => ?_)
  · refine WS.run (C := []) (pc' := 17) (L' := [vR 33 0, vI x1]) (S' := [vI (1 : Int32)]) (σ' := σ) 2 rfl trivial ?_
    exact WS.ret rfl rfl (by decide) rfl (h.1 c1)
  · refine WS.run (C := []) (pc' := 17) (L' := [vR 33 0, vI x1]) (S' := [vI (0 : Int32)]) (σ' := σ) 1 rfl trivial ?_
    exact WS.ret rfl rfl (by decide) rfl (h.2 c1)
set_option maxRecDepth 4000 in
set_option maxHeartbeats 400000 in
theorem b_Setter_avoid_0 {d : Nat} {σ : Mem} {Post : Option AV → Mem → Prop}  (h : WS d M_Setter_avoid 2 [vR 33 0, vR 1 0, vR 15 0, vI (0 : Int32)] [] σ Post) : WS d M_Setter_avoid 0 [vR 33 0, vR 1 0, vR 15 0, vU] [] σ Post := by
  refine WS.run (C := []) (pc' := 2) (L' := [vR 33 0, vR 1 0, vR 15 0, vI (0 : Int32)]) (S' := []) (σ' := σ) 2 rfl trivial ?_
  exact h
set_option maxRecDepth 4000 in
set_option maxHeartbeats 400000 in
theorem b_Setter_avoid_2 {d : Nat} {σ : Mem} {Post : Option AV → Mem → Prop} {x3 : Int32} (h : (((12 : Int32) ≤ x3 → Post none σ) ∧ (¬ ((12 : Int32) ≤ x3) → MM d M_Keeper_holds [vR 15 0, vI x3] σ (fun r τ => WS (d + 1) M_Setter_avoid 13 [vR 33 0, vR 1 0, vR 15 0, vI x3] (r.toList ++ []) τ Post)))) : WS (d + 1) M_Setter_avoid 2 [vR 33 0, vR 1 0, vR 15 0, vI x3] [] σ Post := by
  refine WS.run (C := []) (pc' := 5) (L' := [vR 33 0, vR 1 0, vR 15 0, vI x3]) (S' := [vI (12 : Int32), vI x3]) (σ' := σ) 2 rfl trivial ?_
  refine WS.br (P := (12 : Int32) ≤ x3) (a := 29) (b := 8) (S' := []) rfl (fun c1 => ?_) (fun c1 => ?_)
  · exact WS.vret rfl rfl (h.1 c1)
  · refine WS.run (C := []) (pc' := 10) (L' := [vR 33 0, vR 1 0, vR 15 0, vI x3]) (S' := [vI x3, vR 15 0]) (σ' := σ) 2 rfl trivial ?_
    refine WS.callV M_Keeper_holds (k := 15) (i := 0) (as := [vI x3]) (rest := []) rfl lk_6_80 rfl rfl rfl (Nat.le_of_ble_eq_true rfl) ?_
    exact (h.2 c1)
set_option maxRecDepth 4000 in
set_option maxHeartbeats 400000 in
theorem b_Setter_avoid_13t {d : Nat} {σ : Mem} {Post : Option AV → Mem → Prop} {x3 : Int32} (h : vp_in x3 12 ∧ MM d M_Setter_avoidWay [vR 33 0, vR 2 x3.toNatClampNeg] σ (fun r τ => WS (d + 1) M_Setter_avoid 23 [vR 33 0, vR 1 0, vR 15 0, vI x3] (r.toList ++ []) τ Post)) : WS (d + 1) M_Setter_avoid 13 [vR 33 0, vR 1 0, vR 15 0, vI x3] [vI (1 : Int32)] σ Post := by
  refine WS.br (P := (1 : Int32) = 0) (a := 23) (b := 16) (S' := []) rfl (fun cc => absurd cc (by decide)) (fun _ => ?_)
  refine WS.run (C := [vp_in x3 12]) (pc' := 20) (L' := [vR 33 0, vR 1 0, vR 15 0, vI x3]) (S' := [vR 2 x3.toNatClampNeg, vR 33 0]) (σ' := σ) 4 rfl ⟨h.1, trivial⟩ ?_
  refine WS.callV M_Setter_avoidWay (k := 33) (i := 0) (as := [vR 2 x3.toNatClampNeg]) (rest := []) rfl lk_6_86 rfl rfl rfl (Nat.le_of_ble_eq_true rfl) ?_
  exact h.2
set_option maxRecDepth 4000 in
set_option maxHeartbeats 400000 in
theorem b_Setter_avoid_13f {d : Nat} {σ : Mem} {Post : Option AV → Mem → Prop} {x3 : Int32} (h : WS d M_Setter_avoid 23 [vR 33 0, vR 1 0, vR 15 0, vI x3] [] σ Post) : WS d M_Setter_avoid 13 [vR 33 0, vR 1 0, vR 15 0, vI x3] [vI (0 : Int32)] σ Post := by
  refine WS.br (P := (0 : Int32) = 0) (a := 23) (b := 16) (S' := []) rfl (fun _ => ?_) (fun cc => absurd (by decide) cc)
  exact h
set_option maxRecDepth 4000 in
set_option maxHeartbeats 400000 in
theorem b_Setter_avoid_23 {d : Nat} {σ : Mem} {Post : Option AV → Mem → Prop} {x3 : Int32} (h : WS d M_Setter_avoid 2 [vR 33 0, vR 1 0, vR 15 0, vI (x3 + (1 : Int32))] [] σ Post) : WS d M_Setter_avoid 23 [vR 33 0, vR 1 0, vR 15 0, vI x3] [] σ Post := by
  refine WS.run (C := []) (pc' := 2) (L' := [vR 33 0, vR 1 0, vR 15 0, vI (x3 + (1 : Int32))]) (S' := []) (σ' := σ) 2 rfl trivial ?_
  exact h
set_option maxRecDepth 4000 in
set_option maxHeartbeats 400000 in
theorem b_Setter_avoidWay_0 {d : Nat} {σ : Mem} {Post : Option AV → Mem → Prop} {i1 : Nat} (h : WS d M_Setter_avoidWay 2 [vR 33 0, vR 2 i1, vI (0 : Int32), vU] [] σ Post) : WS d M_Setter_avoidWay 0 [vR 33 0, vR 2 i1, vU, vU] [] σ Post := by
  refine WS.run (C := []) (pc' := 2) (L' := [vR 33 0, vR 2 i1, vI (0 : Int32), vU]) (S' := []) (σ' := σ) 2 rfl trivial ?_
  exact h
set_option maxRecDepth 4000 in
set_option maxHeartbeats 400000 in
theorem b_Setter_avoidWay_2 {d : Nat} {σ : Mem} {Post : Option AV → Mem → Prop} {x2 : Int32} {i1 : Nat} {v3 : AV} (h : ((((gI σ 2 i1 4) - (1 : Int32)) ≤ x2 → Post none σ) ∧ (¬ (((gI σ 2 i1 4) - (1 : Int32)) ≤ x2) → MM d M_Way_bringLine [vR 2 i1, vI x2, vR 40 0] σ (fun r τ => WS (d + 1) M_Setter_avoidWay 21 [vR 33 0, vR 2 i1, vI x2, v3] (r.toList ++ []) τ Post)))) : WS (d + 1) M_Setter_avoidWay 2 [vR 33 0, vR 2 i1, vI x2, v3] [] σ Post := by
  refine WS.run (C := []) (pc' := 9) (L' := [vR 33 0, vR 2 i1, vI x2, v3]) (S' := [vI ((gI σ 2 i1 4) - (1 : Int32)), vI x2]) (σ' := σ) 5 rfl trivial ?_
  refine WS.br (P := ((gI σ 2 i1 4) - (1 : Int32)) ≤ x2) (a := 107) (b := 12) (S' := []) rfl (fun c1 => ?_) (fun c1 => ?_)
  · exact WS.vret rfl rfl (h.1 c1)
  · refine WS.run (C := []) (pc' := 18) (L' := [vR 33 0, vR 2 i1, vI x2, v3]) (S' := [vR 40 0, vI x2, vR 2 i1]) (σ' := σ) 4 rfl trivial ?_
    refine WS.callV M_Way_bringLine (k := 2) (i := i1) (as := [vI x2, vR 40 0]) (rest := []) rfl lk_6_95 rfl rfl rfl (Nat.le_of_ble_eq_true rfl) ?_
    exact (h.2 c1)
set_option maxRecDepth 4000 in
set_option maxHeartbeats 400000 in
theorem b_Setter_avoidWay_21 {d : Nat} {σ : Mem} {Post : Option AV → Mem → Prop} {x2 : Int32} {i1 : Nat} {v3 : AV} (h : WS d M_Setter_avoidWay 23 [vR 33 0, vR 2 i1, vI x2, vI (0 : Int32)] [] σ Post) : WS d M_Setter_avoidWay 21 [vR 33 0, vR 2 i1, vI x2, v3] [] σ Post := by
  refine WS.run (C := []) (pc' := 23) (L' := [vR 33 0, vR 2 i1, vI x2, vI (0 : Int32)]) (S' := []) (σ' := σ) 2 rfl trivial ?_
  exact h
set_option maxRecDepth 4000 in
set_option maxHeartbeats 400000 in
theorem b_Setter_avoidWay_23 {d : Nat} {σ : Mem} {Post : Option AV → Mem → Prop} {x2 x3 : Int32} {i1 : Nat} (h : (((32 : Int32) ≤ x3 → WS (d + 1) M_Setter_avoidWay 2 [vR 33 0, vR 2 i1, vI (x2 + (1 : Int32)), vI x3] [] σ Post) ∧ (¬ ((32 : Int32) ≤ x3) → MM d M_Setter_isUsable [vR 33 0, vI x3] σ (fun r τ => WS (d + 1) M_Setter_avoidWay 34 [vR 33 0, vR 2 i1, vI x2, vI x3] (r.toList ++ []) τ Post)))) : WS (d + 1) M_Setter_avoidWay 23 [vR 33 0, vR 2 i1, vI x2, vI x3] [] σ Post := by
  refine WS.run (C := []) (pc' := 26) (L' := [vR 33 0, vR 2 i1, vI x2, vI x3]) (S' := [vI (32 : Int32), vI x3]) (σ' := σ) 2 rfl trivial ?_
  refine WS.br (P := (32 : Int32) ≤ x3) (a := 101) (b := 29) (S' := []) rfl (fun c2 => ?_) (fun c2 => ?_)
  · refine WS.run (C := []) (pc' := 2) (L' := [vR 33 0, vR 2 i1, vI (x2 + (1 : Int32)), vI x3]) (S' := []) (σ' := σ) 2 rfl trivial ?_
    exact (h.1 c2)
  · refine WS.run (C := []) (pc' := 31) (L' := [vR 33 0, vR 2 i1, vI x2, vI x3]) (S' := [vI x3, vR 33 0]) (σ' := σ) 2 rfl trivial ?_
    refine WS.callV M_Setter_isUsable (k := 33) (i := 0) (as := [vI x3]) (rest := []) rfl lk_6_99 rfl rfl rfl (Nat.le_of_ble_eq_true rfl) ?_
    exact (h.2 c2)
set_option maxRecDepth 4000 in
set_option maxHeartbeats 400000 in
theorem b_Setter_avoidWay_34t {d : Nat} {σ : Mem} {Post : Option AV → Mem → Prop} {x2 x3 : Int32} {i1 : Nat} (h : vp_in x3 32 ∧ vp_in x3 32 ∧ vp_in x3 32 ∧ vp_in x3 32 ∧ vp_in x3 32 ∧ MM d M_Line_enters [vR 40 0, vI (gI σ 41 0 x3.toNatClampNeg), vI (gI σ 42 0 x3.toNatClampNeg), vI ((gI σ 41 0 x3.toNatClampNeg) + (gI σ 43 0 x3.toNatClampNeg)), vI ((gI σ 42 0 x3.toNatClampNeg) + (10 : Int32))] σ (fun r τ => WS (d + 1) M_Setter_avoidWay 78 [vR 33 0, vR 2 i1, vI x2, vI x3] (r.toList ++ []) τ Post)) : WS (d + 1) M_Setter_avoidWay 34 [vR 33 0, vR 2 i1, vI x2, vI x3] [vI (1 : Int32)] σ Post := by
  refine WS.br (P := (1 : Int32) = 0) (a := 95) (b := 37) (S' := []) rfl (fun cc => absurd cc (by decide)) (fun _ => ?_)
  refine WS.run (C := [vp_in x3 32, vp_in x3 32, vp_in x3 32, vp_in x3 32, vp_in x3 32]) (pc' := 75) (L' := [vR 33 0, vR 2 i1, vI x2, vI x3]) (S' := [vI ((gI σ 42 0 x3.toNatClampNeg) + (10 : Int32)), vI ((gI σ 41 0 x3.toNatClampNeg) + (gI σ 43 0 x3.toNatClampNeg)), vI (gI σ 42 0 x3.toNatClampNeg), vI (gI σ 41 0 x3.toNatClampNeg), vR 40 0]) (σ' := σ) 25 rfl ⟨h.1, h.2.1, h.2.2.1, h.2.2.2.1, h.2.2.2.2.1, trivial⟩ ?_
  refine WS.callV M_Line_enters (k := 40) (i := 0) (as := [vI (gI σ 41 0 x3.toNatClampNeg), vI (gI σ 42 0 x3.toNatClampNeg), vI ((gI σ 41 0 x3.toNatClampNeg) + (gI σ 43 0 x3.toNatClampNeg)), vI ((gI σ 42 0 x3.toNatClampNeg) + (10 : Int32))]) (rest := []) rfl lk_6_102 rfl rfl rfl (Nat.le_of_ble_eq_true rfl) ?_
  exact h.2.2.2.2.2
set_option maxRecDepth 4000 in
set_option maxHeartbeats 400000 in
theorem b_Setter_avoidWay_34f {d : Nat} {σ : Mem} {Post : Option AV → Mem → Prop} {x2 x3 : Int32} {i1 : Nat} (h : WS d M_Setter_avoidWay 23 [vR 33 0, vR 2 i1, vI x2, vI (x3 + (1 : Int32))] [] σ Post) : WS d M_Setter_avoidWay 34 [vR 33 0, vR 2 i1, vI x2, vI x3] [vI (0 : Int32)] σ Post := by
  refine WS.br (P := (0 : Int32) = 0) (a := 95) (b := 37) (S' := []) rfl (fun _ => ?_) (fun cc => absurd (by decide) cc)
  refine WS.run (C := []) (pc' := 23) (L' := [vR 33 0, vR 2 i1, vI x2, vI (x3 + (1 : Int32))]) (S' := []) (σ' := σ) 2 rfl trivial ?_
  exact h
set_option maxRecDepth 4000 in
set_option maxHeartbeats 400000 in
theorem b_Setter_avoidWay_78t {d : Nat} {σ : Mem} {Post : Option AV → Mem → Prop} {x2 x3 : Int32} {i1 : Nat} (h : (∀ σ1 : Mem, σ1 = pI σ 33 0 6 ((gI σ 33 0 6) &&& (((1 : Int32) <<< (x3 &&& 31)) ^^^ (-1 : Int32))) → WS d M_Setter_avoidWay 23 [vR 33 0, vR 2 i1, vI x2, vI (x3 + (1 : Int32))] [] σ1 Post)) : WS d M_Setter_avoidWay 78 [vR 33 0, vR 2 i1, vI x2, vI x3] [vI (1 : Int32)] σ Post := by
  refine WS.br (P := (1 : Int32) = 0) (a := 95) (b := 81) (S' := []) rfl (fun cc => absurd cc (by decide)) (fun _ => ?_)
  refine WS.run (C := []) (pc' := 95) (L' := [vR 33 0, vR 2 i1, vI x2, vI x3]) (S' := []) (σ' := pI σ 33 0 6 ((gI σ 33 0 6) &&& (((1 : Int32) <<< (x3 &&& 31)) ^^^ (-1 : Int32)))) 10 rfl trivial ?_
  obtain ⟨σ1, eσ1⟩ : ∃ z, z = pI σ 33 0 6 ((gI σ 33 0 6) &&& (((1 : Int32) <<< (x3 &&& 31)) ^^^ (-1 : Int32))) := ⟨_, rfl⟩
  rw [← eσ1]
  refine WS.run (C := []) (pc' := 23) (L' := [vR 33 0, vR 2 i1, vI x2, vI (x3 + (1 : Int32))]) (S' := []) (σ' := σ1) 2 rfl trivial ?_
  exact (h σ1 eσ1)
set_option maxRecDepth 4000 in
set_option maxHeartbeats 400000 in
theorem b_Setter_avoidWay_78f {d : Nat} {σ : Mem} {Post : Option AV → Mem → Prop} {x2 x3 : Int32} {i1 : Nat} (h : WS d M_Setter_avoidWay 23 [vR 33 0, vR 2 i1, vI x2, vI (x3 + (1 : Int32))] [] σ Post) : WS d M_Setter_avoidWay 78 [vR 33 0, vR 2 i1, vI x2, vI x3] [vI (0 : Int32)] σ Post := by
  refine WS.br (P := (0 : Int32) = 0) (a := 95) (b := 81) (S' := []) rfl (fun _ => ?_) (fun cc => absurd (by decide) cc)
  refine WS.run (C := []) (pc' := 23) (L' := [vR 33 0, vR 2 i1, vI x2, vI (x3 + (1 : Int32))]) (S' := []) (σ' := σ) 2 rfl trivial ?_
  exact h
set_option maxRecDepth 4000 in
set_option maxHeartbeats 400000 in
theorem b_Setter_find_0 {d : Nat} {σ : Mem} {Post : Option AV → Mem → Prop}  (h : MM d M_Chooser_clearClashes [vR 34 0] σ (fun r τ => WS (d + 1) M_Setter_find 7 [vR 33 0, vR 6 0, vU, vU] (r.toList ++ []) τ Post)) : WS (d + 1) M_Setter_find 0 [vR 33 0, vR 6 0, vU, vU] [] σ Post := by
  refine WS.run (C := []) (pc' := 4) (L' := [vR 33 0, vR 6 0, vU, vU]) (S' := [vR 34 0]) (σ' := σ) 2 rfl trivial ?_
  refine WS.callV M_Chooser_clearClashes (k := 34) (i := 0) (as := []) (rest := []) rfl lk_6_106 rfl rfl rfl (Nat.le_of_ble_eq_true rfl) ?_
  exact h
set_option maxRecDepth 4000 in
set_option maxHeartbeats 400000 in
theorem b_Setter_find_7 {d : Nat} {σ : Mem} {Post : Option AV → Mem → Prop}  (h : WS d M_Setter_find 9 [vR 33 0, vR 6 0, vI (0 : Int32), vU] [] σ Post) : WS d M_Setter_find 7 [vR 33 0, vR 6 0, vU, vU] [] σ Post := by
  refine WS.run (C := []) (pc' := 9) (L' := [vR 33 0, vR 6 0, vI (0 : Int32), vU]) (S' := []) (σ' := σ) 2 rfl trivial ?_
  exact h
set_option maxRecDepth 4000 in
set_option maxHeartbeats 400000 in
theorem b_Setter_find_9 {d : Nat} {σ : Mem} {Post : Option AV → Mem → Prop} {x2 : Int32} {v3 : AV} (h : (((32 : Int32) ≤ x2 → MM d M_Chooser_choose [vR 34 0, vI (gI σ 33 0 6)] σ (fun r τ => WS (d + 1) M_Setter_find 83 [vR 33 0, vR 6 0, vI x2, v3] (r.toList ++ []) τ Post)) ∧ (¬ ((32 : Int32) ≤ x2) → WS (d + 1) M_Setter_find 17 [vR 33 0, vR 6 0, vI x2, vI (0 : Int32)] [] σ Post))) : WS (d + 1) M_Setter_find 9 [vR 33 0, vR 6 0, vI x2, v3] [] σ Post := by
  refine WS.run (C := []) (pc' := 12) (L' := [vR 33 0, vR 6 0, vI x2, v3]) (S' := [vI (32 : Int32), vI x2]) (σ' := σ) 2 rfl trivial ?_
  refine WS.br (P := (32 : Int32) ≤ x2) (a := 72) (b := 15) (S' := []) rfl (fun c1 => ?_) (fun c1 => ?_)
  · refine WS.run (C := []) (pc' := 80) (L' := [vR 33 0, vR 6 0, vI x2, v3]) (S' := [vI (gI σ 33 0 6), vR 34 0]) (σ' := σ) 4 rfl trivial ?_
    refine WS.callV M_Chooser_choose (k := 34) (i := 0) (as := [vI (gI σ 33 0 6)]) (rest := []) rfl lk_6_119 rfl rfl rfl (Nat.le_of_ble_eq_true rfl) ?_
    exact (h.1 c1)
  · refine WS.run (C := []) (pc' := 17) (L' := [vR 33 0, vR 6 0, vI x2, vI (0 : Int32)]) (S' := []) (σ' := σ) 2 rfl trivial ?_
    exact (h.2 c1)
set_option maxRecDepth 4000 in
set_option maxHeartbeats 400000 in
theorem b_Setter_find_17 {d : Nat} {σ : Mem} {Post : Option AV → Mem → Prop} {x2 x3 : Int32} (h : ((x2 ≤ x3 → WS (d + 1) M_Setter_find 9 [vR 33 0, vR 6 0, vI (x2 + (1 : Int32)), vI x3] [] σ Post) ∧ (¬ (x2 ≤ x3) → MM d M_Setter_isUsable [vR 33 0, vI x2] σ (fun r τ => WS (d + 1) M_Setter_find 27 [vR 33 0, vR 6 0, vI x2, vI x3] (r.toList ++ []) τ Post)))) : WS (d + 1) M_Setter_find 17 [vR 33 0, vR 6 0, vI x2, vI x3] [] σ Post := by
  refine WS.run (C := []) (pc' := 19) (L' := [vR 33 0, vR 6 0, vI x2, vI x3]) (S' := [vI x2, vI x3]) (σ' := σ) 2 rfl trivial ?_
  refine WS.br (P := x2 ≤ x3) (a := 66) (b := 22) (S' := []) rfl (fun c2 => ?_) (fun c2 => ?_)
  · refine WS.run (C := []) (pc' := 9) (L' := [vR 33 0, vR 6 0, vI (x2 + (1 : Int32)), vI x3]) (S' := []) (σ' := σ) 2 rfl trivial ?_
    exact (h.1 c2)
  · refine WS.run (C := []) (pc' := 24) (L' := [vR 33 0, vR 6 0, vI x2, vI x3]) (S' := [vI x2, vR 33 0]) (σ' := σ) 2 rfl trivial ?_
    refine WS.callV M_Setter_isUsable (k := 33) (i := 0) (as := [vI x2]) (rest := []) rfl lk_6_99 rfl rfl rfl (Nat.le_of_ble_eq_true rfl) ?_
    exact (h.2 c2)
set_option maxRecDepth 4000 in
set_option maxHeartbeats 400000 in
theorem b_Setter_find_27t {d : Nat} {σ : Mem} {Post : Option AV → Mem → Prop} {x2 x3 : Int32} (h : MM d M_Setter_isUsable [vR 33 0, vI x3] σ (fun r τ => WS (d + 1) M_Setter_find 35 [vR 33 0, vR 6 0, vI x2, vI x3] (r.toList ++ []) τ Post)) : WS (d + 1) M_Setter_find 27 [vR 33 0, vR 6 0, vI x2, vI x3] [vI (1 : Int32)] σ Post := by
  refine WS.br (P := (1 : Int32) = 0) (a := 60) (b := 30) (S' := []) rfl (fun cc => absurd cc (by decide)) (fun _ => ?_)
  refine WS.run (C := []) (pc' := 32) (L' := [vR 33 0, vR 6 0, vI x2, vI x3]) (S' := [vI x3, vR 33 0]) (σ' := σ) 2 rfl trivial ?_
  refine WS.callV M_Setter_isUsable (k := 33) (i := 0) (as := [vI x3]) (rest := []) rfl lk_6_99 rfl rfl rfl (Nat.le_of_ble_eq_true rfl) ?_
  exact h
set_option maxRecDepth 4000 in
set_option maxHeartbeats 400000 in
theorem b_Setter_find_27f {d : Nat} {σ : Mem} {Post : Option AV → Mem → Prop} {x2 x3 : Int32} (h : WS d M_Setter_find 60 [vR 33 0, vR 6 0, vI x2, vI x3] [] σ Post) : WS d M_Setter_find 27 [vR 33 0, vR 6 0, vI x2, vI x3] [vI (0 : Int32)] σ Post := by
  refine WS.br (P := (0 : Int32) = 0) (a := 60) (b := 30) (S' := []) rfl (fun _ => ?_) (fun cc => absurd (by decide) cc)
  exact h
set_option maxRecDepth 4000 in
set_option maxHeartbeats 400000 in
theorem b_Setter_find_35t {d : Nat} {σ : Mem} {Post : Option AV → Mem → Prop} {x2 x3 : Int32} (h : MM d M_Setter_overlap [vR 33 0, vI x2, vI x3] σ (fun r τ => WS (d + 1) M_Setter_find 44 [vR 33 0, vR 6 0, vI x2, vI x3] (r.toList ++ []) τ Post)) : WS (d + 1) M_Setter_find 35 [vR 33 0, vR 6 0, vI x2, vI x3] [vI (1 : Int32)] σ Post := by
  refine WS.br (P := (1 : Int32) = 0) (a := 60) (b := 38) (S' := []) rfl (fun cc => absurd cc (by decide)) (fun _ => ?_)
  refine WS.run (C := []) (pc' := 41) (L' := [vR 33 0, vR 6 0, vI x2, vI x3]) (S' := [vI x3, vI x2, vR 33 0]) (σ' := σ) 3 rfl trivial ?_
  refine WS.callV M_Setter_overlap (k := 33) (i := 0) (as := [vI x2, vI x3]) (rest := []) rfl lk_6_109 rfl rfl rfl (Nat.le_of_ble_eq_true rfl) ?_
  exact h
set_option maxRecDepth 4000 in
set_option maxHeartbeats 400000 in
theorem b_Setter_find_35f {d : Nat} {σ : Mem} {Post : Option AV → Mem → Prop} {x2 x3 : Int32} (h : WS d M_Setter_find 60 [vR 33 0, vR 6 0, vI x2, vI x3] [] σ Post) : WS d M_Setter_find 35 [vR 33 0, vR 6 0, vI x2, vI x3] [vI (0 : Int32)] σ Post := by
  refine WS.br (P := (0 : Int32) = 0) (a := 60) (b := 38) (S' := []) rfl (fun _ => ?_) (fun cc => absurd (by decide) cc)
  exact h
set_option maxRecDepth 4000 in
set_option maxHeartbeats 400000 in
theorem b_Setter_find_44t {d : Nat} {σ : Mem} {Post : Option AV → Mem → Prop} {x2 x3 : Int32} (h : MM d M_TM_join [vR 35 0, vI x2, vI x3, vI (1 : Int32)] σ (fun r τ => WS (d + 1) M_Setter_find 60 [vR 33 0, vR 6 0, vI x2, vI x3] (r.toList ++ []) τ Post)) : WS (d + 1) M_Setter_find 44 [vR 33 0, vR 6 0, vI x2, vI x3] [vI (1 : Int32)] σ Post := by
  refine WS.br (P := (1 : Int32) = 0) (a := 60) (b := 47) (S' := []) rfl (fun cc => absurd cc (by decide)) (fun _ => ?_)
  refine WS.run (C := []) (pc' := 57) (L' := [vR 33 0, vR 6 0, vI x2, vI x3]) (S' := [vI (1 : Int32), vI x3, vI x2, vR 35 0]) (σ' := σ) 6 rfl trivial ?_
  refine WS.callS M_TM_join (as := [vR 35 0, vI x2, vI x3, vI (1 : Int32)]) (rest := []) rfl lk_6_115 rfl rfl (Nat.le_of_ble_eq_true rfl) ?_
  exact h
set_option maxRecDepth 4000 in
set_option maxHeartbeats 400000 in
theorem b_Setter_find_44f {d : Nat} {σ : Mem} {Post : Option AV → Mem → Prop} {x2 x3 : Int32} (h : WS d M_Setter_find 60 [vR 33 0, vR 6 0, vI x2, vI x3] [] σ Post) : WS d M_Setter_find 44 [vR 33 0, vR 6 0, vI x2, vI x3] [vI (0 : Int32)] σ Post := by
  refine WS.br (P := (0 : Int32) = 0) (a := 60) (b := 47) (S' := []) rfl (fun _ => ?_) (fun cc => absurd (by decide) cc)
  exact h
set_option maxRecDepth 4000 in
set_option maxHeartbeats 400000 in
theorem b_Setter_find_60 {d : Nat} {σ : Mem} {Post : Option AV → Mem → Prop} {x2 x3 : Int32} (h : WS d M_Setter_find 17 [vR 33 0, vR 6 0, vI x2, vI (x3 + (1 : Int32))] [] σ Post) : WS d M_Setter_find 60 [vR 33 0, vR 6 0, vI x2, vI x3] [] σ Post := by
  refine WS.run (C := []) (pc' := 17) (L' := [vR 33 0, vR 6 0, vI x2, vI (x3 + (1 : Int32))]) (S' := []) (σ' := σ) 2 rfl trivial ?_
  exact h
set_option maxRecDepth 4000 in
set_option maxHeartbeats 400000 in
theorem b_Setter_find_83 {d : Nat} {σ : Mem} {Post : Option AV → Mem → Prop} {x2 sx0 : Int32} {v3 : AV} (h : WS d M_Setter_find 86 [vR 33 0, vR 6 0, vI sx0, vI (0 : Int32)] [] σ Post) : WS d M_Setter_find 83 [vR 33 0, vR 6 0, vI x2, v3] [vI sx0] σ Post := by
  refine WS.run (C := []) (pc' := 86) (L' := [vR 33 0, vR 6 0, vI sx0, vI (0 : Int32)]) (S' := []) (σ' := σ) 3 rfl trivial ?_
  exact h
set_option maxRecDepth 4000 in
set_option maxHeartbeats 400000 in
theorem b_Setter_find_86 {d : Nat} {σ : Mem} {Post : Option AV → Mem → Prop} {x2 x3 : Int32} (h : (((8 : Int32) ≤ x3 → Post (some (vI x2)) σ) ∧ (¬ ((8 : Int32) ≤ x3) → vp_in x3 8 ∧ (((gI σ 7 x3.toNatClampNeg 4) = 0 → vp_in x3 8 ∧ (∀ σ1 : Mem, σ1 = pI σ 44 0 x3.toNatClampNeg (-1 : Int32) → WS d M_Setter_find 86 [vR 33 0, vR 6 0, vI x2, vI (x3 + (1 : Int32))] [] σ1 Post)) ∧ (¬ ((gI σ 7 x3.toNatClampNeg 4) = 0) → vp_in x3 8 ∧ vp_in x3 8 ∧ (∀ σ2 : Mem, σ2 = pI σ 44 0 x3.toNatClampNeg (gI σ 39 0 x3.toNatClampNeg) → WS d M_Setter_find 86 [vR 33 0, vR 6 0, vI x2, vI (x3 + (1 : Int32))] [] σ2 Post)))))) : WS d M_Setter_find 86 [vR 33 0, vR 6 0, vI x2, vI x3] [] σ Post := by
  refine WS.run (C := []) (pc' := 89) (L' := [vR 33 0, vR 6 0, vI x2, vI x3]) (S' := [vI (8 : Int32), vI x3]) (σ' := σ) 2 rfl trivial ?_
  refine WS.br (P := (8 : Int32) ≤ x3) (a := 126) (b := 92) (S' := []) rfl (fun c3 => ?_) (fun c3 => ?_)
  · refine WS.run (C := []) (pc' := 127) (L' := [vR 33 0, vR 6 0, vI x2, vI x3]) (S' := [vI x2]) (σ' := σ) 1 rfl trivial ?_
    exact WS.ret rfl rfl (by decide) rfl (h.1 c3)
  · refine WS.run (C := [vp_in x3 8]) (pc' := 103) (L' := [vR 33 0, vR 6 0, vI x2, vI x3]) (S' := [vI (gI σ 7 x3.toNatClampNeg 4), vI x3, vR 44 0]) (σ' := σ) 7 rfl ⟨(h.2 c3).1, trivial⟩ ?_
    refine WS.br (P := (gI σ 7 x3.toNatClampNeg 4) = 0) (a := 118) (b := 106) (S' := [vI x3, vR 44 0]) rfl (fun c4 => ?_) (fun c4 => ?_)
    · refine WS.run (C := [vp_in x3 8]) (pc' := 120) (L' := [vR 33 0, vR 6 0, vI x2, vI x3]) (S' := []) (σ' := pI σ 44 0 x3.toNatClampNeg (-1 : Int32)) 2 rfl ⟨((h.2 c3).2.1 c4).1, trivial⟩ ?_
      obtain ⟨σ1, eσ1⟩ : ∃ z, z = pI σ 44 0 x3.toNatClampNeg (-1 : Int32) := ⟨_, rfl⟩
      rw [← eσ1]
      refine WS.run (C := []) (pc' := 86) (L' := [vR 33 0, vR 6 0, vI x2, vI (x3 + (1 : Int32))]) (S' := []) (σ' := σ1) 2 rfl trivial ?_
      exact (((h.2 c3).2.1 c4).2 σ1 eσ1)
    · refine WS.run (C := [vp_in x3 8, vp_in x3 8]) (pc' := 120) (L' := [vR 33 0, vR 6 0, vI x2, vI x3]) (S' := []) (σ' := pI σ 44 0 x3.toNatClampNeg (gI σ 39 0 x3.toNatClampNeg)) 7 rfl ⟨((h.2 c3).2.2 c4).1, ((h.2 c3).2.2 c4).2.1, trivial⟩ ?_
      obtain ⟨σ2, eσ2⟩ : ∃ z, z = pI σ 44 0 x3.toNatClampNeg (gI σ 39 0 x3.toNatClampNeg) := ⟨_, rfl⟩
      rw [← eσ2]
      refine WS.run (C := []) (pc' := 86) (L' := [vR 33 0, vR 6 0, vI x2, vI (x3 + (1 : Int32))]) (S' := []) (σ' := σ2) 2 rfl trivial ?_
      exact (((h.2 c3).2.2 c4).2.2 σ2 eσ2)
set_option maxRecDepth 4000 in
set_option maxHeartbeats 400000 in
theorem b_Setter_overlap_0 {d : Nat} {σ : Mem} {Post : Option AV → Mem → Prop} {x1 x2 : Int32} (h : vp_in x1 32 ∧ vp_in x2 32 ∧ vp_in x2 32 ∧ ((((gI σ 41 0 x2.toNatClampNeg) + (gI σ 43 0 x2.toNatClampNeg)) ≤ (gI σ 41 0 x1.toNatClampNeg) → Post (some (vI (0 : Int32))) σ) ∧ (¬ (((gI σ 41 0 x2.toNatClampNeg) + (gI σ 43 0 x2.toNatClampNeg)) ≤ (gI σ 41 0 x1.toNatClampNeg)) → vp_in x2 32 ∧ vp_in x1 32 ∧ vp_in x1 32 ∧ ((((gI σ 41 0 x1.toNatClampNeg) + (gI σ 43 0 x1.toNatClampNeg)) ≤ (gI σ 41 0 x2.toNatClampNeg) → Post (some (vI (0 : Int32))) σ) ∧ (¬ (((gI σ 41 0 x1.toNatClampNeg) + (gI σ 43 0 x1.toNatClampNeg)) ≤ (gI σ 41 0 x2.toNatClampNeg)) → vp_in x1 32 ∧ vp_in x2 32 ∧ ((((gI σ 42 0 x2.toNatClampNeg) + (10 : Int32)) ≤ (gI σ 42 0 x1.toNatClampNeg) → Post (some (vI (0 : Int32))) σ) ∧ (¬ (((gI σ 42 0 x2.toNatClampNeg) + (10 : Int32)) ≤ (gI σ 42 0 x1.toNatClampNeg)) → vp_in x2 32 ∧ vp_in x1 32 ∧ ((((gI σ 42 0 x1.toNatClampNeg) + (10 : Int32)) ≤ (gI σ 42 0 x2.toNatClampNeg) → Post (some (vI (0 : Int32))) σ) ∧ (¬ (((gI σ 42 0 x1.toNatClampNeg) + (10 : Int32)) ≤ (gI σ 42 0 x2.toNatClampNeg)) → Post (some (vI (1 : Int32))) σ))))))))) : WS d M_Setter_overlap 0 [vR 33 0, vI x1, vI x2] [] σ Post := by
  refine WS.run (C := [vp_in x1 32, vp_in x2 32, vp_in x2 32]) (pc' := 19) (L' := [vR 33 0, vI x1, vI x2]) (S' := [vI ((gI σ 41 0 x2.toNatClampNeg) + (gI σ 43 0 x2.toNatClampNeg)), vI (gI σ 41 0 x1.toNatClampNeg)]) (σ' := σ) 13 rfl ⟨h.1, h.2.1, h.2.2.1, trivial⟩ ?_
  refine WS.br (P := ((gI σ 41 0 x2.toNatClampNeg) + (gI σ 43 0 x2.toNatClampNeg)) ≤ (gI σ 41 0 x1.toNatClampNeg)) (a := 84) (b := 22) (S' := []) rfl (fun c1 => ?_) (fun c1 => ?_)
  · refine WS.run (C := []) (pc' := 85) (L' := [vR 33 0, vI x1, vI x2]) (S' := [vI (0 : Int32)]) (σ' := σ) 1 rfl trivial ?_
    exact WS.ret rfl rfl (by decide) rfl (h.2.2.2.1 c1)
  · refine WS.run (C := [vp_in x2 32, vp_in x1 32, vp_in x1 32]) (pc' := 41) (L' := [vR 33 0, vI x1, vI x2]) (S' := [vI ((gI σ 41 0 x1.toNatClampNeg) + (gI σ 43 0 x1.toNatClampNeg)), vI (gI σ 41 0 x2.toNatClampNeg)]) (σ' := σ) 13 rfl ⟨(h.2.2.2.2 c1).1, (h.2.2.2.2 c1).2.1, (h.2.2.2.2 c1).2.2.1, trivial⟩ ?_
    refine WS.br (P := ((gI σ 41 0 x1.toNatClampNeg) + (gI σ 43 0 x1.toNatClampNeg)) ≤ (gI σ 41 0 x2.toNatClampNeg)) (a := 84) (b := 44) (S' := []) rfl (fun c2 => ?_) (fun c2 => ?_)
    · refine WS.run (C := []) (pc' := 85) (L' := [vR 33 0, vI x1, vI x2]) (S' := [vI (0 : Int32)]) (σ' := σ) 1 rfl trivial ?_
      exact WS.ret rfl rfl (by decide) rfl ((h.2.2.2.2 c1).2.2.2.1 c2)
    · refine WS.run (C := [vp_in x1 32, vp_in x2 32]) (pc' := 59) (L' := [vR 33 0, vI x1, vI x2]) (S' := [vI ((gI σ 42 0 x2.toNatClampNeg) + (10 : Int32)), vI (gI σ 42 0 x1.toNatClampNeg)]) (σ' := σ) 10 rfl ⟨((h.2.2.2.2 c1).2.2.2.2 c2).1, ((h.2.2.2.2 c1).2.2.2.2 c2).2.1, trivial⟩ ?_
      refine WS.br (P := ((gI σ 42 0 x2.toNatClampNeg) + (10 : Int32)) ≤ (gI σ 42 0 x1.toNatClampNeg)) (a := 84) (b := 62) (S' := []) rfl (fun c3 => ?_) (fun c3 => ?_)
      · refine WS.run (C := []) (pc' := 85) (L' := [vR 33 0, vI x1, vI x2]) (S' := [vI (0 : Int32)]) (σ' := σ) 1 rfl trivial ?_
        exact WS.ret rfl rfl (by decide) rfl (((h.2.2.2.2 c1).2.2.2.2 c2).2.2.1 c3)
      · refine WS.run (C := [vp_in x2 32, vp_in x1 32]) (pc' := 77) (L' := [vR 33 0, vI x1, vI x2]) (S' := [vI ((gI σ 42 0 x1.toNatClampNeg) + (10 : Int32)), vI (gI σ 42 0 x2.toNatClampNeg)]) (σ' := σ) 10 rfl ⟨(((h.2.2.2.2 c1).2.2.2.2 c2).2.2.2 c3).1, (((h.2.2.2.2 c1).2.2.2.2 c2).2.2.2 c3).2.1, trivial⟩ ?_
        refine WS.br (P := ((gI σ 42 0 x1.toNatClampNeg) + (10 : Int32)) ≤ (gI σ 42 0 x2.toNatClampNeg)) (a := 84) (b := 80) (S' := []) rfl (fun c4 => ?_) (fun c4 => ?_)
        · refine WS.run (C := []) (pc' := 85) (L' := [vR 33 0, vI x1, vI x2]) (S' := [vI (0 : Int32)]) (σ' := σ) 1 rfl trivial ?_
          exact WS.ret rfl rfl (by decide) rfl ((((h.2.2.2.2 c1).2.2.2.2 c2).2.2.2 c3).2.2.1 c4)
        · refine WS.run (C := []) (pc' := 85) (L' := [vR 33 0, vI x1, vI x2]) (S' := [vI (1 : Int32)]) (σ' := σ) 2 rfl trivial ?_
          exact WS.ret rfl rfl (by decide) rfl ((((h.2.2.2.2 c1).2.2.2.2 c2).2.2.2 c3).2.2.2 c4)
