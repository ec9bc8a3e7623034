/-! block lemmas -/
theorem nar01 {e : Int32} (h : e = 0 ∨ e = 1) : narrow .boolean (.int e) = .int e := by rcases h with rfl | rfl <;> rfl
set_option maxRecDepth 4000 in
set_option maxHeartbeats 400000 in
theorem b_TM_simple_0 {d : Nat} {σ : Mem} {Post : Option AV → Mem → Prop} {x1 x2 : Int32} (h : MM d M_TM_hasPoints [vR 0 0, vI x1] σ (fun r τ => WS (d + 1) M_TM_simple 5 [vR 0 0, vI x1, vI x2] (r.toList ++ []) τ Post)) : WS (d + 1) M_TM_simple 0 [vR 0 0, vI x1, vI x2] [] σ Post := by
  refine WS.run (C := []) (pc' := 2) (L' := [vR 0 0, vI x1, vI x2]) (S' := [vI x1, vR 0 0]) (σ' := σ) 2 rfl trivial ?_
  refine WS.callV M_TM_hasPoints (k := 0) (i := 0) (as := [vI x1]) (rest := []) rfl lk_10_92 rfl rfl rfl (Nat.le_of_ble_eq_true rfl) ?_
  exact h
set_option maxRecDepth 4000 in
set_option maxHeartbeats 400000 in
theorem b_TM_simple_5t {d : Nat} {σ : Mem} {Post : Option AV → Mem → Prop} {x1 x2 : Int32} (h : MM d M_TM_inRange [vI x2, vI (100 : Int32)] σ (fun r τ => WS (d + 1) M_TM_simple 14 [vR 0 0, vI x1, vI x2] (r.toList ++ []) τ Post)) : WS (d + 1) M_TM_simple 5 [vR 0 0, vI x1, vI x2] [vI (1 : Int32)] σ Post := by
  refine WS.br (P := (1 : Int32) = 0) (a := 17) (b := 8) (S' := []) rfl (fun cc => absurd cc (by decide)) (fun _ => ?_)
  refine WS.run (C := []) (pc' := 11) (L' := [vR 0 0, vI x1, vI x2]) (S' := [vI (100 : Int32), vI x2]) (σ' := σ) 2 rfl trivial ?_
  refine WS.callS M_TM_inRange (as := [vI x2, vI (100 : Int32)]) (rest := []) rfl lk_10_71 rfl rfl (Nat.le_of_ble_eq_true rfl) ?_
  exact h
set_option maxRecDepth 4000 in
set_option maxHeartbeats 400000 in
theorem b_TM_simple_5f {d : Nat} {σ : Mem} {Post : Option AV → Mem → Prop} {x1 x2 : Int32} (h : Post (some (vI (-1 : Int32))) σ) : WS d M_TM_simple 5 [vR 0 0, vI x1, vI x2] [vI (0 : Int32)] σ Post := by
  refine WS.br (P := (0 : Int32) = 0) (a := 17) (b := 8) (S' := []) rfl (fun _ => ?_) (fun cc => absurd (by decide) cc)
  refine WS.run (C := []) (pc' := 18) (L' := [vR 0 0, vI x1, vI x2]) (S' := [vI (-1 : Int32)]) (σ' := σ) 1 rfl trivial ?_
  exact WS.ret rfl rfl (by decide) rfl h
set_option maxRecDepth 4000 in
set_option maxHeartbeats 400000 in
theorem b_TM_simple_14t {d : Nat} {σ : Mem} {Post : Option AV → Mem → Prop} {x1 x2 : Int32} (h : vp_in x1 12 ∧ MM d M_Ruler_thin [vR 10 0, vR 2 x1.toNatClampNeg, vI x2] σ (fun r τ => WS (d + 1) M_TM_simple 33 [vR 0 0, vI x1, vI x2] (r.toList ++ []) τ Post)) : WS (d + 1) M_TM_simple 14 [vR 0 0, vI x1, vI x2] [vI (1 : Int32)] σ Post := by
  refine WS.br (P := (1 : Int32) = 0) (a := 17) (b := 19) (S' := []) rfl (fun cc => absurd cc (by decide)) (fun _ => ?_)
  refine WS.run (C := [vp_in x1 12]) (pc' := 30) (L' := [vR 0 0, vI x1, vI x2]) (S' := [vI x2, vR 2 x1.toNatClampNeg, vR 10 0]) (σ' := σ) 7 rfl ⟨h.1, trivial⟩ ?_
  refine WS.callV M_Ruler_thin (k := 10) (i := 0) (as := [vR 2 x1.toNatClampNeg, vI x2]) (rest := []) rfl lk_10_96 rfl rfl rfl (Nat.le_of_ble_eq_true rfl) ?_
  exact h.2
set_option maxRecDepth 4000 in
set_option maxHeartbeats 400000 in
theorem b_TM_simple_14f {d : Nat} {σ : Mem} {Post : Option AV → Mem → Prop} {x1 x2 : Int32} (h : Post (some (vI (-1 : Int32))) σ) : WS d M_TM_simple 14 [vR 0 0, vI x1, vI x2] [vI (0 : Int32)] σ Post := by
  refine WS.br (P := (0 : Int32) = 0) (a := 17) (b := 19) (S' := []) rfl (fun _ => ?_) (fun cc => absurd (by decide) cc)
  refine WS.run (C := []) (pc' := 18) (L' := [vR 0 0, vI x1, vI x2]) (S' := [vI (-1 : Int32)]) (σ' := σ) 1 rfl trivial ?_
  exact WS.ret rfl rfl (by decide) rfl h
set_option maxRecDepth 4000 in
set_option maxHeartbeats 400000 in
theorem b_TM_simple_33 {d : Nat} {σ : Mem} {Post : Option AV → Mem → Prop} {x1 x2 : Int32} (h : vp_in x1 12 ∧ Post (some (vI (gI σ 2 x1.toNatClampNeg 4))) σ) : WS d M_TM_simple 33 [vR 0 0, vI x1, vI x2] [] σ Post := by
  refine WS.run (C := [vp_in x1 12]) (pc' := 42) (L' := [vR 0 0, vI x1, vI x2]) (S' := [vI (gI σ 2 x1.toNatClampNeg 4)]) (σ' := σ) 5 rfl ⟨h.1, trivial⟩ ?_
  exact WS.ret rfl rfl (by decide) rfl h.2
set_option maxRecDepth 4000 in
set_option maxHeartbeats 400000 in
theorem b_TM_drawn_0 {d : Nat} {σ : Mem} {Post : Option AV → Mem → Prop} {x1 x2 : Int32} (h : MM d M_TM_hasPoints [vR 0 0, vI x1] σ (fun r τ => WS (d + 1) M_TM_drawn 5 [vR 0 0, vI x1, vI x2] (r.toList ++ []) τ Post)) : WS (d + 1) M_TM_drawn 0 [vR 0 0, vI x1, vI x2] [] σ Post := by
  refine WS.run (C := []) (pc' := 2) (L' := [vR 0 0, vI x1, vI x2]) (S' := [vI x1, vR 0 0]) (σ' := σ) 2 rfl trivial ?_
  refine WS.callV M_TM_hasPoints (k := 0) (i := 0) (as := [vI x1]) (rest := []) rfl lk_10_92 rfl rfl rfl (Nat.le_of_ble_eq_true rfl) ?_
  exact h
set_option maxRecDepth 4000 in
set_option maxHeartbeats 400000 in
theorem b_TM_drawn_5t {d : Nat} {σ : Mem} {Post : Option AV → Mem → Prop} {x1 x2 : Int32} (h : vp_in x1 12 ∧ MM d M_TM_inRange [vI x2, vI ((gI σ 2 x1.toNatClampNeg 4) - (1 : Int32))] σ (fun r τ => WS (d + 1) M_TM_drawn 23 [vR 0 0, vI x1, vI x2] (r.toList ++ []) τ Post)) : WS (d + 1) M_TM_drawn 5 [vR 0 0, vI x1, vI x2] [vI (1 : Int32)] σ Post := by
  refine WS.br (P := (1 : Int32) = 0) (a := 26) (b := 8) (S' := []) rfl (fun cc => absurd cc (by decide)) (fun _ => ?_)
  refine WS.run (C := [vp_in x1 12]) (pc' := 20) (L' := [vR 0 0, vI x1, vI x2]) (S' := [vI ((gI σ 2 x1.toNatClampNeg 4) - (1 : Int32)), vI x2]) (σ' := σ) 8 rfl ⟨h.1, trivial⟩ ?_
  refine WS.callS M_TM_inRange (as := [vI x2, vI ((gI σ 2 x1.toNatClampNeg 4) - (1 : Int32))]) (rest := []) rfl lk_10_71 rfl rfl (Nat.le_of_ble_eq_true rfl) ?_
  exact h.2
set_option maxRecDepth 4000 in
set_option maxHeartbeats 400000 in
theorem b_TM_drawn_5f {d : Nat} {σ : Mem} {Post : Option AV → Mem → Prop} {x1 x2 : Int32} (h : Post (some (vI (-1 : Int32))) σ) : WS d M_TM_drawn 5 [vR 0 0, vI x1, vI x2] [vI (0 : Int32)] σ Post := by
  refine WS.br (P := (0 : Int32) = 0) (a := 26) (b := 8) (S' := []) rfl (fun _ => ?_) (fun cc => absurd (by decide) cc)
  refine WS.run (C := []) (pc' := 27) (L' := [vR 0 0, vI x1, vI x2]) (S' := [vI (-1 : Int32)]) (σ' := σ) 1 rfl trivial ?_
  exact WS.ret rfl rfl (by decide) rfl h
set_option maxRecDepth 4000 in
set_option maxHeartbeats 400000 in
theorem b_TM_drawn_23t {d : Nat} {σ : Mem} {Post : Option AV → Mem → Prop} {x1 x2 : Int32} (h : vp_in x1 12 ∧ vp_in x2 20 ∧ Post (some (vI (gI σ 5 x1.toNatClampNeg x2.toNatClampNeg))) σ) : WS d M_TM_drawn 23 [vR 0 0, vI x1, vI x2] [vI (1 : Int32)] σ Post := by
  refine WS.br (P := (1 : Int32) = 0) (a := 26) (b := 28) (S' := []) rfl (fun cc => absurd cc (by decide)) (fun _ => ?_)
  refine WS.run (C := [vp_in x1 12, vp_in x2 20]) (pc' := 39) (L' := [vR 0 0, vI x1, vI x2]) (S' := [vI (gI σ 5 x1.toNatClampNeg x2.toNatClampNeg)]) (σ' := σ) 7 rfl ⟨h.1, h.2.1, trivial⟩ ?_
  exact WS.ret rfl rfl (by decide) rfl h.2.2
set_option maxRecDepth 4000 in
set_option maxHeartbeats 400000 in
theorem b_TM_drawn_23f {d : Nat} {σ : Mem} {Post : Option AV → Mem → Prop} {x1 x2 : Int32} (h : Post (some (vI (-1 : Int32))) σ) : WS d M_TM_drawn 23 [vR 0 0, vI x1, vI x2] [vI (0 : Int32)] σ Post := by
  refine WS.br (P := (0 : Int32) = 0) (a := 26) (b := 28) (S' := []) rfl (fun _ => ?_) (fun cc => absurd (by decide) cc)
  refine WS.run (C := []) (pc' := 27) (L' := [vR 0 0, vI x1, vI x2]) (S' := [vI (-1 : Int32)]) (σ' := σ) 1 rfl trivial ?_
  exact WS.ret rfl rfl (by decide) rfl h
set_option maxRecDepth 4000 in
set_option maxHeartbeats 400000 in
theorem b_TM_turn_0 {d : Nat} {σ : Mem} {Post : Option AV → Mem → Prop} {x1 x2 : Int32} (h : MM d M_TM_hasPoints [vR 0 0, vI x1] σ (fun r τ => WS (d + 1) M_TM_turn 5 [vR 0 0, vI x1, vI x2] (r.toList ++ []) τ Post)) : WS (d + 1) M_TM_turn 0 [vR 0 0, vI x1, vI x2] [] σ Post := by
  refine WS.run (C := []) (pc' := 2) (L' := [vR 0 0, vI x1, vI x2]) (S' := [vI x1, vR 0 0]) (σ' := σ) 2 rfl trivial ?_
  refine WS.callV M_TM_hasPoints (k := 0) (i := 0) (as := [vI x1]) (rest := []) rfl lk_10_92 rfl rfl rfl (Nat.le_of_ble_eq_true rfl) ?_
  exact h
set_option maxRecDepth 4000 in
set_option maxHeartbeats 400000 in
theorem b_TM_turn_5t {d : Nat} {σ : Mem} {Post : Option AV → Mem → Prop} {x1 x2 : Int32} (h : ((x2 < (1 : Int32) → Post (some (vI (-2 : Int32))) σ) ∧ (¬ (x2 < (1 : Int32)) → vp_in x1 12 ∧ MM d M_TM_inRange [vI x2, vI ((gI σ 2 x1.toNatClampNeg 4) - (2 : Int32))] σ (fun r τ => WS (d + 1) M_TM_turn 28 [vR 0 0, vI x1, vI x2] (r.toList ++ []) τ Post)))) : WS (d + 1) M_TM_turn 5 [vR 0 0, vI x1, vI x2] [vI (1 : Int32)] σ Post := by
  refine WS.br (P := (1 : Int32) = 0) (a := 31) (b := 8) (S' := []) rfl (fun cc => absurd cc (by decide)) (fun _ => ?_)
  refine WS.run (C := []) (pc' := 10) (L' := [vR 0 0, vI x1, vI x2]) (S' := [vI (1 : Int32), vI x2]) (σ' := σ) 2 rfl trivial ?_
  refine WS.br (P := x2 < (1 : Int32)) (a := 31) (b := 13) (S' := []) rfl (fun c1 => ?_) (fun c1 => ?_)
  · refine WS.run (C := []) (pc' := 33) (L' := [vR 0 0, vI x1, vI x2]) (S' := [vI (-2 : Int32)]) (σ' := σ) 1 rfl trivial ?_
    exact WS.ret rfl rfl (by decide) rfl (h.1 c1)
  · refine WS.run (C := [vp_in x1 12]) (pc' := 25) (L' := [vR 0 0, vI x1, vI x2]) (S' := [vI ((gI σ 2 x1.toNatClampNeg 4) - (2 : Int32)), vI x2]) (σ' := σ) 8 rfl ⟨(h.2 c1).1, trivial⟩ ?_
    refine WS.callS M_TM_inRange (as := [vI x2, vI ((gI σ 2 x1.toNatClampNeg 4) - (2 : Int32))]) (rest := []) rfl lk_10_71 rfl rfl (Nat.le_of_ble_eq_true rfl) ?_
    exact (h.2 c1).2
set_option maxRecDepth 4000 in
set_option maxHeartbeats 400000 in
theorem b_TM_turn_5f {d : Nat} {σ : Mem} {Post : Option AV → Mem → Prop} {x1 x2 : Int32} (h : Post (some (vI (-2 : Int32))) σ) : WS d M_TM_turn 5 [vR 0 0, vI x1, vI x2] [vI (0 : Int32)] σ Post := by
  refine WS.br (P := (0 : Int32) = 0) (a := 31) (b := 8) (S' := []) rfl (fun _ => ?_) (fun cc => absurd (by decide) cc)
  refine WS.run (C := []) (pc' := 33) (L' := [vR 0 0, vI x1, vI x2]) (S' := [vI (-2 : Int32)]) (σ' := σ) 1 rfl trivial ?_
  exact WS.ret rfl rfl (by decide) rfl h
set_option maxRecDepth 4000 in
set_option maxHeartbeats 400000 in
theorem b_TM_turn_28t {d : Nat} {σ : Mem} {Post : Option AV → Mem → Prop} {x1 x2 : Int32} (h : vp_in x1 12 ∧ MM d M_Way_bend [vR 2 x1.toNatClampNeg, vI x2] σ (fun r τ => WS (d + 1) M_TM_turn 44 [vR 0 0, vI x1, vI x2] (r.toList ++ []) τ Post)) : WS (d + 1) M_TM_turn 28 [vR 0 0, vI x1, vI x2] [vI (1 : Int32)] σ Post := by
  refine WS.br (P := (1 : Int32) = 0) (a := 31) (b := 34) (S' := []) rfl (fun cc => absurd cc (by decide)) (fun _ => ?_)
  refine WS.run (C := [vp_in x1 12]) (pc' := 41) (L' := [vR 0 0, vI x1, vI x2]) (S' := [vI x2, vR 2 x1.toNatClampNeg]) (σ' := σ) 5 rfl ⟨h.1, trivial⟩ ?_
  refine WS.callV M_Way_bend (k := 2) (i := x1.toNatClampNeg) (as := [vI x2]) (rest := []) rfl lk_10_107 rfl rfl rfl (Nat.le_of_ble_eq_true rfl) ?_
  exact h.2
set_option maxRecDepth 4000 in
set_option maxHeartbeats 400000 in
theorem b_TM_turn_28f {d : Nat} {σ : Mem} {Post : Option AV → Mem → Prop} {x1 x2 : Int32} (h : Post (some (vI (-2 : Int32))) σ) : WS d M_TM_turn 28 [vR 0 0, vI x1, vI x2] [vI (0 : Int32)] σ Post := by
  refine WS.br (P := (0 : Int32) = 0) (a := 31) (b := 34) (S' := []) rfl (fun _ => ?_) (fun cc => absurd (by decide) cc)
  refine WS.run (C := []) (pc' := 33) (L' := [vR 0 0, vI x1, vI x2]) (S' := [vI (-2 : Int32)]) (σ' := σ) 1 rfl trivial ?_
  exact WS.ret rfl rfl (by decide) rfl h
set_option maxRecDepth 4000 in
set_option maxHeartbeats 400000 in
theorem b_TM_turn_44 {d : Nat} {σ : Mem} {Post : Option AV → Mem → Prop} {x1 x2 sx0 : Int32} (h : Post (some (vI sx0)) σ) : WS d M_TM_turn 44 [vR 0 0, vI x1, vI x2] [vI sx0] σ Post := by
  exact WS.ret rfl rfl (by decide) rfl h
set_option maxRecDepth 4000 in
set_option maxHeartbeats 400000 in
theorem b_TM_keep_0 {d : Nat} {σ : Mem} {Post : Option AV → Mem → Prop}  (h : MM d M_Keeper_find [vR 15 0, vR 1 0, vR 10 0, vI (gI σ 0 0 8)] σ (fun r τ => WS (d + 1) M_TM_keep 19 [vR 0 0] (r.toList ++ []) τ Post)) : WS (d + 1) M_TM_keep 0 [vR 0 0] [] σ Post := by
  refine WS.run (C := []) (pc' := 16) (L' := [vR 0 0]) (S' := [vI (gI σ 0 0 8), vR 10 0, vR 1 0, vR 15 0]) (σ' := σ) 8 rfl trivial ?_
  refine WS.callV M_Keeper_find (k := 15) (i := 0) (as := [vR 1 0, vR 10 0, vI (gI σ 0 0 8)]) (rest := []) rfl lk_10_122 rfl rfl rfl (Nat.le_of_ble_eq_true rfl) ?_
  exact h
set_option maxRecDepth 4000 in
set_option maxHeartbeats 400000 in
theorem b_TM_keep_19 {d : Nat} {σ : Mem} {Post : Option AV → Mem → Prop} {sx0 : Int32} (h : Post (some (vI sx0)) σ) : WS d M_TM_keep 19 [vR 0 0] [vI sx0] σ Post := by
  exact WS.ret rfl rfl (by decide) rfl h
set_option maxRecDepth 4000 in
set_option maxHeartbeats 400000 in
theorem b_TM_kept_0 {d : Nat} {σ : Mem} {Post : Option AV → Mem → Prop} {x1 : Int32} (h : MM d M_TM_inRange [vI x1, vI (11 : Int32)] σ (fun r τ => WS (d + 1) M_TM_kept 6 [vR 0 0, vI x1] (r.toList ++ []) τ Post)) : WS (d + 1) M_TM_kept 0 [vR 0 0, vI x1] [] σ Post := by
  refine WS.run (C := []) (pc' := 3) (L' := [vR 0 0, vI x1]) (S' := [vI (11 : Int32), vI x1]) (σ' := σ) 2 rfl trivial ?_
  refine WS.callS M_TM_inRange (as := [vI x1, vI (11 : Int32)]) (rest := []) rfl lk_10_71 rfl rfl (Nat.le_of_ble_eq_true rfl) ?_
  exact h
set_option maxRecDepth 4000 in
set_option maxHeartbeats 400000 in
theorem b_TM_kept_6t {d : Nat} {σ : Mem} {Post : Option AV → Mem → Prop} {x1 : Int32} (h : (((gI σ 15 0 1) = 0 → Post (some (vI (-1 : Int32))) σ) ∧ (¬ ((gI σ 15 0 1) = 0) → MM d M_Keeper_holds [vR 15 0, vI x1] σ (fun r τ => WS (d + 1) M_TM_kept 29 [vR 0 0, vI x1] (r.toList ++ []) τ Post)))) : WS (d + 1) M_TM_kept 6 [vR 0 0, vI x1] [vI (1 : Int32)] σ Post := by
  refine WS.br (P := (1 : Int32) = 0) (a := 19) (b := 9) (S' := []) rfl (fun cc => absurd cc (by decide)) (fun _ => ?_)
  refine WS.run (C := []) (pc' := 16) (L' := [vR 0 0, vI x1]) (S' := [vI (gI σ 15 0 1)]) (σ' := σ) 3 rfl trivial ?_
  refine WS.br (P := (gI σ 15 0 1) = 0) (a := 19) (b := 21) (S' := []) rfl (fun c1 => ?_) (fun c1 => ?_)
  · refine WS.run (C := []) (pc' := 20) (L' := [vR 0 0, vI x1]) (S' := [vI (-1 : Int32)]) (σ' := σ) 1 rfl trivial ?_
    exact WS.ret rfl rfl (by decide) rfl (h.1 c1)
  · refine WS.run (C := []) (pc' := 26) (L' := [vR 0 0, vI x1]) (S' := [vI x1, vR 15 0]) (σ' := σ) 3 rfl trivial ?_
    refine WS.callV M_Keeper_holds (k := 15) (i := 0) (as := [vI x1]) (rest := []) rfl lk_10_130 rfl rfl rfl (Nat.le_of_ble_eq_true rfl) ?_
    exact (h.2 c1)
set_option maxRecDepth 4000 in
set_option maxHeartbeats 400000 in
theorem b_TM_kept_6f {d : Nat} {σ : Mem} {Post : Option AV → Mem → Prop} {x1 : Int32} (h : Post (some (vI (-1 : Int32))) σ) : WS d M_TM_kept 6 [vR 0 0, vI x1] [vI (0 : Int32)] σ Post := by
  refine WS.br (P := (0 : Int32) = 0) (a := 19) (b := 9) (S' := []) rfl (fun _ => ?_) (fun cc => absurd (by decide) cc)
  refine WS.run (C := []) (pc' := 20) (L' := [vR 0 0, vI x1]) (S' := [vI (-1 : Int32)]) (σ' := σ) 1 rfl trivial ?_
  exact WS.ret rfl rfl (by decide) rfl h
set_option maxRecDepth 4000 in
set_option maxHeartbeats 400000 in
theorem b_TM_kept_29t {d : Nat} {σ : Mem} {Post : Option AV → Mem → Prop} {x1 : Int32} (h : Post (some (vI (1 : Int32))) σ) : WS d M_TM_kept 29 [vR 0 0, vI x1] [vI (1 : Int32)] σ Post := by
  refine WS.br (P := (1 : Int32) = 0) (a := 36) (b := 32) (S' := []) rfl (fun cc => absurd cc (by decide)) (fun _ => ?_)
  refine WS.run (C := []) (pc' := 37) (L' := [vR 0 0, vI x1]) (S' := [vI (1 : Int32)]) (σ' := σ) 2 rfl trivial ?_
  exact WS.ret rfl rfl (by decide) rfl h
set_option maxRecDepth 4000 in
set_option maxHeartbeats 400000 in
theorem b_TM_kept_29f {d : Nat} {σ : Mem} {Post : Option AV → Mem → Prop} {x1 : Int32} (h : Post (some (vI (0 : Int32))) σ) : WS d M_TM_kept 29 [vR 0 0, vI x1] [vI (0 : Int32)] σ Post := by
  refine WS.br (P := (0 : Int32) = 0) (a := 36) (b := 32) (S' := []) rfl (fun _ => ?_) (fun cc => absurd (by decide) cc)
  refine WS.run (C := []) (pc' := 37) (L' := [vR 0 0, vI x1]) (S' := [vI (0 : Int32)]) (σ' := σ) 1 rfl trivial ?_
  exact WS.ret rfl rfl (by decide) rfl h
set_option maxRecDepth 4000 in
set_option maxHeartbeats 400000 in
theorem b_TM_touch_0 {d : Nat} {σ : Mem} {Post : Option AV → Mem → Prop} {x1 x2 x3 : Int32} (h : MM d M_TM_areTwo [vI x1, vI x2, vI (8 : Int32)] σ (fun r τ => WS (d + 1) M_TM_touch 7 [vR 0 0, vI x1, vI x2, vI x3] (r.toList ++ []) τ Post)) : WS (d + 1) M_TM_touch 0 [vR 0 0, vI x1, vI x2, vI x3] [] σ Post := by
  refine WS.run (C := []) (pc' := 4) (L' := [vR 0 0, vI x1, vI x2, vI x3]) (S' := [vI (8 : Int32), vI x2, vI x1]) (σ' := σ) 3 rfl trivial ?_
  refine WS.callS M_TM_areTwo (as := [vI x1, vI x2, vI (8 : Int32)]) (rest := []) rfl lk_10_179 rfl rfl (Nat.le_of_ble_eq_true rfl) ?_
  exact h
set_option maxRecDepth 4000 in
set_option maxHeartbeats 400000 in
theorem b_TM_touch_7t {d : Nat} {σ : Mem} {Post : Option AV → Mem → Prop} {x1 x2 x3 : Int32} (h : MM d M_TM_join [vR 46 0, vI x1, vI x2, vI x3] σ (fun r τ => WS (d + 1) M_TM_touch 25 [vR 0 0, vI x1, vI x2, vI x3] (r.toList ++ []) τ Post)) : WS (d + 1) M_TM_touch 7 [vR 0 0, vI x1, vI x2, vI x3] [vI (1 : Int32)] σ Post := by
  refine WS.br (P := (1 : Int32) = 0) (a := 10) (b := 12) (S' := []) rfl (fun cc => absurd cc (by decide)) (fun _ => ?_)
  refine WS.run (C := []) (pc' := 22) (L' := [vR 0 0, vI x1, vI x2, vI x3]) (S' := [vI x3, vI x2, vI x1, vR 46 0]) (σ' := σ) 6 rfl trivial ?_
  refine WS.callS M_TM_join (as := [vR 46 0, vI x1, vI x2, vI x3]) (rest := []) rfl lk_10_186 rfl rfl (Nat.le_of_ble_eq_true rfl) ?_
  exact h
set_option maxRecDepth 4000 in
set_option maxHeartbeats 400000 in
theorem b_TM_touch_7f {d : Nat} {σ : Mem} {Post : Option AV → Mem → Prop} {x1 x2 x3 : Int32} (h : Post (some (vI (0 : Int32))) σ) : WS d M_TM_touch 7 [vR 0 0, vI x1, vI x2, vI x3] [vI (0 : Int32)] σ Post := by
  refine WS.br (P := (0 : Int32) = 0) (a := 10) (b := 12) (S' := []) rfl (fun _ => ?_) (fun cc => absurd (by decide) cc)
  refine WS.run (C := []) (pc' := 11) (L' := [vR 0 0, vI x1, vI x2, vI x3]) (S' := [vI (0 : Int32)]) (σ' := σ) 1 rfl trivial ?_
  exact WS.ret rfl rfl (by decide) rfl h
set_option maxRecDepth 4000 in
set_option maxHeartbeats 400000 in
theorem b_TM_touch_25 {d : Nat} {σ : Mem} {Post : Option AV → Mem → Prop} {x1 x2 x3 : Int32} (h : Post (some (vI (1 : Int32))) σ) : WS d M_TM_touch 25 [vR 0 0, vI x1, vI x2, vI x3] [] σ Post := by
  refine WS.run (C := []) (pc' := 26) (L' := [vR 0 0, vI x1, vI x2, vI x3]) (S' := [vI (1 : Int32)]) (σ' := σ) 1 rfl trivial ?_
  exact WS.ret rfl rfl (by decide) rfl h
set_option maxRecDepth 4000 in
set_option maxHeartbeats 400000 in
theorem b_TM_apart_0 {d : Nat} {σ : Mem} {Post : Option AV → Mem → Prop} {x1 x2 x3 : Int32} (h : MM d M_TM_areTwo [vI x1, vI x2, vI (5 : Int32)] σ (fun r τ => WS (d + 1) M_TM_apart 6 [vR 0 0, vI x1, vI x2, vI x3] (r.toList ++ []) τ Post)) : WS (d + 1) M_TM_apart 0 [vR 0 0, vI x1, vI x2, vI x3] [] σ Post := by
  refine WS.run (C := []) (pc' := 3) (L' := [vR 0 0, vI x1, vI x2, vI x3]) (S' := [vI (5 : Int32), vI x2, vI x1]) (σ' := σ) 3 rfl trivial ?_
  refine WS.callS M_TM_areTwo (as := [vI x1, vI x2, vI (5 : Int32)]) (rest := []) rfl lk_10_179 rfl rfl (Nat.le_of_ble_eq_true rfl) ?_
  exact h
set_option maxRecDepth 4000 in
set_option maxHeartbeats 400000 in
theorem b_TM_apart_6t {d : Nat} {σ : Mem} {Post : Option AV → Mem → Prop} {x1 x2 x3 : Int32} (h : MM d M_TM_join [vR 47 0, vI x1, vI x2, vI x3] σ (fun r τ => WS (d + 1) M_TM_apart 24 [vR 0 0, vI x1, vI x2, vI x3] (r.toList ++ []) τ Post)) : WS (d + 1) M_TM_apart 6 [vR 0 0, vI x1, vI x2, vI x3] [vI (1 : Int32)] σ Post := by
  refine WS.br (P := (1 : Int32) = 0) (a := 9) (b := 11) (S' := []) rfl (fun cc => absurd cc (by decide)) (fun _ => ?_)
  refine WS.run (C := []) (pc' := 21) (L' := [vR 0 0, vI x1, vI x2, vI x3]) (S' := [vI x3, vI x2, vI x1, vR 47 0]) (σ' := σ) 6 rfl trivial ?_
  refine WS.callS M_TM_join (as := [vR 47 0, vI x1, vI x2, vI x3]) (rest := []) rfl lk_10_186 rfl rfl (Nat.le_of_ble_eq_true rfl) ?_
  exact h
set_option maxRecDepth 4000 in
set_option maxHeartbeats 400000 in
theorem b_TM_apart_6f {d : Nat} {σ : Mem} {Post : Option AV → Mem → Prop} {x1 x2 x3 : Int32} (h : Post (some (vI (0 : Int32))) σ) : WS d M_TM_apart 6 [vR 0 0, vI x1, vI x2, vI x3] [vI (0 : Int32)] σ Post := by
  refine WS.br (P := (0 : Int32) = 0) (a := 9) (b := 11) (S' := []) rfl (fun _ => ?_) (fun cc => absurd (by decide) cc)
  refine WS.run (C := []) (pc' := 10) (L' := [vR 0 0, vI x1, vI x2, vI x3]) (S' := [vI (0 : Int32)]) (σ' := σ) 1 rfl trivial ?_
  exact WS.ret rfl rfl (by decide) rfl h
set_option maxRecDepth 4000 in
set_option maxHeartbeats 400000 in
theorem b_TM_apart_24 {d : Nat} {σ : Mem} {Post : Option AV → Mem → Prop} {x1 x2 x3 : Int32} (h : Post (some (vI (1 : Int32))) σ) : WS d M_TM_apart 24 [vR 0 0, vI x1, vI x2, vI x3] [] σ Post := by
  refine WS.run (C := []) (pc' := 25) (L' := [vR 0 0, vI x1, vI x2, vI x3]) (S' := [vI (1 : Int32)]) (σ' := σ) 1 rfl trivial ?_
  exact WS.ret rfl rfl (by decide) rfl h
set_option maxRecDepth 4000 in
set_option maxHeartbeats 400000 in
theorem b_TM_lay_0 {d : Nat} {σ : Mem} {Post : Option AV → Mem → Prop} {x1 : Int32} (h : MM d M_TM_inRange [vI x1, vI (8 : Int32)] σ (fun r τ => WS (d + 1) M_TM_lay 6 [vR 0 0, vI x1] (r.toList ++ []) τ Post)) : WS (d + 1) M_TM_lay 0 [vR 0 0, vI x1] [] σ Post := by
  refine WS.run (C := []) (pc' := 3) (L' := [vR 0 0, vI x1]) (S' := [vI (8 : Int32), vI x1]) (σ' := σ) 2 rfl trivial ?_
  refine WS.callS M_TM_inRange (as := [vI x1, vI (8 : Int32)]) (rest := []) rfl lk_10_71 rfl rfl (Nat.le_of_ble_eq_true rfl) ?_
  exact h
set_option maxRecDepth 4000 in
set_option maxHeartbeats 400000 in
theorem b_TM_lay_6t {d : Nat} {σ : Mem} {Post : Option AV → Mem → Prop} {x1 : Int32} (h : MM d M_Layer_find [vR 45 0, vI x1] σ (fun r τ => WS (d + 1) M_TM_lay 17 [vR 0 0, vI x1] (r.toList ++ []) τ Post)) : WS (d + 1) M_TM_lay 6 [vR 0 0, vI x1] [vI (1 : Int32)] σ Post := by
  refine WS.br (P := (1 : Int32) = 0) (a := 20) (b := 9) (S' := []) rfl (fun cc => absurd cc (by decide)) (fun _ => ?_)
  refine WS.run (C := []) (pc' := 14) (L' := [vR 0 0, vI x1]) (S' := [vI x1, vR 45 0]) (σ' := σ) 3 rfl trivial ?_
  refine WS.callV M_Layer_find (k := 45) (i := 0) (as := [vI x1]) (rest := []) rfl lk_10_193 rfl rfl rfl (Nat.le_of_ble_eq_true rfl) ?_
  exact h
set_option maxRecDepth 4000 in
set_option maxHeartbeats 400000 in
theorem b_TM_lay_6f {d : Nat} {σ : Mem} {Post : Option AV → Mem → Prop} {x1 : Int32} (h : Post (some (vI (-1 : Int32))) σ) : WS d M_TM_lay 6 [vR 0 0, vI x1] [vI (0 : Int32)] σ Post := by
  refine WS.br (P := (0 : Int32) = 0) (a := 20) (b := 9) (S' := []) rfl (fun _ => ?_) (fun cc => absurd (by decide) cc)
  refine WS.run (C := []) (pc' := 21) (L' := [vR 0 0, vI x1]) (S' := [vI (-1 : Int32)]) (σ' := σ) 1 rfl trivial ?_
  exact WS.ret rfl rfl (by decide) rfl h
set_option maxRecDepth 4000 in
set_option maxHeartbeats 400000 in
theorem b_TM_lay_17 {d : Nat} {σ : Mem} {Post : Option AV → Mem → Prop} {x1 sx0 : Int32} (h : Post (some (vI sx0)) σ) : WS d M_TM_lay 17 [vR 0 0, vI x1] [vI sx0] σ Post := by
  refine WS.run (C := []) (pc' := 21) (L' := [vR 0 0, vI x1]) (S' := [vI sx0]) (σ' := σ) 1 rfl trivial ?_
  exact WS.ret rfl rfl (by decide) rfl h
set_option maxRecDepth 4000 in
set_option maxHeartbeats 400000 in
theorem b_TM_join46_0 {d : Nat} {σ : Mem} {Post : Option AV → Mem → Prop} {x1 x2 x3 : Int32} (h : ((x3 = 0 → vp_in x1 8 ∧ vp_in x1 8 ∧ (∀ σ1 : Mem, σ1 = pI σ 46 0 x1.toNatClampNeg ((gI σ 46 0 x1.toNatClampNeg) &&& (((1 : Int32) <<< (x2 &&& 31)) ^^^ (-1 : Int32))) → ((x3 = 0 → vp_in x2 8 ∧ vp_in x2 8 ∧ (∀ σ2 : Mem, σ2 = pI σ1 46 0 x2.toNatClampNeg ((gI σ1 46 0 x2.toNatClampNeg) &&& (((1 : Int32) <<< (x1 &&& 31)) ^^^ (-1 : Int32))) → Post none σ2)) ∧ (¬ (x3 = 0) → vp_in x2 8 ∧ vp_in x2 8 ∧ (∀ σ3 : Mem, σ3 = pI σ1 46 0 x2.toNatClampNeg ((gI σ1 46 0 x2.toNatClampNeg) ||| ((1 : Int32) <<< (x1 &&& 31))) → Post none σ3))))) ∧ (¬ (x3 = 0) → vp_in x1 8 ∧ vp_in x1 8 ∧ (∀ σ4 : Mem, σ4 = pI σ 46 0 x1.toNatClampNeg ((gI σ 46 0 x1.toNatClampNeg) ||| ((1 : Int32) <<< (x2 &&& 31))) → ((x3 = 0 → vp_in x2 8 ∧ vp_in x2 8 ∧ (∀ σ5 : Mem, σ5 = pI σ4 46 0 x2.toNatClampNeg ((gI σ4 46 0 x2.toNatClampNeg) &&& (((1 : Int32) <<< (x1 &&& 31)) ^^^ (-1 : Int32))) → Post none σ5)) ∧ (¬ (x3 = 0) → vp_in x2 8 ∧ vp_in x2 8 ∧ (∀ σ6 : Mem, σ6 = pI σ4 46 0 x2.toNatClampNeg ((gI σ4 46 0 x2.toNatClampNeg) ||| ((1 : Int32) <<< (x1 &&& 31))) → Post none σ6))))))) : WS d M_TM_join 0 [vR 46 0, vI x1, vI x2, vI x3] [] σ Post := by
  refine WS.run (C := []) (pc' := 3) (L' := [vR 46 0, vI x1, vI x2, vI x3]) (S' := [vI x3, vI x1, vR 46 0]) (σ' := σ) 3 rfl trivial ?_
  refine WS.br (P := x3 = 0) (a := 16) (b := 6) (S' := [vI x1, vR 46 0]) rfl (fun c1 => ?_) (fun c1 => ?_)
  · refine WS.run (C := [vp_in x1 8, vp_in x1 8]) (pc' := 26) (L' := [vR 46 0, vI x1, vI x2, vI x3]) (S' := []) (σ' := pI σ 46 0 x1.toNatClampNeg ((gI σ 46 0 x1.toNatClampNeg) &&& (((1 : Int32) <<< (x2 &&& 31)) ^^^ (-1 : Int32)))) 10 rfl ⟨(h.1 c1).1, (h.1 c1).2.1, trivial⟩ ?_
    obtain ⟨σ1, eσ1⟩ : ∃ z, z = pI σ 46 0 x1.toNatClampNeg ((gI σ 46 0 x1.toNatClampNeg) &&& (((1 : Int32) <<< (x2 &&& 31)) ^^^ (-1 : Int32))) := ⟨_, rfl⟩
    rw [← eσ1]
    refine WS.run (C := []) (pc' := 29) (L' := [vR 46 0, vI x1, vI x2, vI x3]) (S' := [vI x3, vI x2, vR 46 0]) (σ' := σ1) 3 rfl trivial ?_
    refine WS.br (P := x3 = 0) (a := 42) (b := 32) (S' := [vI x2, vR 46 0]) rfl (fun c2 => ?_) (fun c2 => ?_)
    · refine WS.run (C := [vp_in x2 8, vp_in x2 8]) (pc' := 52) (L' := [vR 46 0, vI x1, vI x2, vI x3]) (S' := []) (σ' := pI σ1 46 0 x2.toNatClampNeg ((gI σ1 46 0 x2.toNatClampNeg) &&& (((1 : Int32) <<< (x1 &&& 31)) ^^^ (-1 : Int32)))) 10 rfl ⟨(((h.1 c1).2.2 σ1 eσ1).1 c2).1, (((h.1 c1).2.2 σ1 eσ1).1 c2).2.1, trivial⟩ ?_
      obtain ⟨σ2, eσ2⟩ : ∃ z, z = pI σ1 46 0 x2.toNatClampNeg ((gI σ1 46 0 x2.toNatClampNeg) &&& (((1 : Int32) <<< (x1 &&& 31)) ^^^ (-1 : Int32))) := ⟨_, rfl⟩
      rw [← eσ2]
      exact WS.vret rfl rfl ((((h.1 c1).2.2 σ1 eσ1).1 c2).2.2 σ2 eσ2)
    · refine WS.run (C := [vp_in x2 8, vp_in x2 8]) (pc' := 52) (L' := [vR 46 0, vI x1, vI x2, vI x3]) (S' := []) (σ' := pI σ1 46 0 x2.toNatClampNeg ((gI σ1 46 0 x2.toNatClampNeg) ||| ((1 : Int32) <<< (x1 &&& 31)))) 9 rfl ⟨(((h.1 c1).2.2 σ1 eσ1).2 c2).1, (((h.1 c1).2.2 σ1 eσ1).2 c2).2.1, trivial⟩ ?_
      obtain ⟨σ3, eσ3⟩ : ∃ z, z = pI σ1 46 0 x2.toNatClampNeg ((gI σ1 46 0 x2.toNatClampNeg) ||| ((1 : Int32) <<< (x1 &&& 31))) := ⟨_, rfl⟩
      rw [← eσ3]
      exact WS.vret rfl rfl ((((h.1 c1).2.2 σ1 eσ1).2 c2).2.2 σ3 eσ3)
  · refine WS.run (C := [vp_in x1 8, vp_in x1 8]) (pc' := 26) (L' := [vR 46 0, vI x1, vI x2, vI x3]) (S' := []) (σ' := pI σ 46 0 x1.toNatClampNeg ((gI σ 46 0 x1.toNatClampNeg) ||| ((1 : Int32) <<< (x2 &&& 31)))) 9 rfl ⟨(h.2 c1).1, (h.2 c1).2.1, trivial⟩ ?_
    obtain ⟨σ4, eσ4⟩ : ∃ z, z = pI σ 46 0 x1.toNatClampNeg ((gI σ 46 0 x1.toNatClampNeg) ||| ((1 : Int32) <<< (x2 &&& 31))) := ⟨_, rfl⟩
    rw [← eσ4]
    refine WS.run (C := []) (pc' := 29) (L' := [vR 46 0, vI x1, vI x2, vI x3]) (S' := [vI x3, vI x2, vR 46 0]) (σ' := σ4) 3 rfl trivial ?_
    refine WS.br (P := x3 = 0) (a := 42) (b := 32) (S' := [vI x2, vR 46 0]) rfl (fun c3 => ?_) (fun c3 => ?_)
    · refine WS.run (C := [vp_in x2 8, vp_in x2 8]) (pc' := 52) (L' := [vR 46 0, vI x1, vI x2, vI x3]) (S' := []) (σ' := pI σ4 46 0 x2.toNatClampNeg ((gI σ4 46 0 x2.toNatClampNeg) &&& (((1 : Int32) <<< (x1 &&& 31)) ^^^ (-1 : Int32)))) 10 rfl ⟨(((h.2 c1).2.2 σ4 eσ4).1 c3).1, (((h.2 c1).2.2 σ4 eσ4).1 c3).2.1, trivial⟩ ?_
      obtain ⟨σ5, eσ5⟩ : ∃ z, z = pI σ4 46 0 x2.toNatClampNeg ((gI σ4 46 0 x2.toNatClampNeg) &&& (((1 : Int32) <<< (x1 &&& 31)) ^^^ (-1 : Int32))) := ⟨_, rfl⟩
      rw [← eσ5]
      exact WS.vret rfl rfl ((((h.2 c1).2.2 σ4 eσ4).1 c3).2.2 σ5 eσ5)
    · refine WS.run (C := [vp_in x2 8, vp_in x2 8]) (pc' := 52) (L' := [vR 46 0, vI x1, vI x2, vI x3]) (S' := []) (σ' := pI σ4 46 0 x2.toNatClampNeg ((gI σ4 46 0 x2.toNatClampNeg) ||| ((1 : Int32) <<< (x1 &&& 31)))) 9 rfl ⟨(((h.2 c1).2.2 σ4 eσ4).2 c3).1, (((h.2 c1).2.2 σ4 eσ4).2 c3).2.1, trivial⟩ ?_
      obtain ⟨σ6, eσ6⟩ : ∃ z, z = pI σ4 46 0 x2.toNatClampNeg ((gI σ4 46 0 x2.toNatClampNeg) ||| ((1 : Int32) <<< (x1 &&& 31))) := ⟨_, rfl⟩
      rw [← eσ6]
      exact WS.vret rfl rfl ((((h.2 c1).2.2 σ4 eσ4).2 c3).2.2 σ6 eσ6)
set_option maxRecDepth 4000 in
set_option maxHeartbeats 400000 in
theorem b_TM_join47_0 {d : Nat} {σ : Mem} {Post : Option AV → Mem → Prop} {x1 x2 x3 : Int32} (h : ((x3 = 0 → vp_in x1 5 ∧ vp_in x1 5 ∧ (∀ σ1 : Mem, σ1 = pI σ 47 0 x1.toNatClampNeg ((gI σ 47 0 x1.toNatClampNeg) &&& (((1 : Int32) <<< (x2 &&& 31)) ^^^ (-1 : Int32))) → ((x3 = 0 → vp_in x2 5 ∧ vp_in x2 5 ∧ (∀ σ2 : Mem, σ2 = pI σ1 47 0 x2.toNatClampNeg ((gI σ1 47 0 x2.toNatClampNeg) &&& (((1 : Int32) <<< (x1 &&& 31)) ^^^ (-1 : Int32))) → Post none σ2)) ∧ (¬ (x3 = 0) → vp_in x2 5 ∧ vp_in x2 5 ∧ (∀ σ3 : Mem, σ3 = pI σ1 47 0 x2.toNatClampNeg ((gI σ1 47 0 x2.toNatClampNeg) ||| ((1 : Int32) <<< (x1 &&& 31))) → Post none σ3))))) ∧ (¬ (x3 = 0) → vp_in x1 5 ∧ vp_in x1 5 ∧ (∀ σ4 : Mem, σ4 = pI σ 47 0 x1.toNatClampNeg ((gI σ 47 0 x1.toNatClampNeg) ||| ((1 : Int32) <<< (x2 &&& 31))) → ((x3 = 0 → vp_in x2 5 ∧ vp_in x2 5 ∧ (∀ σ5 : Mem, σ5 = pI σ4 47 0 x2.toNatClampNeg ((gI σ4 47 0 x2.toNatClampNeg) &&& (((1 : Int32) <<< (x1 &&& 31)) ^^^ (-1 : Int32))) → Post none σ5)) ∧ (¬ (x3 = 0) → vp_in x2 5 ∧ vp_in x2 5 ∧ (∀ σ6 : Mem, σ6 = pI σ4 47 0 x2.toNatClampNeg ((gI σ4 47 0 x2.toNatClampNeg) ||| ((1 : Int32) <<< (x1 &&& 31))) → Post none σ6))))))) : WS d M_TM_join 0 [vR 47 0, vI x1, vI x2, vI x3] [] σ Post := by
  refine WS.run (C := []) (pc' := 3) (L' := [vR 47 0, vI x1, vI x2, vI x3]) (S' := [vI x3, vI x1, vR 47 0]) (σ' := σ) 3 rfl trivial ?_
  refine WS.br (P := x3 = 0) (a := 16) (b := 6) (S' := [vI x1, vR 47 0]) rfl (fun c1 => ?_) (fun c1 => ?_)
  · refine WS.run (C := [vp_in x1 5, vp_in x1 5]) (pc' := 26) (L' := [vR 47 0, vI x1, vI x2, vI x3]) (S' := []) (σ' := pI σ 47 0 x1.toNatClampNeg ((gI σ 47 0 x1.toNatClampNeg) &&& (((1 : Int32) <<< (x2 &&& 31)) ^^^ (-1 : Int32)))) 10 rfl ⟨(h.1 c1).1, (h.1 c1).2.1, trivial⟩ ?_
    obtain ⟨σ1, eσ1⟩ : ∃ z, z = pI σ 47 0 x1.toNatClampNeg ((gI σ 47 0 x1.toNatClampNeg) &&& (((1 : Int32) <<< (x2 &&& 31)) ^^^ (-1 : Int32))) := ⟨_, rfl⟩
    rw [← eσ1]
    refine WS.run (C := []) (pc' := 29) (L' := [vR 47 0, vI x1, vI x2, vI x3]) (S' := [vI x3, vI x2, vR 47 0]) (σ' := σ1) 3 rfl trivial ?_
    refine WS.br (P := x3 = 0) (a := 42) (b := 32) (S' := [vI x2, vR 47 0]) rfl (fun c2 => ?_) (fun c2 => ?_)
    · refine WS.run (C := [vp_in x2 5, vp_in x2 5]) (pc' := 52) (L' := [vR 47 0, vI x1, vI x2, vI x3]) (S' := []) (σ' := pI σ1 47 0 x2.toNatClampNeg ((gI σ1 47 0 x2.toNatClampNeg) &&& (((1 : Int32) <<< (x1 &&& 31)) ^^^ (-1 : Int32)))) 10 rfl ⟨(((h.1 c1).2.2 σ1 eσ1).1 c2).1, (((h.1 c1).2.2 σ1 eσ1).1 c2).2.1, trivial⟩ ?_
      obtain ⟨σ2, eσ2⟩ : ∃ z, z = pI σ1 47 0 x2.toNatClampNeg ((gI σ1 47 0 x2.toNatClampNeg) &&& (((1 : Int32) <<< (x1 &&& 31)) ^^^ (-1 : Int32))) := ⟨_, rfl⟩
      rw [← eσ2]
      exact WS.vret rfl rfl ((((h.1 c1).2.2 σ1 eσ1).1 c2).2.2 σ2 eσ2)
    · refine WS.run (C := [vp_in x2 5, vp_in x2 5]) (pc' := 52) (L' := [vR 47 0, vI x1, vI x2, vI x3]) (S' := []) (σ' := pI σ1 47 0 x2.toNatClampNeg ((gI σ1 47 0 x2.toNatClampNeg) ||| ((1 : Int32) <<< (x1 &&& 31)))) 9 rfl ⟨(((h.1 c1).2.2 σ1 eσ1).2 c2).1, (((h.1 c1).2.2 σ1 eσ1).2 c2).2.1, trivial⟩ ?_
      obtain ⟨σ3, eσ3⟩ : ∃ z, z = pI σ1 47 0 x2.toNatClampNeg ((gI σ1 47 0 x2.toNatClampNeg) ||| ((1 : Int32) <<< (x1 &&& 31))) := ⟨_, rfl⟩
      rw [← eσ3]
      exact WS.vret rfl rfl ((((h.1 c1).2.2 σ1 eσ1).2 c2).2.2 σ3 eσ3)
  · refine WS.run (C := [vp_in x1 5, vp_in x1 5]) (pc' := 26) (L' := [vR 47 0, vI x1, vI x2, vI x3]) (S' := []) (σ' := pI σ 47 0 x1.toNatClampNeg ((gI σ 47 0 x1.toNatClampNeg) ||| ((1 : Int32) <<< (x2 &&& 31)))) 9 rfl ⟨(h.2 c1).1, (h.2 c1).2.1, trivial⟩ ?_
    obtain ⟨σ4, eσ4⟩ : ∃ z, z = pI σ 47 0 x1.toNatClampNeg ((gI σ 47 0 x1.toNatClampNeg) ||| ((1 : Int32) <<< (x2 &&& 31))) := ⟨_, rfl⟩
    rw [← eσ4]
    refine WS.run (C := []) (pc' := 29) (L' := [vR 47 0, vI x1, vI x2, vI x3]) (S' := [vI x3, vI x2, vR 47 0]) (σ' := σ4) 3 rfl trivial ?_
    refine WS.br (P := x3 = 0) (a := 42) (b := 32) (S' := [vI x2, vR 47 0]) rfl (fun c3 => ?_) (fun c3 => ?_)
    · refine WS.run (C := [vp_in x2 5, vp_in x2 5]) (pc' := 52) (L' := [vR 47 0, vI x1, vI x2, vI x3]) (S' := []) (σ' := pI σ4 47 0 x2.toNatClampNeg ((gI σ4 47 0 x2.toNatClampNeg) &&& (((1 : Int32) <<< (x1 &&& 31)) ^^^ (-1 : Int32)))) 10 rfl ⟨(((h.2 c1).2.2 σ4 eσ4).1 c3).1, (((h.2 c1).2.2 σ4 eσ4).1 c3).2.1, trivial⟩ ?_
      obtain ⟨σ5, eσ5⟩ : ∃ z, z = pI σ4 47 0 x2.toNatClampNeg ((gI σ4 47 0 x2.toNatClampNeg) &&& (((1 : Int32) <<< (x1 &&& 31)) ^^^ (-1 : Int32))) := ⟨_, rfl⟩
      rw [← eσ5]
      exact WS.vret rfl rfl ((((h.2 c1).2.2 σ4 eσ4).1 c3).2.2 σ5 eσ5)
    · refine WS.run (C := [vp_in x2 5, vp_in x2 5]) (pc' := 52) (L' := [vR 47 0, vI x1, vI x2, vI x3]) (S' := []) (σ' := pI σ4 47 0 x2.toNatClampNeg ((gI σ4 47 0 x2.toNatClampNeg) ||| ((1 : Int32) <<< (x1 &&& 31)))) 9 rfl ⟨(((h.2 c1).2.2 σ4 eσ4).2 c3).1, (((h.2 c1).2.2 σ4 eσ4).2 c3).2.1, trivial⟩ ?_
      obtain ⟨σ6, eσ6⟩ : ∃ z, z = pI σ4 47 0 x2.toNatClampNeg ((gI σ4 47 0 x2.toNatClampNeg) ||| ((1 : Int32) <<< (x1 &&& 31))) := ⟨_, rfl⟩
      rw [← eσ6]
      exact WS.vret rfl rfl ((((h.2 c1).2.2 σ4 eσ4).2 c3).2.2 σ6 eσ6)
set_option maxRecDepth 4000 in
set_option maxHeartbeats 400000 in
theorem b_TM_join17_0 {d : Nat} {σ : Mem} {Post : Option AV → Mem → Prop} {x1 x2 x3 : Int32} (h : ((x3 = 0 → vp_in x1 12 ∧ vp_in x1 12 ∧ (∀ σ1 : Mem, σ1 = pI σ 17 0 x1.toNatClampNeg ((gI σ 17 0 x1.toNatClampNeg) &&& (((1 : Int32) <<< (x2 &&& 31)) ^^^ (-1 : Int32))) → ((x3 = 0 → vp_in x2 12 ∧ vp_in x2 12 ∧ (∀ σ2 : Mem, σ2 = pI σ1 17 0 x2.toNatClampNeg ((gI σ1 17 0 x2.toNatClampNeg) &&& (((1 : Int32) <<< (x1 &&& 31)) ^^^ (-1 : Int32))) → Post none σ2)) ∧ (¬ (x3 = 0) → vp_in x2 12 ∧ vp_in x2 12 ∧ (∀ σ3 : Mem, σ3 = pI σ1 17 0 x2.toNatClampNeg ((gI σ1 17 0 x2.toNatClampNeg) ||| ((1 : Int32) <<< (x1 &&& 31))) → Post none σ3))))) ∧ (¬ (x3 = 0) → vp_in x1 12 ∧ vp_in x1 12 ∧ (∀ σ4 : Mem, σ4 = pI σ 17 0 x1.toNatClampNeg ((gI σ 17 0 x1.toNatClampNeg) ||| ((1 : Int32) <<< (x2 &&& 31))) → ((x3 = 0 → vp_in x2 12 ∧ vp_in x2 12 ∧ (∀ σ5 : Mem, σ5 = pI σ4 17 0 x2.toNatClampNeg ((gI σ4 17 0 x2.toNatClampNeg) &&& (((1 : Int32) <<< (x1 &&& 31)) ^^^ (-1 : Int32))) → Post none σ5)) ∧ (¬ (x3 = 0) → vp_in x2 12 ∧ vp_in x2 12 ∧ (∀ σ6 : Mem, σ6 = pI σ4 17 0 x2.toNatClampNeg ((gI σ4 17 0 x2.toNatClampNeg) ||| ((1 : Int32) <<< (x1 &&& 31))) → Post none σ6))))))) : WS d M_TM_join 0 [vR 17 0, vI x1, vI x2, vI x3] [] σ Post := by
  refine WS.run (C := []) (pc' := 3) (L' := [vR 17 0, vI x1, vI x2, vI x3]) (S' := [vI x3, vI x1, vR 17 0]) (σ' := σ) 3 rfl trivial ?_
  refine WS.br (P := x3 = 0) (a := 16) (b := 6) (S' := [vI x1, vR 17 0]) rfl (fun c1 => ?_) (fun c1 => ?_)
  · refine WS.run (C := [vp_in x1 12, vp_in x1 12]) (pc' := 26) (L' := [vR 17 0, vI x1, vI x2, vI x3]) (S' := []) (σ' := pI σ 17 0 x1.toNatClampNeg ((gI σ 17 0 x1.toNatClampNeg) &&& (((1 : Int32) <<< (x2 &&& 31)) ^^^ (-1 : Int32)))) 10 rfl ⟨(h.1 c1).1, (h.1 c1).2.1, trivial⟩ ?_
    obtain ⟨σ1, eσ1⟩ : ∃ z, z = pI σ 17 0 x1.toNatClampNeg ((gI σ 17 0 x1.toNatClampNeg) &&& (((1 : Int32) <<< (x2 &&& 31)) ^^^ (-1 : Int32))) := ⟨_, rfl⟩
    rw [← eσ1]
    refine WS.run (C := []) (pc' := 29) (L' := [vR 17 0, vI x1, vI x2, vI x3]) (S' := [vI x3, vI x2, vR 17 0]) (σ' := σ1) 3 rfl trivial ?_
    refine WS.br (P := x3 = 0) (a := 42) (b := 32) (S' := [vI x2, vR 17 0]) rfl (fun c2 => ?_) (fun c2 => ?_)
    · refine WS.run (C := [vp_in x2 12, vp_in x2 12]) (pc' := 52) (L' := [vR 17 0, vI x1, vI x2, vI x3]) (S' := []) (σ' := pI σ1 17 0 x2.toNatClampNeg ((gI σ1 17 0 x2.toNatClampNeg) &&& (((1 : Int32) <<< (x1 &&& 31)) ^^^ (-1 : Int32)))) 10 rfl ⟨(((h.1 c1).2.2 σ1 eσ1).1 c2).1, (((h.1 c1).2.2 σ1 eσ1).1 c2).2.1, trivial⟩ ?_
      obtain ⟨σ2, eσ2⟩ : ∃ z, z = pI σ1 17 0 x2.toNatClampNeg ((gI σ1 17 0 x2.toNatClampNeg) &&& (((1 : Int32) <<< (x1 &&& 31)) ^^^ (-1 : Int32))) := ⟨_, rfl⟩
      rw [← eσ2]
      exact WS.vret rfl rfl ((((h.1 c1).2.2 σ1 eσ1).1 c2).2.2 σ2 eσ2)
    · refine WS.run (C := [vp_in x2 12, vp_in x2 12]) (pc' := 52) (L' := [vR 17 0, vI x1, vI x2, vI x3]) (S' := []) (σ' := pI σ1 17 0 x2.toNatClampNeg ((gI σ1 17 0 x2.toNatClampNeg) ||| ((1 : Int32) <<< (x1 &&& 31)))) 9 rfl ⟨(((h.1 c1).2.2 σ1 eσ1).2 c2).1, (((h.1 c1).2.2 σ1 eσ1).2 c2).2.1, trivial⟩ ?_
      obtain ⟨σ3, eσ3⟩ : ∃ z, z = pI σ1 17 0 x2.toNatClampNeg ((gI σ1 17 0 x2.toNatClampNeg) ||| ((1 : Int32) <<< (x1 &&& 31))) := ⟨_, rfl⟩
      rw [← eσ3]
      exact WS.vret rfl rfl ((((h.1 c1).2.2 σ1 eσ1).2 c2).2.2 σ3 eσ3)
  · refine WS.run (C := [vp_in x1 12, vp_in x1 12]) (pc' := 26) (L' := [vR 17 0, vI x1, vI x2, vI x3]) (S' := []) (σ' := pI σ 17 0 x1.toNatClampNeg ((gI σ 17 0 x1.toNatClampNeg) ||| ((1 : Int32) <<< (x2 &&& 31)))) 9 rfl ⟨(h.2 c1).1, (h.2 c1).2.1, trivial⟩ ?_
    obtain ⟨σ4, eσ4⟩ : ∃ z, z = pI σ 17 0 x1.toNatClampNeg ((gI σ 17 0 x1.toNatClampNeg) ||| ((1 : Int32) <<< (x2 &&& 31))) := ⟨_, rfl⟩
    rw [← eσ4]
    refine WS.run (C := []) (pc' := 29) (L' := [vR 17 0, vI x1, vI x2, vI x3]) (S' := [vI x3, vI x2, vR 17 0]) (σ' := σ4) 3 rfl trivial ?_
    refine WS.br (P := x3 = 0) (a := 42) (b := 32) (S' := [vI x2, vR 17 0]) rfl (fun c3 => ?_) (fun c3 => ?_)
    · refine WS.run (C := [vp_in x2 12, vp_in x2 12]) (pc' := 52) (L' := [vR 17 0, vI x1, vI x2, vI x3]) (S' := []) (σ' := pI σ4 17 0 x2.toNatClampNeg ((gI σ4 17 0 x2.toNatClampNeg) &&& (((1 : Int32) <<< (x1 &&& 31)) ^^^ (-1 : Int32)))) 10 rfl ⟨(((h.2 c1).2.2 σ4 eσ4).1 c3).1, (((h.2 c1).2.2 σ4 eσ4).1 c3).2.1, trivial⟩ ?_
      obtain ⟨σ5, eσ5⟩ : ∃ z, z = pI σ4 17 0 x2.toNatClampNeg ((gI σ4 17 0 x2.toNatClampNeg) &&& (((1 : Int32) <<< (x1 &&& 31)) ^^^ (-1 : Int32))) := ⟨_, rfl⟩
      rw [← eσ5]
      exact WS.vret rfl rfl ((((h.2 c1).2.2 σ4 eσ4).1 c3).2.2 σ5 eσ5)
    · refine WS.run (C := [vp_in x2 12, vp_in x2 12]) (pc' := 52) (L' := [vR 17 0, vI x1, vI x2, vI x3]) (S' := []) (σ' := pI σ4 17 0 x2.toNatClampNeg ((gI σ4 17 0 x2.toNatClampNeg) ||| ((1 : Int32) <<< (x1 &&& 31)))) 9 rfl ⟨(((h.2 c1).2.2 σ4 eσ4).2 c3).1, (((h.2 c1).2.2 σ4 eσ4).2 c3).2.1, trivial⟩ ?_
      obtain ⟨σ6, eσ6⟩ : ∃ z, z = pI σ4 17 0 x2.toNatClampNeg ((gI σ4 17 0 x2.toNatClampNeg) ||| ((1 : Int32) <<< (x1 &&& 31))) := ⟨_, rfl⟩
      rw [← eσ6]
      exact WS.vret rfl rfl ((((h.2 c1).2.2 σ4 eσ4).2 c3).2.2 σ6 eσ6)
set_option maxRecDepth 4000 in
set_option maxHeartbeats 400000 in
theorem b_TM_join35_0 {d : Nat} {σ : Mem} {Post : Option AV → Mem → Prop} {x1 x2 x3 : Int32} (h : ((x3 = 0 → vp_in x1 32 ∧ vp_in x1 32 ∧ (∀ σ1 : Mem, σ1 = pI σ 35 0 x1.toNatClampNeg ((gI σ 35 0 x1.toNatClampNeg) &&& (((1 : Int32) <<< (x2 &&& 31)) ^^^ (-1 : Int32))) → ((x3 = 0 → vp_in x2 32 ∧ vp_in x2 32 ∧ (∀ σ2 : Mem, σ2 = pI σ1 35 0 x2.toNatClampNeg ((gI σ1 35 0 x2.toNatClampNeg) &&& (((1 : Int32) <<< (x1 &&& 31)) ^^^ (-1 : Int32))) → Post none σ2)) ∧ (¬ (x3 = 0) → vp_in x2 32 ∧ vp_in x2 32 ∧ (∀ σ3 : Mem, σ3 = pI σ1 35 0 x2.toNatClampNeg ((gI σ1 35 0 x2.toNatClampNeg) ||| ((1 : Int32) <<< (x1 &&& 31))) → Post none σ3))))) ∧ (¬ (x3 = 0) → vp_in x1 32 ∧ vp_in x1 32 ∧ (∀ σ4 : Mem, σ4 = pI σ 35 0 x1.toNatClampNeg ((gI σ 35 0 x1.toNatClampNeg) ||| ((1 : Int32) <<< (x2 &&& 31))) → ((x3 = 0 → vp_in x2 32 ∧ vp_in x2 32 ∧ (∀ σ5 : Mem, σ5 = pI σ4 35 0 x2.toNatClampNeg ((gI σ4 35 0 x2.toNatClampNeg) &&& (((1 : Int32) <<< (x1 &&& 31)) ^^^ (-1 : Int32))) → Post none σ5)) ∧ (¬ (x3 = 0) → vp_in x2 32 ∧ vp_in x2 32 ∧ (∀ σ6 : Mem, σ6 = pI σ4 35 0 x2.toNatClampNeg ((gI σ4 35 0 x2.toNatClampNeg) ||| ((1 : Int32) <<< (x1 &&& 31))) → Post none σ6))))))) : WS d M_TM_join 0 [vR 35 0, vI x1, vI x2, vI x3] [] σ Post := by
  refine WS.run (C := []) (pc' := 3) (L' := [vR 35 0, vI x1, vI x2, vI x3]) (S' := [vI x3, vI x1, vR 35 0]) (σ' := σ) 3 rfl trivial ?_
  refine WS.br (P := x3 = 0) (a := 16) (b := 6) (S' := [vI x1, vR 35 0]) rfl (fun c1 => ?_) (fun c1 => ?_)
  · refine WS.run (C := [vp_in x1 32, vp_in x1 32]) (pc' := 26) (L' := [vR 35 0, vI x1, vI x2, vI x3]) (S' := []) (σ' := pI σ 35 0 x1.toNatClampNeg ((gI σ 35 0 x1.toNatClampNeg) &&& (((1 : Int32) <<< (x2 &&& 31)) ^^^ (-1 : Int32)))) 10 rfl ⟨(h.1 c1).1, (h.1 c1).2.1, trivial⟩ ?_
    obtain ⟨σ1, eσ1⟩ : ∃ z, z = pI σ 35 0 x1.toNatClampNeg ((gI σ 35 0 x1.toNatClampNeg) &&& (((1 : Int32) <<< (x2 &&& 31)) ^^^ (-1 : Int32))) := ⟨_, rfl⟩
    rw [← eσ1]
    refine WS.run (C := []) (pc' := 29) (L' := [vR 35 0, vI x1, vI x2, vI x3]) (S' := [vI x3, vI x2, vR 35 0]) (σ' := σ1) 3 rfl trivial ?_
    refine WS.br (P := x3 = 0) (a := 42) (b := 32) (S' := [vI x2, vR 35 0]) rfl (fun c2 => ?_) (fun c2 => ?_)
    · refine WS.run (C := [vp_in x2 32, vp_in x2 32]) (pc' := 52) (L' := [vR 35 0, vI x1, vI x2, vI x3]) (S' := []) (σ' := pI σ1 35 0 x2.toNatClampNeg ((gI σ1 35 0 x2.toNatClampNeg) &&& (((1 : Int32) <<< (x1 &&& 31)) ^^^ (-1 : Int32)))) 10 rfl ⟨(((h.1 c1).2.2 σ1 eσ1).1 c2).1, (((h.1 c1).2.2 σ1 eσ1).1 c2).2.1, trivial⟩ ?_
      obtain ⟨σ2, eσ2⟩ : ∃ z, z = pI σ1 35 0 x2.toNatClampNeg ((gI σ1 35 0 x2.toNatClampNeg) &&& (((1 : Int32) <<< (x1 &&& 31)) ^^^ (-1 : Int32))) := ⟨_, rfl⟩
      rw [← eσ2]
      exact WS.vret rfl rfl ((((h.1 c1).2.2 σ1 eσ1).1 c2).2.2 σ2 eσ2)
    · refine WS.run (C := [vp_in x2 32, vp_in x2 32]) (pc' := 52) (L' := [vR 35 0, vI x1, vI x2, vI x3]) (S' := []) (σ' := pI σ1 35 0 x2.toNatClampNeg ((gI σ1 35 0 x2.toNatClampNeg) ||| ((1 : Int32) <<< (x1 &&& 31)))) 9 rfl ⟨(((h.1 c1).2.2 σ1 eσ1).2 c2).1, (((h.1 c1).2.2 σ1 eσ1).2 c2).2.1, trivial⟩ ?_
      obtain ⟨σ3, eσ3⟩ : ∃ z, z = pI σ1 35 0 x2.toNatClampNeg ((gI σ1 35 0 x2.toNatClampNeg) ||| ((1 : Int32) <<< (x1 &&& 31))) := ⟨_, rfl⟩
      rw [← eσ3]
      exact WS.vret rfl rfl ((((h.1 c1).2.2 σ1 eσ1).2 c2).2.2 σ3 eσ3)
  · refine WS.run (C := [vp_in x1 32, vp_in x1 32]) (pc' := 26) (L' := [vR 35 0, vI x1, vI x2, vI x3]) (S' := []) (σ' := pI σ 35 0 x1.toNatClampNeg ((gI σ 35 0 x1.toNatClampNeg) ||| ((1 : Int32) <<< (x2 &&& 31)))) 9 rfl ⟨(h.2 c1).1, (h.2 c1).2.1, trivial⟩ ?_
    obtain ⟨σ4, eσ4⟩ : ∃ z, z = pI σ 35 0 x1.toNatClampNeg ((gI σ 35 0 x1.toNatClampNeg) ||| ((1 : Int32) <<< (x2 &&& 31))) := ⟨_, rfl⟩
    rw [← eσ4]
    refine WS.run (C := []) (pc' := 29) (L' := [vR 35 0, vI x1, vI x2, vI x3]) (S' := [vI x3, vI x2, vR 35 0]) (σ' := σ4) 3 rfl trivial ?_
    refine WS.br (P := x3 = 0) (a := 42) (b := 32) (S' := [vI x2, vR 35 0]) rfl (fun c3 => ?_) (fun c3 => ?_)
    · refine WS.run (C := [vp_in x2 32, vp_in x2 32]) (pc' := 52) (L' := [vR 35 0, vI x1, vI x2, vI x3]) (S' := []) (σ' := pI σ4 35 0 x2.toNatClampNeg ((gI σ4 35 0 x2.toNatClampNeg) &&& (((1 : Int32) <<< (x1 &&& 31)) ^^^ (-1 : Int32)))) 10 rfl ⟨(((h.2 c1).2.2 σ4 eσ4).1 c3).1, (((h.2 c1).2.2 σ4 eσ4).1 c3).2.1, trivial⟩ ?_
      obtain ⟨σ5, eσ5⟩ : ∃ z, z = pI σ4 35 0 x2.toNatClampNeg ((gI σ4 35 0 x2.toNatClampNeg) &&& (((1 : Int32) <<< (x1 &&& 31)) ^^^ (-1 : Int32))) := ⟨_, rfl⟩
      rw [← eσ5]
      exact WS.vret rfl rfl ((((h.2 c1).2.2 σ4 eσ4).1 c3).2.2 σ5 eσ5)
    · refine WS.run (C := [vp_in x2 32, vp_in x2 32]) (pc' := 52) (L' := [vR 35 0, vI x1, vI x2, vI x3]) (S' := []) (σ' := pI σ4 35 0 x2.toNatClampNeg ((gI σ4 35 0 x2.toNatClampNeg) ||| ((1 : Int32) <<< (x1 &&& 31)))) 9 rfl ⟨(((h.2 c1).2.2 σ4 eσ4).2 c3).1, (((h.2 c1).2.2 σ4 eσ4).2 c3).2.1, trivial⟩ ?_
      obtain ⟨σ6, eσ6⟩ : ∃ z, z = pI σ4 35 0 x2.toNatClampNeg ((gI σ4 35 0 x2.toNatClampNeg) ||| ((1 : Int32) <<< (x1 &&& 31))) := ⟨_, rfl⟩
      rw [← eσ6]
      exact WS.vret rfl rfl ((((h.2 c1).2.2 σ4 eσ4).2 c3).2.2 σ6 eσ6)
set_option maxRecDepth 4000 in
set_option maxHeartbeats 400000 in
theorem b_Way_bend_0 {d : Nat} {σ : Mem} {Post : Option AV → Mem → Prop} {x1 : Int32} {i0 : Nat} (h : vp_in (x1 - (1 : Int32)) 20 ∧ vp_in x1 20 ∧ vp_in (x1 + (1 : Int32)) 20 ∧ vp_in (gI σ 5 i0 x1.toNatClampNeg) 20 ∧ vp_in (gI σ 5 i0 (x1 - (1 : Int32)).toNatClampNeg) 20 ∧ vp_in (gI σ 5 i0 (x1 + (1 : Int32)).toNatClampNeg) 20 ∧ vp_in (gI σ 5 i0 x1.toNatClampNeg) 20 ∧ vp_in (gI σ 5 i0 x1.toNatClampNeg) 20 ∧ vp_in (gI σ 5 i0 (x1 - (1 : Int32)).toNatClampNeg) 20 ∧ vp_in (gI σ 5 i0 (x1 + (1 : Int32)).toNatClampNeg) 20 ∧ vp_in (gI σ 5 i0 x1.toNatClampNeg) 20 ∧ ((((((gI σ 3 i0 (gI σ 5 i0 x1.toNatClampNeg).toNatClampNeg) - (gI σ 3 i0 (gI σ 5 i0 (x1 - (1 : Int32)).toNatClampNeg).toNatClampNeg)) * ((gI σ 4 i0 (gI σ 5 i0 (x1 + (1 : Int32)).toNatClampNeg).toNatClampNeg) - (gI σ 4 i0 (gI σ 5 i0 x1.toNatClampNeg).toNatClampNeg))) - (((gI σ 4 i0 (gI σ 5 i0 x1.toNatClampNeg).toNatClampNeg) - (gI σ 4 i0 (gI σ 5 i0 (x1 - (1 : Int32)).toNatClampNeg).toNatClampNeg)) * ((gI σ 3 i0 (gI σ 5 i0 (x1 + (1 : Int32)).toNatClampNeg).toNatClampNeg) - (gI σ 3 i0 (gI σ 5 i0 x1.toNatClampNeg).toNatClampNeg)))) ≤ 0 → ((0 ≤ ((((gI σ 3 i0 (gI σ 5 i0 x1.toNatClampNeg).toNatClampNeg) - (gI σ 3 i0 (gI σ 5 i0 (x1 - (1 : Int32)).toNatClampNeg).toNatClampNeg)) * ((gI σ 4 i0 (gI σ 5 i0 (x1 + (1 : Int32)).toNatClampNeg).toNatClampNeg) - (gI σ 4 i0 (gI σ 5 i0 x1.toNatClampNeg).toNatClampNeg))) - (((gI σ 4 i0 (gI σ 5 i0 x1.toNatClampNeg).toNatClampNeg) - (gI σ 4 i0 (gI σ 5 i0 (x1 - (1 : Int32)).toNatClampNeg).toNatClampNeg)) * ((gI σ 3 i0 (gI σ 5 i0 (x1 + (1 : Int32)).toNatClampNeg).toNatClampNeg) - (gI σ 3 i0 (gI σ 5 i0 x1.toNatClampNeg).toNatClampNeg)))) → Post (some (vI (0 : Int32))) σ) ∧ (¬ (0 ≤ ((((gI σ 3 i0 (gI σ 5 i0 x1.toNatClampNeg).toNatClampNeg) - (gI σ 3 i0 (gI σ 5 i0 (x1 - (1 : Int32)).toNatClampNeg).toNatClampNeg)) * ((gI σ 4 i0 (gI σ 5 i0 (x1 + (1 : Int32)).toNatClampNeg).toNatClampNeg) - (gI σ 4 i0 (gI σ 5 i0 x1.toNatClampNeg).toNatClampNeg))) - (((gI σ 4 i0 (gI σ 5 i0 x1.toNatClampNeg).toNatClampNeg) - (gI σ 4 i0 (gI σ 5 i0 (x1 - (1 : Int32)).toNatClampNeg).toNatClampNeg)) * ((gI σ 3 i0 (gI σ 5 i0 (x1 + (1 : Int32)).toNatClampNeg).toNatClampNeg) - (gI σ 3 i0 (gI σ 5 i0 x1.toNatClampNeg).toNatClampNeg))))) → Post (some (vI (-1 : Int32))) σ))) ∧ (¬ (((((gI σ 3 i0 (gI σ 5 i0 x1.toNatClampNeg).toNatClampNeg) - (gI σ 3 i0 (gI σ 5 i0 (x1 - (1 : Int32)).toNatClampNeg).toNatClampNeg)) * ((gI σ 4 i0 (gI σ 5 i0 (x1 + (1 : Int32)).toNatClampNeg).toNatClampNeg) - (gI σ 4 i0 (gI σ 5 i0 x1.toNatClampNeg).toNatClampNeg))) - (((gI σ 4 i0 (gI σ 5 i0 x1.toNatClampNeg).toNatClampNeg) - (gI σ 4 i0 (gI σ 5 i0 (x1 - (1 : Int32)).toNatClampNeg).toNatClampNeg)) * ((gI σ 3 i0 (gI σ 5 i0 (x1 + (1 : Int32)).toNatClampNeg).toNatClampNeg) - (gI σ 3 i0 (gI σ 5 i0 x1.toNatClampNeg).toNatClampNeg)))) ≤ 0) → Post (some (vI (1 : Int32))) σ))) : WS d M_Way_bend 0 [vR 2 i0, vI x1, vU, vU, vU, vU] [] σ Post := by
  refine WS.run (C := [vp_in (x1 - (1 : Int32)) 20, vp_in x1 20, vp_in (x1 + (1 : Int32)) 20, vp_in (gI σ 5 i0 x1.toNatClampNeg) 20, vp_in (gI σ 5 i0 (x1 - (1 : Int32)).toNatClampNeg) 20, vp_in (gI σ 5 i0 (x1 + (1 : Int32)).toNatClampNeg) 20, vp_in (gI σ 5 i0 x1.toNatClampNeg) 20, vp_in (gI σ 5 i0 x1.toNatClampNeg) 20, vp_in (gI σ 5 i0 (x1 - (1 : Int32)).toNatClampNeg) 20, vp_in (gI σ 5 i0 (x1 + (1 : Int32)).toNatClampNeg) 20, vp_in (gI σ 5 i0 x1.toNatClampNeg) 20]) (pc' := 87) (L' := [vR 2 i0, vI x1, vI (gI σ 5 i0 (x1 - (1 : Int32)).toNatClampNeg), vI (gI σ 5 i0 x1.toNatClampNeg), vI (gI σ 5 i0 (x1 + (1 : Int32)).toNatClampNeg), vI ((((gI σ 3 i0 (gI σ 5 i0 x1.toNatClampNeg).toNatClampNeg) - (gI σ 3 i0 (gI σ 5 i0 (x1 - (1 : Int32)).toNatClampNeg).toNatClampNeg)) * ((gI σ 4 i0 (gI σ 5 i0 (x1 + (1 : Int32)).toNatClampNeg).toNatClampNeg) - (gI σ 4 i0 (gI σ 5 i0 x1.toNatClampNeg).toNatClampNeg))) - (((gI σ 4 i0 (gI σ 5 i0 x1.toNatClampNeg).toNatClampNeg) - (gI σ 4 i0 (gI σ 5 i0 (x1 - (1 : Int32)).toNatClampNeg).toNatClampNeg)) * ((gI σ 3 i0 (gI σ 5 i0 (x1 + (1 : Int32)).toNatClampNeg).toNatClampNeg) - (gI σ 3 i0 (gI σ 5 i0 x1.toNatClampNeg).toNatClampNeg))))]) (S' := [vI ((((gI σ 3 i0 (gI σ 5 i0 x1.toNatClampNeg).toNatClampNeg) - (gI σ 3 i0 (gI σ 5 i0 (x1 - (1 : Int32)).toNatClampNeg).toNatClampNeg)) * ((gI σ 4 i0 (gI σ 5 i0 (x1 + (1 : Int32)).toNatClampNeg).toNatClampNeg) - (gI σ 4 i0 (gI σ 5 i0 x1.toNatClampNeg).toNatClampNeg))) - (((gI σ 4 i0 (gI σ 5 i0 x1.toNatClampNeg).toNatClampNeg) - (gI σ 4 i0 (gI σ 5 i0 (x1 - (1 : Int32)).toNatClampNeg).toNatClampNeg)) * ((gI σ 3 i0 (gI σ 5 i0 (x1 + (1 : Int32)).toNatClampNeg).toNatClampNeg) - (gI σ 3 i0 (gI σ 5 i0 x1.toNatClampNeg).toNatClampNeg))))]) (σ' := σ) 60 rfl ⟨h.1, h.2.1, h.2.2.1, h.2.2.2.1, h.2.2.2.2.1, h.2.2.2.2.2.1, h.2.2.2.2.2.2.1, h.2.2.2.2.2.2.2.1, h.2.2.2.2.2.2.2.2.1, h.2.2.2.2.2.2.2.2.2.1, h.2.2.2.2.2.2.2.2.2.2.1, trivial⟩ ?_
  refine WS.br (P := ((((gI σ 3 i0 (gI σ 5 i0 x1.toNatClampNeg).toNatClampNeg) - (gI σ 3 i0 (gI σ 5 i0 (x1 - (1 : Int32)).toNatClampNeg).toNatClampNeg)) * ((gI σ 4 i0 (gI σ 5 i0 (x1 + (1 : Int32)).toNatClampNeg).toNatClampNeg) - (gI σ 4 i0 (gI σ 5 i0 x1.toNatClampNeg).toNatClampNeg))) - (((gI σ 4 i0 (gI σ 5 i0 x1.toNatClampNeg).toNatClampNeg) - (gI σ 4 i0 (gI σ 5 i0 (x1 - (1 : Int32)).toNatClampNeg).toNatClampNeg)) * ((gI σ 3 i0 (gI σ 5 i0 (x1 + (1 : Int32)).toNatClampNeg).toNatClampNeg) - (gI σ 3 i0 (gI σ 5 i0 x1.toNatClampNeg).toNatClampNeg)))) ≤ 0) (a := 94) (b := 90) (S' := []) rfl (fun c1 => ?_) (fun c1 => ?_)
  · refine WS.run (C := []) (pc' := 96) (L' := [vR 2 i0, vI x1, vI (gI σ 5 i0 (x1 - (1 : Int32)).toNatClampNeg), vI (gI σ 5 i0 x1.toNatClampNeg), vI (gI σ 5 i0 (x1 + (1 : Int32)).toNatClampNeg), vI ((((gI σ 3 i0 (gI σ 5 i0 x1.toNatClampNeg).toNatClampNeg) - (gI σ 3 i0 (gI σ 5 i0 (x1 - (1 : Int32)).toNatClampNeg).toNatClampNeg)) * ((gI σ 4 i0 (gI σ 5 i0 (x1 + (1 : Int32)).toNatClampNeg).toNatClampNeg) - (gI σ 4 i0 (gI σ 5 i0 x1.toNatClampNeg).toNatClampNeg))) - (((gI σ 4 i0 (gI σ 5 i0 x1.toNatClampNeg).toNatClampNeg) - (gI σ 4 i0 (gI σ 5 i0 (x1 - (1 : Int32)).toNatClampNeg).toNatClampNeg)) * ((gI σ 3 i0 (gI σ 5 i0 (x1 + (1 : Int32)).toNatClampNeg).toNatClampNeg) - (gI σ 3 i0 (gI σ 5 i0 x1.toNatClampNeg).toNatClampNeg))))]) (S' := [vI ((((gI σ 3 i0 (gI σ 5 i0 x1.toNatClampNeg).toNatClampNeg) - (gI σ 3 i0 (gI σ 5 i0 (x1 - (1 : Int32)).toNatClampNeg).toNatClampNeg)) * ((gI σ 4 i0 (gI σ 5 i0 (x1 + (1 : Int32)).toNatClampNeg).toNatClampNeg) - (gI σ 4 i0 (gI σ 5 i0 x1.toNatClampNeg).toNatClampNeg))) - (((gI σ 4 i0 (gI σ 5 i0 x1.toNatClampNeg).toNatClampNeg) - (gI σ 4 i0 (gI σ 5 i0 (x1 - (1 : Int32)).toNatClampNeg).toNatClampNeg)) * ((gI σ 3 i0 (gI σ 5 i0 (x1 + (1 : Int32)).toNatClampNeg).toNatClampNeg) - (gI σ 3 i0 (gI σ 5 i0 x1.toNatClampNeg).toNatClampNeg))))]) (σ' := σ) 1 rfl trivial ?_
    refine WS.br (P := 0 ≤ ((((gI σ 3 i0 (gI σ 5 i0 x1.toNatClampNeg).toNatClampNeg) - (gI σ 3 i0 (gI σ 5 i0 (x1 - (1 : Int32)).toNatClampNeg).toNatClampNeg)) * ((gI σ 4 i0 (gI σ 5 i0 (x1 + (1 : Int32)).toNatClampNeg).toNatClampNeg) - (gI σ 4 i0 (gI σ 5 i0 x1.toNatClampNeg).toNatClampNeg))) - (((gI σ 4 i0 (gI σ 5 i0 x1.toNatClampNeg).toNatClampNeg) - (gI σ 4 i0 (gI σ 5 i0 (x1 - (1 : Int32)).toNatClampNeg).toNatClampNeg)) * ((gI σ 3 i0 (gI σ 5 i0 (x1 + (1 : Int32)).toNatClampNeg).toNatClampNeg) - (gI σ 3 i0 (gI σ 5 i0 x1.toNatClampNeg).toNatClampNeg))))) (a := 103) (b := 99) (S' := []) rfl (fun c2 => ?_) (fun c2 => ?_)
    · refine WS.run (C := []) (pc' := 104) (L' := [vR 2 i0, vI x1, vI (gI σ 5 i0 (x1 - (1 : Int32)).toNatClampNeg), vI (gI σ 5 i0 x1.toNatClampNeg), vI (gI σ 5 i0 (x1 + (1 : Int32)).toNatClampNeg), vI ((((gI σ 3 i0 (gI σ 5 i0 x1.toNatClampNeg).toNatClampNeg) - (gI σ 3 i0 (gI σ 5 i0 (x1 - (1 : Int32)).toNatClampNeg).toNatClampNeg)) * ((gI σ 4 i0 (gI σ 5 i0 (x1 + (1 : Int32)).toNatClampNeg).toNatClampNeg) - (gI σ 4 i0 (gI σ 5 i0 x1.toNatClampNeg).toNatClampNeg))) - (((gI σ 4 i0 (gI σ 5 i0 x1.toNatClampNeg).toNatClampNeg) - (gI σ 4 i0 (gI σ 5 i0 (x1 - (1 : Int32)).toNatClampNeg).toNatClampNeg)) * ((gI σ 3 i0 (gI σ 5 i0 (x1 + (1 : Int32)).toNatClampNeg).toNatClampNeg) - (gI σ 3 i0 (gI σ 5 i0 x1.toNatClampNeg).toNatClampNeg))))]) (S' := [vI (0 : Int32)]) (σ' := σ) 1 rfl trivial ?_
      exact WS.ret rfl rfl (by decide) rfl ((h.2.2.2.2.2.2.2.2.2.2.2.1 c1).1 c2)
    · refine WS.run (C := []) (pc' := 104) (L' := [vR 2 i0, vI x1, vI (gI σ 5 i0 (x1 - (1 : Int32)).toNatClampNeg), vI (gI σ 5 i0 x1.toNatClampNeg), vI (gI σ 5 i0 (x1 + (1 : Int32)).toNatClampNeg), vI ((((gI σ 3 i0 (gI σ 5 i0 x1.toNatClampNeg).toNatClampNeg) - (gI σ 3 i0 (gI σ 5 i0 (x1 - (1 : Int32)).toNatClampNeg).toNatClampNeg)) * ((gI σ 4 i0 (gI σ 5 i0 (x1 + (1 : Int32)).toNatClampNeg).toNatClampNeg) - (gI σ 4 i0 (gI σ 5 i0 x1.toNatClampNeg).toNatClampNeg))) - (((gI σ 4 i0 (gI σ 5 i0 x1.toNatClampNeg).toNatClampNeg) - (gI σ 4 i0 (gI σ 5 i0 (x1 - (1 : Int32)).toNatClampNeg).toNatClampNeg)) * ((gI σ 3 i0 (gI σ 5 i0 (x1 + (1 : Int32)).toNatClampNeg).toNatClampNeg) - (gI σ 3 i0 (gI σ 5 i0 x1.toNatClampNeg).toNatClampNeg))))]) (S' := [vI (-1 : Int32)]) (σ' := σ) 2 rfl trivial ?_
      exact WS.ret rfl rfl (by decide) rfl ((h.2.2.2.2.2.2.2.2.2.2.2.1 c1).2 c2)
  · refine WS.run (C := []) (pc' := 104) (L' := [vR 2 i0, vI x1, vI (gI σ 5 i0 (x1 - (1 : Int32)).toNatClampNeg), vI (gI σ 5 i0 x1.toNatClampNeg), vI (gI σ 5 i0 (x1 + (1 : Int32)).toNatClampNeg), vI ((((gI σ 3 i0 (gI σ 5 i0 x1.toNatClampNeg).toNatClampNeg) - (gI σ 3 i0 (gI σ 5 i0 (x1 - (1 : Int32)).toNatClampNeg).toNatClampNeg)) * ((gI σ 4 i0 (gI σ 5 i0 (x1 + (1 : Int32)).toNatClampNeg).toNatClampNeg) - (gI σ 4 i0 (gI σ 5 i0 x1.toNatClampNeg).toNatClampNeg))) - (((gI σ 4 i0 (gI σ 5 i0 x1.toNatClampNeg).toNatClampNeg) - (gI σ 4 i0 (gI σ 5 i0 (x1 - (1 : Int32)).toNatClampNeg).toNatClampNeg)) * ((gI σ 3 i0 (gI σ 5 i0 (x1 + (1 : Int32)).toNatClampNeg).toNatClampNeg) - (gI σ 3 i0 (gI σ 5 i0 x1.toNatClampNeg).toNatClampNeg))))]) (S' := [vI (1 : Int32)]) (σ' := σ) 2 rfl trivial ?_
    exact WS.ret rfl rfl (by decide) rfl (h.2.2.2.2.2.2.2.2.2.2.2.2 c1)
set_option maxRecDepth 4000 in
set_option maxHeartbeats 400000 in
theorem b_Ruler_spares_0 {d : Nat} {σ : Mem} {Post : Option AV → Mem → Prop} {x2 x3 x4 : Int32} {i1 : Nat} (h : MM d M_Way_bringSpan [vR 2 i1, vI x2, vI x3, vR 11 0] σ (fun r τ => WS (d + 1) M_Ruler_spares 10 [vR 10 0, vR 2 i1, vI x2, vI x3, vI x4, vU] (r.toList ++ []) τ Post)) : WS (d + 1) M_Ruler_spares 0 [vR 10 0, vR 2 i1, vI x2, vI x3, vI x4, vU] [] σ Post := by
  refine WS.run (C := []) (pc' := 7) (L' := [vR 10 0, vR 2 i1, vI x2, vI x3, vI x4, vU]) (S' := [vR 11 0, vI x3, vI x2, vR 2 i1]) (σ' := σ) 5 rfl trivial ?_
  refine WS.callV M_Way_bringSpan (k := 2) (i := i1) (as := [vI x2, vI x3, vR 11 0]) (rest := []) rfl lk_5_48 rfl rfl rfl (Nat.le_of_ble_eq_true rfl) ?_
  exact h
set_option maxRecDepth 4000 in
set_option maxHeartbeats 400000 in
theorem b_Ruler_spares_10 {d : Nat} {σ : Mem} {Post : Option AV → Mem → Prop} {x2 x3 x4 : Int32} {i1 : Nat} (h : WS d M_Ruler_spares 15 [vR 10 0, vR 2 i1, vI x2, vI x3, vI x4, vI (x2 + (1 : Int32))] [] σ Post) : WS d M_Ruler_spares 10 [vR 10 0, vR 2 i1, vI x2, vI x3, vI x4, vU] [] σ Post := by
  refine WS.run (C := []) (pc' := 15) (L' := [vR 10 0, vR 2 i1, vI x2, vI x3, vI x4, vI (x2 + (1 : Int32))]) (S' := []) (σ' := σ) 4 rfl trivial ?_
  exact h
set_option maxRecDepth 4000 in
set_option maxHeartbeats 400000 in
theorem b_Ruler_spares_15 {d : Nat} {σ : Mem} {Post : Option AV → Mem → Prop} {x2 x3 x4 x5 : Int32} {i1 : Nat} (h : ((x3 ≤ x5 → Post (some (vI (1 : Int32))) σ) ∧ (¬ (x3 ≤ x5) → vp_in x5 20 ∧ vp_in x5 20 ∧ MM d M_Line_compareMiss [vR 11 0, vI (gI σ 3 i1 x5.toNatClampNeg), vI (gI σ 4 i1 x5.toNatClampNeg), vI x4] σ (fun r τ => WS (d + 1) M_Ruler_spares 44 [vR 10 0, vR 2 i1, vI x2, vI x3, vI x4, vI x5] (r.toList ++ []) τ Post)))) : WS (d + 1) M_Ruler_spares 15 [vR 10 0, vR 2 i1, vI x2, vI x3, vI x4, vI x5] [] σ Post := by
  refine WS.run (C := []) (pc' := 18) (L' := [vR 10 0, vR 2 i1, vI x2, vI x3, vI x4, vI x5]) (S' := [vI x3, vI x5]) (σ' := σ) 2 rfl trivial ?_
  refine WS.br (P := x3 ≤ x5) (a := 55) (b := 21) (S' := []) rfl (fun c1 => ?_) (fun c1 => ?_)
  · refine WS.run (C := []) (pc' := 56) (L' := [vR 10 0, vR 2 i1, vI x2, vI x3, vI x4, vI x5]) (S' := [vI (1 : Int32)]) (σ' := σ) 1 rfl trivial ?_
    exact WS.ret rfl rfl (by decide) rfl (h.1 c1)
  · refine WS.run (C := [vp_in x5 20, vp_in x5 20]) (pc' := 41) (L' := [vR 10 0, vR 2 i1, vI x2, vI x3, vI x4, vI x5]) (S' := [vI x4, vI (gI σ 4 i1 x5.toNatClampNeg), vI (gI σ 3 i1 x5.toNatClampNeg), vR 11 0]) (σ' := σ) 11 rfl ⟨(h.2 c1).1, (h.2 c1).2.1, trivial⟩ ?_
    refine WS.callV M_Line_compareMiss (k := 11) (i := 0) (as := [vI (gI σ 3 i1 x5.toNatClampNeg), vI (gI σ 4 i1 x5.toNatClampNeg), vI x4]) (rest := []) rfl lk_5_58 rfl rfl rfl (Nat.le_of_ble_eq_true rfl) ?_
    exact (h.2 c1).2.2
set_option maxRecDepth 4000 in
set_option maxHeartbeats 400000 in
theorem b_Ruler_spares_44 {d : Nat} {σ : Mem} {Post : Option AV → Mem → Prop} {x2 x3 x4 x5 sx0 : Int32} {i1 : Nat} (h : ((sx0 ≤ 0 → WS d M_Ruler_spares 15 [vR 10 0, vR 2 i1, vI x2, vI x3, vI x4, vI (x5 + (1 : Int32))] [] σ Post) ∧ (¬ (sx0 ≤ 0) → Post (some (vI (0 : Int32))) σ))) : WS d M_Ruler_spares 44 [vR 10 0, vR 2 i1, vI x2, vI x3, vI x4, vI x5] [vI sx0] σ Post := by
  refine WS.br (P := sx0 ≤ 0) (a := 49) (b := 47) (S' := []) rfl (fun c2 => ?_) (fun c2 => ?_)
  · refine WS.run (C := []) (pc' := 15) (L' := [vR 10 0, vR 2 i1, vI x2, vI x3, vI x4, vI (x5 + (1 : Int32))]) (S' := []) (σ' := σ) 2 rfl trivial ?_
    exact (h.1 c2)
  · refine WS.run (C := []) (pc' := 48) (L' := [vR 10 0, vR 2 i1, vI x2, vI x3, vI x4, vI x5]) (S' := [vI (0 : Int32)]) (σ' := σ) 1 rfl trivial ?_
    exact WS.ret rfl rfl (by decide) rfl (h.2 c2)
set_option maxRecDepth 4000 in
set_option maxHeartbeats 400000 in
theorem b_Ruler_findNext_0 {d : Nat} {σ : Mem} {Post : Option AV → Mem → Prop} {x2 x3 : Int32} {i1 : Nat} (h : vp_in x2 20 ∧ (∀ σ1 : Mem, σ1 = pI σ 13 0 x2.toNatClampNeg (21 : Int32) → WS d M_Ruler_findNext 13 [vR 10 0, vR 2 i1, vI x2, vI x3, vI (x2 + (1 : Int32))] [] σ1 Post)) : WS d M_Ruler_findNext 0 [vR 10 0, vR 2 i1, vI x2, vI x3, vU] [] σ Post := by
  refine WS.run (C := [vp_in x2 20]) (pc' := 8) (L' := [vR 10 0, vR 2 i1, vI x2, vI x3, vU]) (S' := []) (σ' := pI σ 13 0 x2.toNatClampNeg (21 : Int32)) 5 rfl ⟨h.1, trivial⟩ ?_
  obtain ⟨σ1, eσ1⟩ : ∃ z, z = pI σ 13 0 x2.toNatClampNeg (21 : Int32) := ⟨_, rfl⟩
  rw [← eσ1]
  refine WS.run (C := []) (pc' := 13) (L' := [vR 10 0, vR 2 i1, vI x2, vI x3, vI (x2 + (1 : Int32))]) (S' := []) (σ' := σ1) 4 rfl trivial ?_
  exact (h.2 σ1 eσ1)
set_option maxRecDepth 4000 in
set_option maxHeartbeats 400000 in
theorem b_Ruler_findNext_13 {d : Nat} {σ : Mem} {Post : Option AV → Mem → Prop} {x2 x3 x4 : Int32} {i1 : Nat} (h : (((gI σ 2 i1 3) ≤ x4 → Post none σ) ∧ (¬ ((gI σ 2 i1 3) ≤ x4) → vp_in x4 20 ∧ vp_in x2 20 ∧ (((gI σ 13 0 x2.toNatClampNeg) < ((gI σ 13 0 x4.toNatClampNeg) + (1 : Int32)) → WS (d + 1) M_Ruler_findNext 13 [vR 10 0, vR 2 i1, vI x2, vI x3, vI (x4 + (1 : Int32))] [] σ Post) ∧ (¬ ((gI σ 13 0 x2.toNatClampNeg) < ((gI σ 13 0 x4.toNatClampNeg) + (1 : Int32))) → MM d M_Ruler_spares [vR 10 0, vR 2 i1, vI x2, vI x4, vI x3] σ (fun r τ => WS (d + 1) M_Ruler_findNext 49 [vR 10 0, vR 2 i1, vI x2, vI x3, vI x4] (r.toList ++ []) τ Post)))))) : WS (d + 1) M_Ruler_findNext 13 [vR 10 0, vR 2 i1, vI x2, vI x3, vI x4] [] σ Post := by
  refine WS.run (C := []) (pc' := 19) (L' := [vR 10 0, vR 2 i1, vI x2, vI x3, vI x4]) (S' := [vI (gI σ 2 i1 3), vI x4]) (σ' := σ) 3 rfl trivial ?_
  refine WS.br (P := (gI σ 2 i1 3) ≤ x4) (a := 81) (b := 22) (S' := []) rfl (fun c1 => ?_) (fun c1 => ?_)
  · exact WS.vret rfl rfl (h.1 c1)
  · refine WS.run (C := [vp_in x4 20, vp_in x2 20]) (pc' := 37) (L' := [vR 10 0, vR 2 i1, vI x2, vI x3, vI x4]) (S' := [vI (gI σ 13 0 x2.toNatClampNeg), vI ((gI σ 13 0 x4.toNatClampNeg) + (1 : Int32))]) (σ' := σ) 10 rfl ⟨(h.2 c1).1, (h.2 c1).2.1, trivial⟩ ?_
    refine WS.br (P := (gI σ 13 0 x2.toNatClampNeg) < ((gI σ 13 0 x4.toNatClampNeg) + (1 : Int32))) (a := 75) (b := 40) (S' := []) rfl (fun c2 => ?_) (fun c2 => ?_)
    · refine WS.run (C := []) (pc' := 13) (L' := [vR 10 0, vR 2 i1, vI x2, vI x3, vI (x4 + (1 : Int32))]) (S' := []) (σ' := σ) 2 rfl trivial ?_
      exact ((h.2 c1).2.2.1 c2)
    · refine WS.run (C := []) (pc' := 46) (L' := [vR 10 0, vR 2 i1, vI x2, vI x3, vI x4]) (S' := [vI x3, vI x4, vI x2, vR 2 i1, vR 10 0]) (σ' := σ) 5 rfl trivial ?_
      refine WS.callV M_Ruler_spares (k := 10) (i := 0) (as := [vR 2 i1, vI x2, vI x4, vI x3]) (rest := []) rfl lk_5_44 rfl rfl rfl (Nat.le_of_ble_eq_true rfl) ?_
      exact ((h.2 c1).2.2.2 c2)
set_option maxRecDepth 4000 in
set_option maxHeartbeats 400000 in
theorem b_Ruler_findNext_49t {d : Nat} {σ : Mem} {Post : Option AV → Mem → Prop} {x2 x3 x4 : Int32} {i1 : Nat} (h : vp_in x4 20 ∧ vp_in x2 20 ∧ (∀ σ1 : Mem, σ1 = pI σ 13 0 x2.toNatClampNeg ((gI σ 13 0 x4.toNatClampNeg) + (1 : Int32)) → vp_in x2 20 ∧ (∀ σ2 : Mem, σ2 = pI σ1 14 0 x2.toNatClampNeg x4 → WS d M_Ruler_findNext 13 [vR 10 0, vR 2 i1, vI x2, vI x3, vI (x4 + (1 : Int32))] [] σ2 Post))) : WS d M_Ruler_findNext 49 [vR 10 0, vR 2 i1, vI x2, vI x3, vI x4] [vI (1 : Int32)] σ Post := by
  refine WS.br (P := (1 : Int32) = 0) (a := 75) (b := 52) (S' := []) rfl (fun cc => absurd cc (by decide)) (fun _ => ?_)
  refine WS.run (C := [vp_in x4 20, vp_in x2 20]) (pc' := 67) (L' := [vR 10 0, vR 2 i1, vI x2, vI x3, vI x4]) (S' := []) (σ' := pI σ 13 0 x2.toNatClampNeg ((gI σ 13 0 x4.toNatClampNeg) + (1 : Int32))) 10 rfl ⟨h.1, h.2.1, trivial⟩ ?_
  obtain ⟨σ1, eσ1⟩ : ∃ z, z = pI σ 13 0 x2.toNatClampNeg ((gI σ 13 0 x4.toNatClampNeg) + (1 : Int32)) := ⟨_, rfl⟩
  rw [← eσ1]
  refine WS.run (C := [vp_in x2 20]) (pc' := 75) (L' := [vR 10 0, vR 2 i1, vI x2, vI x3, vI x4]) (S' := []) (σ' := pI σ1 14 0 x2.toNatClampNeg x4) 5 rfl ⟨(h.2.2 σ1 eσ1).1, trivial⟩ ?_
  obtain ⟨σ2, eσ2⟩ : ∃ z, z = pI σ1 14 0 x2.toNatClampNeg x4 := ⟨_, rfl⟩
  rw [← eσ2]
  refine WS.run (C := []) (pc' := 13) (L' := [vR 10 0, vR 2 i1, vI x2, vI x3, vI (x4 + (1 : Int32))]) (S' := []) (σ' := σ2) 2 rfl trivial ?_
  exact ((h.2.2 σ1 eσ1).2 σ2 eσ2)
set_option maxRecDepth 4000 in
set_option maxHeartbeats 400000 in
theorem b_Ruler_findNext_49f {d : Nat} {σ : Mem} {Post : Option AV → Mem → Prop} {x2 x3 x4 : Int32} {i1 : Nat} (h : WS d M_Ruler_findNext 13 [vR 10 0, vR 2 i1, vI x2, vI x3, vI (x4 + (1 : Int32))] [] σ Post) : WS d M_Ruler_findNext 49 [vR 10 0, vR 2 i1, vI x2, vI x3, vI x4] [vI (0 : Int32)] σ Post := by
  refine WS.br (P := (0 : Int32) = 0) (a := 75) (b := 52) (S' := []) rfl (fun _ => ?_) (fun cc => absurd (by decide) cc)
  refine WS.run (C := []) (pc' := 13) (L' := [vR 10 0, vR 2 i1, vI x2, vI x3, vI (x4 + (1 : Int32))]) (S' := []) (σ' := σ) 2 rfl trivial ?_
  exact h
set_option maxRecDepth 4000 in
set_option maxHeartbeats 400000 in
theorem b_Ruler_thin_0 {d : Nat} {σ : Mem} {Post : Option AV → Mem → Prop} {x2 : Int32} {i1 : Nat} (h : vp_in ((gI σ 2 i1 3) - (1 : Int32)) 20 ∧ (∀ σ1 : Mem, σ1 = pI σ 13 0 ((gI σ 2 i1 3) - (1 : Int32)).toNatClampNeg (1 : Int32) → WS d M_Ruler_thin 19 [vR 10 0, vR 2 i1, vI x2, vI ((gI σ 2 i1 3) - (1 : Int32)), vI (((gI σ 2 i1 3) - (1 : Int32)) - (1 : Int32)), vU] [] σ1 Post)) : WS d M_Ruler_thin 0 [vR 10 0, vR 2 i1, vI x2, vU, vU, vU] [] σ Post := by
  refine WS.run (C := [vp_in ((gI σ 2 i1 3) - (1 : Int32)) 20]) (pc' := 14) (L' := [vR 10 0, vR 2 i1, vI x2, vI ((gI σ 2 i1 3) - (1 : Int32)), vU, vU]) (S' := []) (σ' := pI σ 13 0 ((gI σ 2 i1 3) - (1 : Int32)).toNatClampNeg (1 : Int32)) 10 rfl ⟨h.1, trivial⟩ ?_
  obtain ⟨σ1, eσ1⟩ : ∃ z, z = pI σ 13 0 ((gI σ 2 i1 3) - (1 : Int32)).toNatClampNeg (1 : Int32) := ⟨_, rfl⟩
  rw [← eσ1]
  refine WS.run (C := []) (pc' := 19) (L' := [vR 10 0, vR 2 i1, vI x2, vI ((gI σ 2 i1 3) - (1 : Int32)), vI (((gI σ 2 i1 3) - (1 : Int32)) - (1 : Int32)), vU]) (S' := []) (σ' := σ1) 4 rfl trivial ?_
  exact (h.2 σ1 eσ1)
set_option maxRecDepth 4000 in
set_option maxHeartbeats 400000 in
theorem b_Ruler_thin_19 {d : Nat} {σ : Mem} {Post : Option AV → Mem → Prop} {x2 x3 x4 : Int32} {i1 : Nat} (h : ((x4 < 0 → vp_in (0 : Int32) 20 ∧ (∀ σ1 : Mem, σ1 = pI σ 2 i1 4 (gI σ 13 0 (0 : Int32).toNatClampNeg) → WS (d + 1) M_Ruler_thin 54 [vR 10 0, vR 2 i1, vI x2, vI x3, vI (0 : Int32), vI (0 : Int32)] [] σ1 Post)) ∧ (¬ (x4 < 0) → MM d M_Ruler_findNext [vR 10 0, vR 2 i1, vI x4, vI x2] σ (fun r τ => WS (d + 1) M_Ruler_thin 32 [vR 10 0, vR 2 i1, vI x2, vI x3, vI x4, vU] (r.toList ++ []) τ Post)))) : WS (d + 1) M_Ruler_thin 19 [vR 10 0, vR 2 i1, vI x2, vI x3, vI x4, vU] [] σ Post := by
  refine WS.run (C := []) (pc' := 21) (L' := [vR 10 0, vR 2 i1, vI x2, vI x3, vI x4, vU]) (S' := [vI x4]) (σ' := σ) 1 rfl trivial ?_
  refine WS.br (P := x4 < 0) (a := 38) (b := 24) (S' := []) rfl (fun c1 => ?_) (fun c1 => ?_)
  · refine WS.run (C := [vp_in (0 : Int32) 20]) (pc' := 51) (L' := [vR 10 0, vR 2 i1, vI x2, vI x3, vI (0 : Int32), vU]) (S' := []) (σ' := pI σ 2 i1 4 (gI σ 13 0 (0 : Int32).toNatClampNeg)) 8 rfl ⟨(h.1 c1).1, trivial⟩ ?_
    obtain ⟨σ1, eσ1⟩ : ∃ z, z = pI σ 2 i1 4 (gI σ 13 0 (0 : Int32).toNatClampNeg) := ⟨_, rfl⟩
    rw [← eσ1]
    refine WS.run (C := []) (pc' := 54) (L' := [vR 10 0, vR 2 i1, vI x2, vI x3, vI (0 : Int32), vI (0 : Int32)]) (S' := []) (σ' := σ1) 2 rfl trivial ?_
    exact ((h.1 c1).2 σ1 eσ1)
  · refine WS.run (C := []) (pc' := 29) (L' := [vR 10 0, vR 2 i1, vI x2, vI x3, vI x4, vU]) (S' := [vI x2, vI x4, vR 2 i1, vR 10 0]) (σ' := σ) 4 rfl trivial ?_
    refine WS.callV M_Ruler_findNext (k := 10) (i := 0) (as := [vR 2 i1, vI x4, vI x2]) (rest := []) rfl lk_5_34 rfl rfl rfl (Nat.le_of_ble_eq_true rfl) ?_
    exact (h.2 c1)
set_option maxRecDepth 4000 in
set_option maxHeartbeats 400000 in
theorem b_Ruler_thin_32 {d : Nat} {σ : Mem} {Post : Option AV → Mem → Prop} {x2 x3 x4 : Int32} {i1 : Nat} (h : WS d M_Ruler_thin 19 [vR 10 0, vR 2 i1, vI x2, vI x3, vI (x4 + (-1 : Int32)), vU] [] σ Post) : WS d M_Ruler_thin 32 [vR 10 0, vR 2 i1, vI x2, vI x3, vI x4, vU] [] σ Post := by
  refine WS.run (C := []) (pc' := 19) (L' := [vR 10 0, vR 2 i1, vI x2, vI x3, vI (x4 + (-1 : Int32)), vU]) (S' := []) (σ' := σ) 2 rfl trivial ?_
  exact h
set_option maxRecDepth 4000 in
set_option maxHeartbeats 400000 in
theorem b_Ruler_thin_54 {d : Nat} {σ : Mem} {Post : Option AV → Mem → Prop} {x2 x3 x4 x5 : Int32} {i1 : Nat} (h : (((gI σ 2 i1 4) ≤ x5 → Post none σ) ∧ (¬ ((gI σ 2 i1 4) ≤ x5) → vp_in x5 20 ∧ (∀ σ1 : Mem, σ1 = pI σ 5 i1 x5.toNatClampNeg x4 → vp_in x4 20 ∧ WS d M_Ruler_thin 54 [vR 10 0, vR 2 i1, vI x2, vI x3, vI (gI σ1 14 0 x4.toNatClampNeg), vI (x5 + (1 : Int32))] [] σ1 Post)))) : WS d M_Ruler_thin 54 [vR 10 0, vR 2 i1, vI x2, vI x3, vI x4, vI x5] [] σ Post := by
  refine WS.run (C := []) (pc' := 60) (L' := [vR 10 0, vR 2 i1, vI x2, vI x3, vI x4, vI x5]) (S' := [vI (gI σ 2 i1 4), vI x5]) (σ' := σ) 3 rfl trivial ?_
  refine WS.br (P := (gI σ 2 i1 4) ≤ x5) (a := 87) (b := 63) (S' := []) rfl (fun c2 => ?_) (fun c2 => ?_)
  · exact WS.vret rfl rfl (h.1 c2)
  · refine WS.run (C := [vp_in x5 20]) (pc' := 72) (L' := [vR 10 0, vR 2 i1, vI x2, vI x3, vI x4, vI x5]) (S' := []) (σ' := pI σ 5 i1 x5.toNatClampNeg x4) 5 rfl ⟨(h.2 c2).1, trivial⟩ ?_
    obtain ⟨σ1, eσ1⟩ : ∃ z, z = pI σ 5 i1 x5.toNatClampNeg x4 := ⟨_, rfl⟩
    rw [← eσ1]
    refine WS.run (C := [vp_in x4 20]) (pc' := 54) (L' := [vR 10 0, vR 2 i1, vI x2, vI x3, vI (gI σ1 14 0 x4.toNatClampNeg), vI (x5 + (1 : Int32))]) (S' := []) (σ' := σ1) 7 rfl ⟨((h.2 c2).2 σ1 eσ1).1, trivial⟩ ?_
    exact ((h.2 c2).2 σ1 eσ1).2
set_option maxRecDepth 4000 in
set_option maxHeartbeats 400000 in
theorem b_Keeper_find_0 {d : Nat} {σ : Mem} {Post : Option AV → Mem → Prop} {x3 : Int32} (h : MM d M_Keeper_measure [vR 15 0, vR 1 0, vR 10 0, vI x3] σ (fun r τ => WS (d + 1) M_Keeper_find 7 [vR 15 0, vR 1 0, vR 10 0, vI x3, vU, vU] (r.toList ++ []) τ Post)) : WS (d + 1) M_Keeper_find 0 [vR 15 0, vR 1 0, vR 10 0, vI x3, vU, vU] [] σ Post := by
  refine WS.run (C := []) (pc' := 4) (L' := [vR 15 0, vR 1 0, vR 10 0, vI x3, vU, vU]) (S' := [vI x3, vR 10 0, vR 1 0, vR 15 0]) (σ' := σ) 4 rfl trivial ?_
  refine WS.callV M_Keeper_measure (k := 15) (i := 0) (as := [vR 1 0, vR 10 0, vI x3]) (rest := []) rfl lk_1_20 rfl rfl rfl (Nat.le_of_ble_eq_true rfl) ?_
  exact h
set_option maxRecDepth 4000 in
set_option maxHeartbeats 400000 in
theorem b_Keeper_find_7 {d : Nat} {σ : Mem} {Post : Option AV → Mem → Prop} {x3 sx0 : Int32} (h : WS d M_Keeper_find 12 [vR 15 0, vR 1 0, vR 10 0, vI x3, vI sx0, vI (0 : Int32)] [] σ Post) : WS d M_Keeper_find 7 [vR 15 0, vR 1 0, vR 10 0, vI x3, vU, vU] [vI sx0] σ Post := by
  refine WS.run (C := []) (pc' := 12) (L' := [vR 15 0, vR 1 0, vR 10 0, vI x3, vI sx0, vI (0 : Int32)]) (S' := []) (σ' := σ) 3 rfl trivial ?_
  exact h
set_option maxRecDepth 4000 in
set_option maxHeartbeats 400000 in
theorem b_Keeper_find_12 {d : Nat} {σ : Mem} {Post : Option AV → Mem → Prop} {x3 x4 x5 : Int32} (h : (((12 : Int32) ≤ x5 → WS (d + 1) M_Keeper_find 55 [vR 15 0, vR 1 0, vR 10 0, vI x3, vI x4, vI (0 : Int32)] [] σ Post) ∧ (¬ ((12 : Int32) ≤ x5) → vp_in x5 12 ∧ MM d M_Keeper_isDangerThere [vR 2 x5.toNatClampNeg] σ (fun r τ => WS (d + 1) M_Keeper_find 26 [vR 15 0, vR 1 0, vR 10 0, vI x3, vI x4, vI x5] (r.toList ++ []) τ Post)))) : WS (d + 1) M_Keeper_find 12 [vR 15 0, vR 1 0, vR 10 0, vI x3, vI x4, vI x5] [] σ Post := by
  refine WS.run (C := []) (pc' := 16) (L' := [vR 15 0, vR 1 0, vR 10 0, vI x3, vI x4, vI x5]) (S' := [vI (12 : Int32), vI x5]) (σ' := σ) 2 rfl trivial ?_
  refine WS.br (P := (12 : Int32) ≤ x5) (a := 52) (b := 19) (S' := []) rfl (fun c1 => ?_) (fun c1 => ?_)
  · refine WS.run (C := []) (pc' := 55) (L' := [vR 15 0, vR 1 0, vR 10 0, vI x3, vI x4, vI (0 : Int32)]) (S' := []) (σ' := σ) 2 rfl trivial ?_
    exact (h.1 c1)
  · refine WS.run (C := [vp_in x5 12]) (pc' := 23) (L' := [vR 15 0, vR 1 0, vR 10 0, vI x3, vI x4, vI x5]) (S' := [vR 2 x5.toNatClampNeg]) (σ' := σ) 3 rfl ⟨(h.2 c1).1, trivial⟩ ?_
    refine WS.callS M_Keeper_isDangerThere (as := [vR 2 x5.toNatClampNeg]) (rest := []) rfl lk_1_24 rfl rfl (Nat.le_of_ble_eq_true rfl) ?_
    exact (h.2 c1).2
set_option maxRecDepth 4000 in
set_option maxHeartbeats 400000 in
theorem b_Keeper_find_26t {d : Nat} {σ : Mem} {Post : Option AV → Mem → Prop} {x3 x4 x5 : Int32} (h : vp_in x5 12 ∧ WS d M_Keeper_find 12 [vR 15 0, vR 1 0, vR 10 0, vI x3, vI (x4 &&& ((gI σ 17 0 x5.toNatClampNeg) ^^^ (-1 : Int32))), vI (x5 + (1 : Int32))] [] σ Post) : WS d M_Keeper_find 26 [vR 15 0, vR 1 0, vR 10 0, vI x3, vI x4, vI x5] [vI (1 : Int32)] σ Post := by
  refine WS.br (P := (1 : Int32) = 0) (a := 46) (b := 29) (S' := []) rfl (fun cc => absurd cc (by decide)) (fun _ => ?_)
  refine WS.run (C := [vp_in x5 12]) (pc' := 12) (L' := [vR 15 0, vR 1 0, vR 10 0, vI x3, vI (x4 &&& ((gI σ 17 0 x5.toNatClampNeg) ^^^ (-1 : Int32))), vI (x5 + (1 : Int32))]) (S' := []) (σ' := σ) 12 rfl ⟨h.1, trivial⟩ ?_
  exact h.2
set_option maxRecDepth 4000 in
set_option maxHeartbeats 400000 in
theorem b_Keeper_find_26f {d : Nat} {σ : Mem} {Post : Option AV → Mem → Prop} {x3 x4 x5 : Int32} (h : WS d M_Keeper_find 12 [vR 15 0, vR 1 0, vR 10 0, vI x3, vI x4, vI (x5 + (1 : Int32))] [] σ Post) : WS d M_Keeper_find 26 [vR 15 0, vR 1 0, vR 10 0, vI x3, vI x4, vI x5] [vI (0 : Int32)] σ Post := by
  refine WS.br (P := (0 : Int32) = 0) (a := 46) (b := 29) (S' := []) rfl (fun _ => ?_) (fun cc => absurd (by decide) cc)
  refine WS.run (C := []) (pc' := 12) (L' := [vR 15 0, vR 1 0, vR 10 0, vI x3, vI x4, vI (x5 + (1 : Int32))]) (S' := []) (σ' := σ) 2 rfl trivial ?_
  exact h
set_option maxRecDepth 4000 in
set_option maxHeartbeats 400000 in
theorem b_Keeper_find_55 {d : Nat} {σ : Mem} {Post : Option AV → Mem → Prop} {x3 x4 x5 : Int32} (h : (((12 : Int32) ≤ x5 → (∀ σ1 : Mem, σ1 = pI σ 15 0 1 (1 : Int32) → MM d M_Chooser_choose [vR 16 0, vI x4] σ1 (fun r τ => WS (d + 1) M_Keeper_find 104 [vR 15 0, vR 1 0, vR 10 0, vI x3, vI x4, vI x5] (r.toList ++ []) τ Post))) ∧ (¬ ((12 : Int32) ≤ x5) → vp_in x5 12 ∧ MM d M_Keeper_isDangerThere [vR 2 x5.toNatClampNeg] σ (fun r τ => WS (d + 1) M_Keeper_find 69 [vR 15 0, vR 1 0, vR 10 0, vI x3, vI x4, vI x5] (r.toList ++ []) τ Post)))) : WS (d + 1) M_Keeper_find 55 [vR 15 0, vR 1 0, vR 10 0, vI x3, vI x4, vI x5] [] σ Post := by
  refine WS.run (C := []) (pc' := 59) (L' := [vR 15 0, vR 1 0, vR 10 0, vI x3, vI x4, vI x5]) (S' := [vI (12 : Int32), vI x5]) (σ' := σ) 2 rfl trivial ?_
  refine WS.br (P := (12 : Int32) ≤ x5) (a := 90) (b := 62) (S' := []) rfl (fun c2 => ?_) (fun c2 => ?_)
  · refine WS.run (C := [(1 : Int32) = 0 ∨ (1 : Int32) = 1]) (pc' := 95) (L' := [vR 15 0, vR 1 0, vR 10 0, vI x3, vI x4, vI x5]) (S' := []) (σ' := pI σ 15 0 1 (1 : Int32)) 3 rfl ⟨(by decide), trivial⟩ ?_
    obtain ⟨σ1, eσ1⟩ : ∃ z, z = pI σ 15 0 1 (1 : Int32) := ⟨_, rfl⟩
    rw [← eσ1]
    refine WS.run (C := []) (pc' := 101) (L' := [vR 15 0, vR 1 0, vR 10 0, vI x3, vI x4, vI x5]) (S' := [vI x4, vR 16 0]) (σ' := σ1) 3 rfl trivial ?_
    refine WS.callV M_Chooser_choose (k := 16) (i := 0) (as := [vI x4]) (rest := []) rfl lk_1_36 rfl rfl rfl (Nat.le_of_ble_eq_true rfl) ?_
    exact ((h.1 c2) σ1 eσ1)
  · refine WS.run (C := [vp_in x5 12]) (pc' := 66) (L' := [vR 15 0, vR 1 0, vR 10 0, vI x3, vI x4, vI x5]) (S' := [vR 2 x5.toNatClampNeg]) (σ' := σ) 3 rfl ⟨(h.2 c2).1, trivial⟩ ?_
    refine WS.callS M_Keeper_isDangerThere (as := [vR 2 x5.toNatClampNeg]) (rest := []) rfl lk_1_24 rfl rfl (Nat.le_of_ble_eq_true rfl) ?_
    exact (h.2 c2).2
set_option maxRecDepth 4000 in
set_option maxHeartbeats 400000 in
theorem b_Keeper_find_69t {d : Nat} {σ : Mem} {Post : Option AV → Mem → Prop} {x3 x4 x5 : Int32} (h : (((((x4.toUInt32 >>> (x5.toUInt32 &&& Int32.toUInt32 31)).toInt32) &&& (1 : Int32)) = 0 → Post (some (vI (-1 : Int32))) σ) ∧ (¬ ((((x4.toUInt32 >>> (x5.toUInt32 &&& Int32.toUInt32 31)).toInt32) &&& (1 : Int32)) = 0) → WS d M_Keeper_find 55 [vR 15 0, vR 1 0, vR 10 0, vI x3, vI x4, vI (x5 + (1 : Int32))] [] σ Post))) : WS d M_Keeper_find 69 [vR 15 0, vR 1 0, vR 10 0, vI x3, vI x4, vI x5] [vI (1 : Int32)] σ Post := by
  refine WS.br (P := (1 : Int32) = 0) (a := 84) (b := 72) (S' := []) rfl (fun cc => absurd cc (by decide)) (fun _ => ?_)
  refine WS.run (C := []) (pc' := 79) (L' := [vR 15 0, vR 1 0, vR 10 0, vI x3, vI x4, vI x5]) (S' := [vI (((x4.toUInt32 >>> (x5.toUInt32 &&& Int32.toUInt32 31)).toInt32) &&& (1 : Int32))]) (σ' := σ) 5 rfl trivial ?_
  refine WS.br (P := (((x4.toUInt32 >>> (x5.toUInt32 &&& Int32.toUInt32 31)).toInt32) &&& (1 : Int32)) = 0) (a := 82) (b := 84) (S' := []) rfl (fun c3 => ?_) (fun c3 => ?_)
  · refine WS.run (C := []) (pc' := 83) (L' := [vR 15 0, vR 1 0, vR 10 0, vI x3, vI x4, vI x5]) (S' := [vI (-1 : Int32)]) (σ' := σ) 1 rfl trivial ?_
    exact WS.ret rfl rfl (by decide) rfl (h.1 c3)
  · refine WS.run (C := []) (pc' := 55) (L' := [vR 15 0, vR 1 0, vR 10 0, vI x3, vI x4, vI (x5 + (1 : Int32))]) (S' := []) (σ' := σ) 2 rfl trivial ?_
    exact (h.2 c3)
set_option maxRecDepth 4000 in
set_option maxHeartbeats 400000 in
theorem b_Keeper_find_69f {d : Nat} {σ : Mem} {Post : Option AV → Mem → Prop} {x3 x4 x5 : Int32} (h : WS d M_Keeper_find 55 [vR 15 0, vR 1 0, vR 10 0, vI x3, vI x4, vI (x5 + (1 : Int32))] [] σ Post) : WS d M_Keeper_find 69 [vR 15 0, vR 1 0, vR 10 0, vI x3, vI x4, vI x5] [vI (0 : Int32)] σ Post := by
  refine WS.br (P := (0 : Int32) = 0) (a := 84) (b := 72) (S' := []) rfl (fun _ => ?_) (fun cc => absurd (by decide) cc)
  refine WS.run (C := []) (pc' := 55) (L' := [vR 15 0, vR 1 0, vR 10 0, vI x3, vI x4, vI (x5 + (1 : Int32))]) (S' := []) (σ' := σ) 2 rfl trivial ?_
  exact h
set_option maxRecDepth 4000 in
set_option maxHeartbeats 400000 in
theorem b_Keeper_find_104 {d : Nat} {σ : Mem} {Post : Option AV → Mem → Prop} {x3 x4 x5 sx0 : Int32} (h : Post (some (vI sx0)) σ) : WS d M_Keeper_find 104 [vR 15 0, vR 1 0, vR 10 0, vI x3, vI x4, vI x5] [vI sx0] σ Post := by
  exact WS.ret rfl rfl (by decide) rfl h
set_option maxRecDepth 4000 in
set_option maxHeartbeats 400000 in
theorem b_Keeper_measure_0 {d : Nat} {σ : Mem} {Post : Option AV → Mem → Prop} {x3 : Int32} (h : MM d M_Chooser_clearClashes [vR 16 0] σ (fun r τ => WS (d + 1) M_Keeper_measure 10 [vR 15 0, vR 1 0, vR 10 0, vI x3, vI (0 : Int32), vU, vU] (r.toList ++ []) τ Post)) : WS (d + 1) M_Keeper_measure 0 [vR 15 0, vR 1 0, vR 10 0, vI x3, vU, vU, vU] [] σ Post := by
  refine WS.run (C := []) (pc' := 7) (L' := [vR 15 0, vR 1 0, vR 10 0, vI x3, vI (0 : Int32), vU, vU]) (S' := [vR 16 0]) (σ' := σ) 4 rfl trivial ?_
  refine WS.callV M_Chooser_clearClashes (k := 16) (i := 0) (as := []) (rest := []) rfl lk_1_40 rfl rfl rfl (Nat.le_of_ble_eq_true rfl) ?_
  exact h
set_option maxRecDepth 4000 in
set_option maxHeartbeats 400000 in
theorem b_Keeper_measure_10 {d : Nat} {σ : Mem} {Post : Option AV → Mem → Prop} {x3 x4 : Int32} (h : WS d M_Keeper_measure 13 [vR 15 0, vR 1 0, vR 10 0, vI x3, vI x4, vI (0 : Int32), vU] [] σ Post) : WS d M_Keeper_measure 10 [vR 15 0, vR 1 0, vR 10 0, vI x3, vI x4, vU, vU] [] σ Post := by
  refine WS.run (C := []) (pc' := 13) (L' := [vR 15 0, vR 1 0, vR 10 0, vI x3, vI x4, vI (0 : Int32), vU]) (S' := []) (σ' := σ) 2 rfl trivial ?_
  exact h
set_option maxRecDepth 4000 in
set_option maxHeartbeats 400000 in
theorem b_Keeper_measure_13 {d : Nat} {σ : Mem} {Post : Option AV → Mem → Prop} {x3 x4 x5 : Int32} {v6 : AV} (h : (((12 : Int32) ≤ x5 → Post (some (vI x4)) σ) ∧ (¬ ((12 : Int32) ≤ x5) → vp_in x5 12 ∧ MM d M_Chooser_price [vR 16 0, vI x5, vI (gI σ 2 x5.toNatClampNeg 5)] σ (fun r τ => WS (d + 1) M_Keeper_measure 36 [vR 15 0, vR 1 0, vR 10 0, vI x3, vI x4, vI x5, v6] (r.toList ++ []) τ Post)))) : WS (d + 1) M_Keeper_measure 13 [vR 15 0, vR 1 0, vR 10 0, vI x3, vI x4, vI x5, v6] [] σ Post := by
  refine WS.run (C := []) (pc' := 17) (L' := [vR 15 0, vR 1 0, vR 10 0, vI x3, vI x4, vI x5, v6]) (S' := [vI (12 : Int32), vI x5]) (σ' := σ) 2 rfl trivial ?_
  refine WS.br (P := (12 : Int32) ≤ x5) (a := 108) (b := 20) (S' := []) rfl (fun c1 => ?_) (fun c1 => ?_)
  · refine WS.run (C := []) (pc' := 110) (L' := [vR 15 0, vR 1 0, vR 10 0, vI x3, vI x4, vI x5, v6]) (S' := [vI x4]) (σ' := σ) 1 rfl trivial ?_
    exact WS.ret rfl rfl (by decide) rfl (h.1 c1)
  · refine WS.run (C := [vp_in x5 12]) (pc' := 33) (L' := [vR 15 0, vR 1 0, vR 10 0, vI x3, vI x4, vI x5, v6]) (S' := [vI (gI σ 2 x5.toNatClampNeg 5), vI x5, vR 16 0]) (σ' := σ) 7 rfl ⟨(h.2 c1).1, trivial⟩ ?_
    refine WS.callV M_Chooser_price (k := 16) (i := 0) (as := [vI x5, vI (gI σ 2 x5.toNatClampNeg 5)]) (rest := []) rfl lk_1_49 rfl rfl rfl (Nat.le_of_ble_eq_true rfl) ?_
    exact (h.2 c1).2
set_option maxRecDepth 4000 in
set_option maxHeartbeats 400000 in
theorem b_Keeper_measure_36 {d : Nat} {σ : Mem} {Post : Option AV → Mem → Prop} {x3 x4 x5 : Int32} {v6 : AV} (h : vp_in x5 12 ∧ (((gI σ 2 x5.toNatClampNeg 3) ≤ 0 → WS d M_Keeper_measure 58 [vR 15 0, vR 1 0, vR 10 0, vI x3, vI x4, vI x5, vI (0 : Int32)] [] σ Post) ∧ (¬ ((gI σ 2 x5.toNatClampNeg 3) ≤ 0) → WS d M_Keeper_measure 58 [vR 15 0, vR 1 0, vR 10 0, vI x3, vI (x4 ||| ((1 : Int32) <<< (x5 &&& 31))), vI x5, vI (0 : Int32)] [] σ Post))) : WS d M_Keeper_measure 36 [vR 15 0, vR 1 0, vR 10 0, vI x3, vI x4, vI x5, v6] [] σ Post := by
  refine WS.run (C := [vp_in x5 12]) (pc' := 43) (L' := [vR 15 0, vR 1 0, vR 10 0, vI x3, vI x4, vI x5, v6]) (S' := [vI (gI σ 2 x5.toNatClampNeg 3)]) (σ' := σ) 4 rfl ⟨h.1, trivial⟩ ?_
  refine WS.br (P := (gI σ 2 x5.toNatClampNeg 3) ≤ 0) (a := 55) (b := 46) (S' := []) rfl (fun c2 => ?_) (fun c2 => ?_)
  · refine WS.run (C := []) (pc' := 58) (L' := [vR 15 0, vR 1 0, vR 10 0, vI x3, vI x4, vI x5, vI (0 : Int32)]) (S' := []) (σ' := σ) 2 rfl trivial ?_
    exact (h.2.1 c2)
  · refine WS.run (C := []) (pc' := 58) (L' := [vR 15 0, vR 1 0, vR 10 0, vI x3, vI (x4 ||| ((1 : Int32) <<< (x5 &&& 31))), vI x5, vI (0 : Int32)]) (S' := []) (σ' := σ) 8 rfl trivial ?_
    exact (h.2.2 c2)
set_option maxRecDepth 4000 in
set_option maxHeartbeats 400000 in
theorem b_Keeper_measure_58 {d : Nat} {σ : Mem} {Post : Option AV → Mem → Prop} {x3 x4 x5 x6 : Int32} (h : ((x5 ≤ x6 → WS (d + 1) M_Keeper_measure 13 [vR 15 0, vR 1 0, vR 10 0, vI x3, vI x4, vI (x5 + (1 : Int32)), vI x6] [] σ Post) ∧ (¬ (x5 ≤ x6) → vp_in x5 12 ∧ vp_in x6 12 ∧ MM d M_Ruler_areTooNear [vR 10 0, vR 2 x5.toNatClampNeg, vR 2 x6.toNatClampNeg, vI x3] σ (fun r τ => WS (d + 1) M_Keeper_measure 78 [vR 15 0, vR 1 0, vR 10 0, vI x3, vI x4, vI x5, vI x6] (r.toList ++ []) τ Post)))) : WS (d + 1) M_Keeper_measure 58 [vR 15 0, vR 1 0, vR 10 0, vI x3, vI x4, vI x5, vI x6] [] σ Post := by
  refine WS.run (C := []) (pc' := 62) (L' := [vR 15 0, vR 1 0, vR 10 0, vI x3, vI x4, vI x5, vI x6]) (S' := [vI x5, vI x6]) (σ' := σ) 2 rfl trivial ?_
  refine WS.br (P := x5 ≤ x6) (a := 102) (b := 65) (S' := []) rfl (fun c3 => ?_) (fun c3 => ?_)
  · refine WS.run (C := []) (pc' := 13) (L' := [vR 15 0, vR 1 0, vR 10 0, vI x3, vI x4, vI (x5 + (1 : Int32)), vI x6]) (S' := []) (σ' := σ) 2 rfl trivial ?_
    exact (h.1 c3)
  · refine WS.run (C := [vp_in x5 12, vp_in x6 12]) (pc' := 75) (L' := [vR 15 0, vR 1 0, vR 10 0, vI x3, vI x4, vI x5, vI x6]) (S' := [vI x3, vR 2 x6.toNatClampNeg, vR 2 x5.toNatClampNeg, vR 10 0]) (σ' := σ) 8 rfl ⟨(h.2 c3).1, (h.2 c3).2.1, trivial⟩ ?_
    refine WS.callV M_Ruler_areTooNear (k := 10) (i := 0) (as := [vR 2 x5.toNatClampNeg, vR 2 x6.toNatClampNeg, vI x3]) (rest := []) rfl lk_1_55 rfl rfl rfl (Nat.le_of_ble_eq_true rfl) ?_
    exact (h.2 c3).2.2
set_option maxRecDepth 4000 in
set_option maxHeartbeats 400000 in
theorem b_Keeper_measure_78t {d : Nat} {σ : Mem} {Post : Option AV → Mem → Prop} {x3 x4 x5 x6 : Int32} (h : MM d M_TM_join [vR 17 0, vI x5, vI x6, vI (1 : Int32)] σ (fun r τ => WS (d + 1) M_Keeper_measure 96 [vR 15 0, vR 1 0, vR 10 0, vI x3, vI x4, vI x5, vI x6] (r.toList ++ []) τ Post)) : WS (d + 1) M_Keeper_measure 78 [vR 15 0, vR 1 0, vR 10 0, vI x3, vI x4, vI x5, vI x6] [vI (1 : Int32)] σ Post := by
  refine WS.br (P := (1 : Int32) = 0) (a := 96) (b := 81) (S' := []) rfl (fun cc => absurd cc (by decide)) (fun _ => ?_)
  refine WS.run (C := []) (pc' := 93) (L' := [vR 15 0, vR 1 0, vR 10 0, vI x3, vI x4, vI x5, vI x6]) (S' := [vI (1 : Int32), vI x6, vI x5, vR 17 0]) (σ' := σ) 6 rfl trivial ?_
  refine WS.callS M_TM_join (as := [vR 17 0, vI x5, vI x6, vI (1 : Int32)]) (rest := []) rfl lk_1_61 rfl rfl (Nat.le_of_ble_eq_true rfl) ?_
  exact h
set_option maxRecDepth 4000 in
set_option maxHeartbeats 400000 in
theorem b_Keeper_measure_78f {d : Nat} {σ : Mem} {Post : Option AV → Mem → Prop} {x3 x4 x5 x6 : Int32} (h : WS d M_Keeper_measure 96 [vR 15 0, vR 1 0, vR 10 0, vI x3, vI x4, vI x5, vI x6] [] σ Post) : WS d M_Keeper_measure 78 [vR 15 0, vR 1 0, vR 10 0, vI x3, vI x4, vI x5, vI x6] [vI (0 : Int32)] σ Post := by
  refine WS.br (P := (0 : Int32) = 0) (a := 96) (b := 81) (S' := []) rfl (fun _ => ?_) (fun cc => absurd (by decide) cc)
  exact h
set_option maxRecDepth 4000 in
set_option maxHeartbeats 400000 in
theorem b_Keeper_measure_96 {d : Nat} {σ : Mem} {Post : Option AV → Mem → Prop} {x3 x4 x5 x6 : Int32} (h : WS d M_Keeper_measure 58 [vR 15 0, vR 1 0, vR 10 0, vI x3, vI x4, vI x5, vI (x6 + (1 : Int32))] [] σ Post) : WS d M_Keeper_measure 96 [vR 15 0, vR 1 0, vR 10 0, vI x3, vI x4, vI x5, vI x6] [] σ Post := by
  refine WS.run (C := []) (pc' := 58) (L' := [vR 15 0, vR 1 0, vR 10 0, vI x3, vI x4, vI x5, vI (x6 + (1 : Int32))]) (S' := []) (σ' := σ) 2 rfl trivial ?_
  exact h
set_option maxRecDepth 4000 in
set_option maxHeartbeats 400000 in
theorem b_Layer_find_0 {d : Nat} {σ : Mem} {Post : Option AV → Mem → Prop} {x1 : Int32} (h : WS d M_Layer_find 2 [vR 45 0, vI x1, vI (0 : Int32)] [] σ Post) : WS d M_Layer_find 0 [vR 45 0, vI x1, vU] [] σ Post := by
  refine WS.run (C := []) (pc' := 2) (L' := [vR 45 0, vI x1, vI (0 : Int32)]) (S' := []) (σ' := σ) 2 rfl trivial ?_
  exact h
set_option maxRecDepth 4000 in
set_option maxHeartbeats 400000 in
theorem b_Layer_find_2 {d : Nat} {σ : Mem} {Post : Option AV → Mem → Prop} {x1 x2 : Int32} (h : (((8 : Int32) ≤ x2 → WS d M_Layer_find 23 [vR 45 0, vI x1, vI (0 : Int32)] [] σ Post) ∧ (¬ ((8 : Int32) ≤ x2) → vp_in x2 8 ∧ (∀ σ1 : Mem, σ1 = pJ σ 50 0 x2.toNatClampNeg (0 : Int64) → WS d M_Layer_find 2 [vR 45 0, vI x1, vI (x2 + (1 : Int32))] [] σ1 Post)))) : WS d M_Layer_find 2 [vR 45 0, vI x1, vI x2] [] σ Post := by
  refine WS.run (C := []) (pc' := 5) (L' := [vR 45 0, vI x1, vI x2]) (S' := [vI (8 : Int32), vI x2]) (σ' := σ) 2 rfl trivial ?_
  refine WS.br (P := (8 : Int32) ≤ x2) (a := 21) (b := 8) (S' := []) rfl (fun c1 => ?_) (fun c1 => ?_)
  · refine WS.run (C := []) (pc' := 23) (L' := [vR 45 0, vI x1, vI (0 : Int32)]) (S' := []) (σ' := σ) 2 rfl trivial ?_
    exact (h.1 c1)
  · refine WS.run (C := [vp_in x2 8]) (pc' := 15) (L' := [vR 45 0, vI x1, vI x2]) (S' := []) (σ' := pJ σ 50 0 x2.toNatClampNeg (0 : Int64)) 5 rfl ⟨(h.2 c1).1, trivial⟩ ?_
    obtain ⟨σ1, eσ1⟩ : ∃ z, z = pJ σ 50 0 x2.toNatClampNeg (0 : Int64) := ⟨_, rfl⟩
    rw [← eσ1]
    refine WS.run (C := []) (pc' := 2) (L' := [vR 45 0, vI x1, vI (x2 + (1 : Int32))]) (S' := []) (σ' := σ1) 2 rfl trivial ?_
    exact ((h.2 c1).2 σ1 eσ1)
set_option maxRecDepth 4000 in
set_option maxHeartbeats 400000 in
theorem b_Layer_find_23 {d : Nat} {σ : Mem} {Post : Option AV → Mem → Prop} {x1 x2 : Int32} (h : (((5 : Int32) < x2 → Post (some (vI (-2 : Int32))) σ) ∧ (¬ ((5 : Int32) < x2) → MM d M_Layer_findOfSize [vR 45 0, vI x1, vI x2] σ (fun r τ => WS (d + 1) M_Layer_find 34 [vR 45 0, vI x1, vI x2] (r.toList ++ []) τ Post)))) : WS (d + 1) M_Layer_find 23 [vR 45 0, vI x1, vI x2] [] σ Post := by
  refine WS.run (C := []) (pc' := 25) (L' := [vR 45 0, vI x1, vI x2]) (S' := [vI (5 : Int32), vI x2]) (σ' := σ) 2 rfl trivial ?_
  refine WS.br (P := (5 : Int32) < x2) (a := 50) (b := 28) (S' := []) rfl (fun c2 => ?_) (fun c2 => ?_)
  · refine WS.run (C := []) (pc' := 52) (L' := [vR 45 0, vI x1, vI x2]) (S' := [vI (-2 : Int32)]) (σ' := σ) 1 rfl trivial ?_
    exact WS.ret rfl rfl (by decide) rfl (h.1 c2)
  · refine WS.run (C := []) (pc' := 31) (L' := [vR 45 0, vI x1, vI x2]) (S' := [vI x2, vI x1, vR 45 0]) (σ' := σ) 3 rfl trivial ?_
    refine WS.callV M_Layer_findOfSize (k := 45) (i := 0) (as := [vI x1, vI x2]) (rest := []) rfl lk_2_28 rfl rfl rfl (Nat.le_of_ble_eq_true rfl) ?_
    exact (h.2 c2)
set_option maxRecDepth 4000 in
set_option maxHeartbeats 400000 in
theorem b_Layer_find_34t {d : Nat} {σ : Mem} {Post : Option AV → Mem → Prop} {x1 x2 : Int32} (h : (∀ σ1 : Mem, σ1 = pI σ 45 0 5 x1 → Post (some (vI x2)) σ1)) : WS d M_Layer_find 34 [vR 45 0, vI x1, vI x2] [vI (1 : Int32)] σ Post := by
  refine WS.br (P := (1 : Int32) = 0) (a := 44) (b := 37) (S' := []) rfl (fun cc => absurd cc (by decide)) (fun _ => ?_)
  refine WS.run (C := []) (pc' := 42) (L' := [vR 45 0, vI x1, vI x2]) (S' := []) (σ' := pI σ 45 0 5 x1) 3 rfl trivial ?_
  obtain ⟨σ1, eσ1⟩ : ∃ z, z = pI σ 45 0 5 x1 := ⟨_, rfl⟩
  rw [← eσ1]
  refine WS.run (C := []) (pc' := 43) (L' := [vR 45 0, vI x1, vI x2]) (S' := [vI x2]) (σ' := σ1) 1 rfl trivial ?_
  exact WS.ret rfl rfl (by decide) rfl (h σ1 eσ1)
set_option maxRecDepth 4000 in
set_option maxHeartbeats 400000 in
theorem b_Layer_find_34f {d : Nat} {σ : Mem} {Post : Option AV → Mem → Prop} {x1 x2 : Int32} (h : WS d M_Layer_find 23 [vR 45 0, vI x1, vI (x2 + (1 : Int32))] [] σ Post) : WS d M_Layer_find 34 [vR 45 0, vI x1, vI x2] [vI (0 : Int32)] σ Post := by
  refine WS.br (P := (0 : Int32) = 0) (a := 44) (b := 37) (S' := []) rfl (fun _ => ?_) (fun cc => absurd (by decide) cc)
  refine WS.run (C := []) (pc' := 23) (L' := [vR 45 0, vI x1, vI (x2 + (1 : Int32))]) (S' := []) (σ' := σ) 2 rfl trivial ?_
  exact h
set_option maxRecDepth 4000 in
set_option maxHeartbeats 400000 in
theorem b_Layer_findOfSize_0 {d : Nat} {σ : Mem} {Post : Option AV → Mem → Prop} {x1 x2 : Int32} (h : WS d M_Layer_findOfSize 5 [vR 45 0, vI x1, vI x2, vI (0 : Int32), vI (0 : Int32)] [] σ Post) : WS d M_Layer_findOfSize 0 [vR 45 0, vI x1, vI x2, vU, vU] [] σ Post := by
  refine WS.run (C := []) (pc' := 5) (L' := [vR 45 0, vI x1, vI x2, vI (0 : Int32), vI (0 : Int32)]) (S' := []) (σ' := σ) 4 rfl trivial ?_
  exact h
set_option maxRecDepth 4000 in
set_option maxHeartbeats 400000 in
theorem b_Layer_findOfSize_5 {d : Nat} {σ : Mem} {Post : Option AV → Mem → Prop} {x1 x2 x3 x4 : Int32} (h : (((31 : Int32) < x4 → (x3 = 0 ∨ x3 = 1) ∧ Post (some (vI x3)) σ) ∧ (¬ ((31 : Int32) < x4) → MM d M_JInt_bitCount [vI x4] σ (fun r τ => WS (d + 1) M_Layer_findOfSize 17 [vR 45 0, vI x1, vI x2, vI x3, vI x4] (r.toList ++ []) τ Post)))) : WS (d + 1) M_Layer_findOfSize 5 [vR 45 0, vI x1, vI x2, vI x3, vI x4] [] σ Post := by
  refine WS.run (C := []) (pc' := 9) (L' := [vR 45 0, vI x1, vI x2, vI x3, vI x4]) (S' := [vI (31 : Int32), vI x4]) (σ' := σ) 2 rfl trivial ?_
  refine WS.br (P := (31 : Int32) < x4) (a := 70) (b := 12) (S' := []) rfl (fun c1 => ?_) (fun c1 => ?_)
  · refine WS.run (C := []) (pc' := 71) (L' := [vR 45 0, vI x1, vI x2, vI x3, vI x4]) (S' := [vI x3]) (σ' := σ) 1 rfl trivial ?_
    exact WS.ret rfl rfl (by decide) (nar01 (h.1 c1).1) (h.1 c1).2
  · refine WS.run (C := []) (pc' := 14) (L' := [vR 45 0, vI x1, vI x2, vI x3, vI x4]) (S' := [vI x4]) (σ' := σ) 1 rfl trivial ?_
    refine WS.callS M_JInt_bitCount (as := [vI x4]) (rest := []) rfl lk_2_36 rfl rfl (Nat.le_of_ble_eq_true rfl) ?_
    exact (h.2 c1)
set_option maxRecDepth 4000 in
set_option maxHeartbeats 400000 in
theorem b_Layer_findOfSize_17 {d : Nat} {σ : Mem} {Post : Option AV → Mem → Prop} {x1 x2 x3 x4 sx0 : Int32} (h : ((sx0 = x2 → MM d M_Layer_openAll [vI x1, vI x4] σ (fun r τ => WS (d + 1) M_Layer_findOfSize 30 [vR 45 0, vI x1, vI x2, vI x3, vI x4] (r.toList ++ [vI x1, vI (0 : Int32), vR 45 0]) τ Post)) ∧ (¬ (sx0 = x2) → WS (d + 1) M_Layer_findOfSize 5 [vR 45 0, vI x1, vI x2, vI x3, vI (x4 + (1 : Int32))] [] σ Post))) : WS (d + 1) M_Layer_findOfSize 17 [vR 45 0, vI x1, vI x2, vI x3, vI x4] [vI sx0] σ Post := by
  refine WS.run (C := []) (pc' := 18) (L' := [vR 45 0, vI x1, vI x2, vI x3, vI x4]) (S' := [vI x2, vI sx0]) (σ' := σ) 1 rfl trivial ?_
  refine WS.br (P := sx0 = x2) (a := 21) (b := 64) (S' := []) rfl (fun c2 => ?_) (fun c2 => ?_)
  · refine WS.run (C := []) (pc' := 27) (L' := [vR 45 0, vI x1, vI x2, vI x3, vI x4]) (S' := [vI x4, vI x1, vI x1, vI (0 : Int32), vR 45 0]) (σ' := σ) 5 rfl trivial ?_
    refine WS.callS M_Layer_openAll (as := [vI x1, vI x4]) (rest := [vI x1, vI (0 : Int32), vR 45 0]) rfl lk_2_42 rfl rfl (Nat.le_of_ble_eq_true rfl) ?_
    exact (h.1 c2)
  · refine WS.run (C := []) (pc' := 5) (L' := [vR 45 0, vI x1, vI x2, vI x3, vI (x4 + (1 : Int32))]) (S' := []) (σ' := σ) 2 rfl trivial ?_
    exact (h.2 c2)
set_option maxRecDepth 4000 in
set_option maxHeartbeats 400000 in
theorem b_Layer_findOfSize_30 {d : Nat} {σ : Mem} {Post : Option AV → Mem → Prop} {x1 x2 x3 x4 sx1 sx2 : Int32} {sy0 : Int64} (h : MM d M_Layer_descend [vR 45 0, vI sx2, vI sx1, vJ sy0] σ (fun r τ => WS (d + 1) M_Layer_findOfSize 33 [vR 45 0, vI x1, vI x2, vI x3, vI x4] (r.toList ++ []) τ Post)) : WS (d + 1) M_Layer_findOfSize 30 [vR 45 0, vI x1, vI x2, vI x3, vI x4] [vJ sy0, vI sx1, vI sx2, vR 45 0] σ Post := by
  refine WS.callS M_Layer_descend (as := [vR 45 0, vI sx2, vI sx1, vJ sy0]) (rest := []) rfl lk_2_46 rfl rfl (Nat.le_of_ble_eq_true rfl) ?_
  exact h
set_option maxRecDepth 4000 in
set_option maxHeartbeats 400000 in
theorem b_Layer_findOfSize_33t {d : Nat} {σ : Mem} {Post : Option AV → Mem → Prop} {x1 x2 x3 x4 : Int32} (h : ((x3 = 0 → ¬ x1 < 0 ∧ (0 : Int32).toNatClampNeg + x1.toNatClampNeg ≤ 8 ∧ (0 : Int32).toNatClampNeg + x1.toNatClampNeg ≤ 8 ∧ ∀ σ1 : Mem, σ1 = pC σ 48 0 49 0 (0 : Int32).toNatClampNeg (0 : Int32).toNatClampNeg x1.toNatClampNeg → WS (d + 1) M_Layer_findOfSize 5 [vR 45 0, vI x1, vI x2, vI (1 : Int32), vI (x4 + (1 : Int32))] [] σ1 Post) ∧ (¬ (x3 = 0) → MM d M_Layer_isTrialLess [vR 45 0, vI x1] σ (fun r τ => WS (d + 1) M_Layer_findOfSize 45 [vR 45 0, vI x1, vI x2, vI x3, vI x4] (r.toList ++ []) τ Post)))) : WS (d + 1) M_Layer_findOfSize 33 [vR 45 0, vI x1, vI x2, vI x3, vI x4] [vI (1 : Int32)] σ Post := by
  refine WS.br (P := (1 : Int32) = 0) (a := 64) (b := 36) (S' := []) rfl (fun cc => absurd cc (by decide)) (fun _ => ?_)
  refine WS.run (C := []) (pc' := 37) (L' := [vR 45 0, vI x1, vI x2, vI x3, vI x4]) (S' := [vI x3]) (σ' := σ) 1 rfl trivial ?_
  refine WS.br (P := x3 = 0) (a := 48) (b := 40) (S' := []) rfl (fun c3 => ?_) (fun c3 => ?_)
  · refine WS.run (C := []) (pc' := 59) (L' := [vR 45 0, vI x1, vI x2, vI x3, vI x4]) (S' := [vI x1, vI (0 : Int32), vR 49 0, vI (0 : Int32), vR 48 0]) (σ' := σ) 7 rfl trivial ?_
    refine WS.copy (n0 := 8) (n1 := 8) rfl lkc_2_54 (Nat.le_of_ble_eq_true rfl) rfl rfl (by decide) (by decide) (h.1 c3).1 (h.1 c3).2.1 (h.1 c3).2.2.1 ?_
    obtain ⟨σ1, eσ1⟩ : ∃ z, z = pC σ 48 0 49 0 (0 : Int32).toNatClampNeg (0 : Int32).toNatClampNeg x1.toNatClampNeg := ⟨_, rfl⟩
    rw [← eσ1]
    refine WS.run (C := []) (pc' := 5) (L' := [vR 45 0, vI x1, vI x2, vI (1 : Int32), vI (x4 + (1 : Int32))]) (S' := []) (σ' := σ1) 4 rfl trivial ?_
    exact ((h.1 c3).2.2.2 σ1 eσ1)
  · refine WS.run (C := []) (pc' := 42) (L' := [vR 45 0, vI x1, vI x2, vI x3, vI x4]) (S' := [vI x1, vR 45 0]) (σ' := σ) 2 rfl trivial ?_
    refine WS.callV M_Layer_isTrialLess (k := 45) (i := 0) (as := [vI x1]) (rest := []) rfl lk_2_50 rfl rfl rfl (Nat.le_of_ble_eq_true rfl) ?_
    exact (h.2 c3)
set_option maxRecDepth 4000 in
set_option maxHeartbeats 400000 in
theorem b_Layer_findOfSize_33f {d : Nat} {σ : Mem} {Post : Option AV → Mem → Prop} {x1 x2 x3 x4 : Int32} (h : WS d M_Layer_findOfSize 5 [vR 45 0, vI x1, vI x2, vI x3, vI (x4 + (1 : Int32))] [] σ Post) : WS d M_Layer_findOfSize 33 [vR 45 0, vI x1, vI x2, vI x3, vI x4] [vI (0 : Int32)] σ Post := by
  refine WS.br (P := (0 : Int32) = 0) (a := 64) (b := 36) (S' := []) rfl (fun _ => ?_) (fun cc => absurd (by decide) cc)
  refine WS.run (C := []) (pc' := 5) (L' := [vR 45 0, vI x1, vI x2, vI x3, vI (x4 + (1 : Int32))]) (S' := []) (σ' := σ) 2 rfl trivial ?_
  exact h
set_option maxRecDepth 4000 in
set_option maxHeartbeats 400000 in
theorem b_Layer_findOfSize_45t {d : Nat} {σ : Mem} {Post : Option AV → Mem → Prop} {x1 x2 x3 x4 : Int32} (h : ¬ x1 < 0 ∧ (0 : Int32).toNatClampNeg + x1.toNatClampNeg ≤ 8 ∧ (0 : Int32).toNatClampNeg + x1.toNatClampNeg ≤ 8 ∧ ∀ σ1 : Mem, σ1 = pC σ 48 0 49 0 (0 : Int32).toNatClampNeg (0 : Int32).toNatClampNeg x1.toNatClampNeg → WS (d + 1) M_Layer_findOfSize 5 [vR 45 0, vI x1, vI x2, vI (1 : Int32), vI (x4 + (1 : Int32))] [] σ1 Post) : WS (d + 1) M_Layer_findOfSize 45 [vR 45 0, vI x1, vI x2, vI x3, vI x4] [vI (1 : Int32)] σ Post := by
  refine WS.br (P := (1 : Int32) = 0) (a := 64) (b := 48) (S' := []) rfl (fun cc => absurd cc (by decide)) (fun _ => ?_)
  refine WS.run (C := []) (pc' := 59) (L' := [vR 45 0, vI x1, vI x2, vI x3, vI x4]) (S' := [vI x1, vI (0 : Int32), vR 49 0, vI (0 : Int32), vR 48 0]) (σ' := σ) 7 rfl trivial ?_
  refine WS.copy (n0 := 8) (n1 := 8) rfl lkc_2_54 (Nat.le_of_ble_eq_true rfl) rfl rfl (by decide) (by decide) h.1 h.2.1 h.2.2.1 ?_
  obtain ⟨σ1, eσ1⟩ : ∃ z, z = pC σ 48 0 49 0 (0 : Int32).toNatClampNeg (0 : Int32).toNatClampNeg x1.toNatClampNeg := ⟨_, rfl⟩
  rw [← eσ1]
  refine WS.run (C := []) (pc' := 5) (L' := [vR 45 0, vI x1, vI x2, vI (1 : Int32), vI (x4 + (1 : Int32))]) (S' := []) (σ' := σ1) 4 rfl trivial ?_
  exact (h.2.2.2 σ1 eσ1)
set_option maxRecDepth 4000 in
set_option maxHeartbeats 400000 in
theorem b_Layer_findOfSize_45f {d : Nat} {σ : Mem} {Post : Option AV → Mem → Prop} {x1 x2 x3 x4 : Int32} (h : WS d M_Layer_findOfSize 5 [vR 45 0, vI x1, vI x2, vI x3, vI (x4 + (1 : Int32))] [] σ Post) : WS d M_Layer_findOfSize 45 [vR 45 0, vI x1, vI x2, vI x3, vI x4] [vI (0 : Int32)] σ Post := by
  refine WS.br (P := (0 : Int32) = 0) (a := 64) (b := 48) (S' := []) rfl (fun _ => ?_) (fun cc => absurd (by decide) cc)
  refine WS.run (C := []) (pc' := 5) (L' := [vR 45 0, vI x1, vI x2, vI x3, vI (x4 + (1 : Int32))]) (S' := []) (σ' := σ) 2 rfl trivial ?_
  exact h
set_option maxRecDepth 4000 in
set_option maxHeartbeats 400000 in
theorem b_Layer_isTrialLess_0 {d : Nat} {σ : Mem} {Post : Option AV → Mem → Prop} {x1 : Int32} (h : WS d M_Layer_isTrialLess 2 [vR 45 0, vI x1, vI (0 : Int32)] [] σ Post) : WS d M_Layer_isTrialLess 0 [vR 45 0, vI x1, vU] [] σ Post := by
  refine WS.run (C := []) (pc' := 2) (L' := [vR 45 0, vI x1, vI (0 : Int32)]) (S' := []) (σ' := σ) 2 rfl trivial ?_
  exact h
set_option maxRecDepth 4000 in
set_option maxHeartbeats 400000 in
theorem b_Layer_isTrialLess_2 {d : Nat} {σ : Mem} {Post : Option AV → Mem → Prop} {x1 x2 : Int32} (h : ((x1 ≤ x2 → Post (some (vI (0 : Int32))) σ) ∧ (¬ (x1 ≤ x2) → vp_in x2 8 ∧ vp_in x2 8 ∧ (((gI σ 48 0 x2.toNatClampNeg) = (gI σ 49 0 x2.toNatClampNeg) → WS d M_Layer_isTrialLess 2 [vR 45 0, vI x1, vI (x2 + (1 : Int32))] [] σ Post) ∧ (¬ ((gI σ 48 0 x2.toNatClampNeg) = (gI σ 49 0 x2.toNatClampNeg)) → vp_in x2 8 ∧ vp_in x2 8 ∧ (((gI σ 49 0 x2.toNatClampNeg) ≤ (gI σ 48 0 x2.toNatClampNeg) → Post (some (vI (0 : Int32))) σ) ∧ (¬ ((gI σ 49 0 x2.toNatClampNeg) ≤ (gI σ 48 0 x2.toNatClampNeg)) → Post (some (vI (1 : Int32))) σ))))))) : WS d M_Layer_isTrialLess 2 [vR 45 0, vI x1, vI x2] [] σ Post := by
  refine WS.run (C := []) (pc' := 4) (L' := [vR 45 0, vI x1, vI x2]) (S' := [vI x1, vI x2]) (σ' := σ) 2 rfl trivial ?_
  refine WS.br (P := x1 ≤ x2) (a := 49) (b := 7) (S' := []) rfl (fun c1 => ?_) (fun c1 => ?_)
  · refine WS.run (C := []) (pc' := 50) (L' := [vR 45 0, vI x1, vI x2]) (S' := [vI (0 : Int32)]) (σ' := σ) 1 rfl trivial ?_
    exact WS.ret rfl rfl (by decide) rfl (h.1 c1)
  · refine WS.run (C := [vp_in x2 8, vp_in x2 8]) (pc' := 19) (L' := [vR 45 0, vI x1, vI x2]) (S' := [vI (gI σ 49 0 x2.toNatClampNeg), vI (gI σ 48 0 x2.toNatClampNeg)]) (σ' := σ) 8 rfl ⟨(h.2 c1).1, (h.2 c1).2.1, trivial⟩ ?_
    refine WS.br (P := (gI σ 48 0 x2.toNatClampNeg) = (gI σ 49 0 x2.toNatClampNeg)) (a := 43) (b := 22) (S' := []) rfl (fun c2 => ?_) (fun c2 => ?_)
    · refine WS.run (C := []) (pc' := 2) (L' := [vR 45 0, vI x1, vI (x2 + (1 : Int32))]) (S' := []) (σ' := σ) 2 rfl trivial ?_
      exact ((h.2 c1).2.2.1 c2)
    · refine WS.run (C := [vp_in x2 8, vp_in x2 8]) (pc' := 34) (L' := [vR 45 0, vI x1, vI x2]) (S' := [vI (gI σ 49 0 x2.toNatClampNeg), vI (gI σ 48 0 x2.toNatClampNeg)]) (σ' := σ) 8 rfl ⟨((h.2 c1).2.2.2 c2).1, ((h.2 c1).2.2.2 c2).2.1, trivial⟩ ?_
      refine WS.br (P := (gI σ 49 0 x2.toNatClampNeg) ≤ (gI σ 48 0 x2.toNatClampNeg)) (a := 41) (b := 37) (S' := []) rfl (fun c3 => ?_) (fun c3 => ?_)
      · refine WS.run (C := []) (pc' := 42) (L' := [vR 45 0, vI x1, vI x2]) (S' := [vI (0 : Int32)]) (σ' := σ) 1 rfl trivial ?_
        exact WS.ret rfl rfl (by decide) rfl (((h.2 c1).2.2.2 c2).2.2.1 c3)
      · refine WS.run (C := []) (pc' := 42) (L' := [vR 45 0, vI x1, vI x2]) (S' := [vI (1 : Int32)]) (σ' := σ) 2 rfl trivial ?_
        exact WS.ret rfl rfl (by decide) rfl (((h.2 c1).2.2.2 c2).2.2.2 c3)
set_option maxRecDepth 4000 in
set_option maxHeartbeats 400000 in
theorem b_Layer_openAll_0 {d : Nat} {σ : Mem} {Post : Option AV → Mem → Prop} {x0 x1 : Int32} (h : WS d M_Layer_openAll 5 [vI x0, vI x1, vJ (0 : Int64), vU, vI (0 : Int32)] [] σ Post) : WS d M_Layer_openAll 0 [vI x0, vI x1, vU, vU, vU] [] σ Post := by
  refine WS.run (C := []) (pc' := 5) (L' := [vI x0, vI x1, vJ (0 : Int64), vU, vI (0 : Int32)]) (S' := []) (σ' := σ) 4 rfl trivial ?_
  exact h
set_option maxRecDepth 4000 in
set_option maxHeartbeats 400000 in
theorem b_Layer_openAll_5 {d : Nat} {σ : Mem} {Post : Option AV → Mem → Prop} {x0 x1 x4 : Int32} {y2 : Int64} (h : ((x0 ≤ x4 → Post (some (vJ y2)) σ) ∧ (¬ (x0 ≤ x4) → WS d M_Layer_openAll 5 [vI x0, vI x1, vJ (y2 ||| (x1.toInt64 <<< ((x4 * (5 : Int32)).toInt64 &&& 63))), vU, vI (x4 + (1 : Int32))] [] σ Post))) : WS d M_Layer_openAll 5 [vI x0, vI x1, vJ y2, vU, vI x4] [] σ Post := by
  refine WS.run (C := []) (pc' := 8) (L' := [vI x0, vI x1, vJ y2, vU, vI x4]) (S' := [vI x0, vI x4]) (σ' := σ) 2 rfl trivial ?_
  refine WS.br (P := x0 ≤ x4) (a := 27) (b := 11) (S' := []) rfl (fun c1 => ?_) (fun c1 => ?_)
  · refine WS.run (C := []) (pc' := 28) (L' := [vI x0, vI x1, vJ y2, vU, vI x4]) (S' := [vJ y2]) (σ' := σ) 1 rfl trivial ?_
    exact WS.lret rfl rfl (h.1 c1)
  · refine WS.run (C := []) (pc' := 5) (L' := [vI x0, vI x1, vJ (y2 ||| (x1.toInt64 <<< ((x4 * (5 : Int32)).toInt64 &&& 63))), vU, vI (x4 + (1 : Int32))]) (S' := []) (σ' := σ) 11 rfl trivial ?_
    exact (h.2 c1)
set_option maxRecDepth 4000 in
set_option maxHeartbeats 400000 in
theorem b_Layer_descend_0 {d : Nat} {σ : Mem} {Post : Option AV → Mem → Prop} {x1 x2 : Int32} {y3 : Int64} (h : ((x1 < x2 → vp_in x1 8 ∧ (((lg_cmp (y3 &&& ((gJ σ 50 0 x1.toNatClampNeg) ^^^ (-1 : Int64))) (0 : Int64)) = 0 → Post (some (vI (0 : Int32))) σ) ∧ (¬ ((lg_cmp (y3 &&& ((gJ σ 50 0 x1.toNatClampNeg) ^^^ (-1 : Int64))) (0 : Int64)) = 0) → WS d M_Layer_descend 29 [vR 45 0, vI x1, vI x2, vJ y3, vU, vI (0 : Int32)] [] σ Post))) ∧ (¬ (x1 < x2) → Post (some (vI (1 : Int32))) σ))) : WS d M_Layer_descend 0 [vR 45 0, vI x1, vI x2, vJ y3, vU, vU] [] σ Post := by
  refine WS.run (C := []) (pc' := 2) (L' := [vR 45 0, vI x1, vI x2, vJ y3, vU, vU]) (S' := [vI x2, vI x1]) (σ' := σ) 2 rfl trivial ?_
  refine WS.br (P := x1 < x2) (a := 7) (b := 5) (S' := []) rfl (fun c1 => ?_) (fun c1 => ?_)
  · refine WS.run (C := [vp_in x1 8]) (pc' := 21) (L' := [vR 45 0, vI x1, vI x2, vJ y3, vU, vU]) (S' := [vI (lg_cmp (y3 &&& ((gJ σ 50 0 x1.toNatClampNeg) ^^^ (-1 : Int64))) (0 : Int64))]) (σ' := σ) 10 rfl ⟨(h.1 c1).1, trivial⟩ ?_
    refine WS.br (P := (lg_cmp (y3 &&& ((gJ σ 50 0 x1.toNatClampNeg) ^^^ (-1 : Int64))) (0 : Int64)) = 0) (a := 24) (b := 26) (S' := []) rfl (fun c2 => ?_) (fun c2 => ?_)
    · refine WS.run (C := []) (pc' := 25) (L' := [vR 45 0, vI x1, vI x2, vJ y3, vU, vU]) (S' := [vI (0 : Int32)]) (σ' := σ) 1 rfl trivial ?_
      exact WS.ret rfl rfl (by decide) rfl ((h.1 c1).2.1 c2)
    · refine WS.run (C := []) (pc' := 29) (L' := [vR 45 0, vI x1, vI x2, vJ y3, vU, vI (0 : Int32)]) (S' := []) (σ' := σ) 2 rfl trivial ?_
      exact ((h.1 c1).2.2 c2)
  · refine WS.run (C := []) (pc' := 6) (L' := [vR 45 0, vI x1, vI x2, vJ y3, vU, vU]) (S' := [vI (1 : Int32)]) (σ' := σ) 1 rfl trivial ?_
    exact WS.ret rfl rfl (by decide) rfl (h.2 c1)
set_option maxRecDepth 4000 in
set_option maxHeartbeats 400000 in
theorem b_Layer_descend_29 {d : Nat} {σ : Mem} {Post : Option AV → Mem → Prop} {x1 x2 x5 : Int32} {y3 : Int64} (h : (((5 : Int32) ≤ x5 → vp_in x1 8 ∧ (∀ σ1 : Mem, σ1 = pJ σ 50 0 x1.toNatClampNeg y3 → Post (some (vI (0 : Int32))) σ1)) ∧ (¬ ((5 : Int32) ≤ x5) → (((lg_cmp (((y3.toUInt64 >>> (((x1 * (5 : Int32)) + x5).toInt64.toUInt64 &&& Int64.toUInt64 63)).toInt64) &&& (1 : Int64)) (1 : Int64)) = 0 → vp_in x1 8 ∧ (∀ σ2 : Mem, σ2 = pI σ 48 0 x1.toNatClampNeg x5 → MM d M_Layer_narrow [vR 45 0, vI x1, vI x5, vI x2, vJ y3] σ2 (fun r τ => WS (d + 1) M_Layer_descend 72 [vR 45 0, vI x1, vI x2, vJ y3, vU, vI x5] (r.toList ++ [vI x2, vI (x1 + (1 : Int32)), vR 45 0]) τ Post))) ∧ (¬ ((lg_cmp (((y3.toUInt64 >>> (((x1 * (5 : Int32)) + x5).toInt64.toUInt64 &&& Int64.toUInt64 63)).toInt64) &&& (1 : Int64)) (1 : Int64)) = 0) → WS (d + 1) M_Layer_descend 29 [vR 45 0, vI x1, vI x2, vJ y3, vU, vI (x5 + (1 : Int32))] [] σ Post))))) : WS (d + 1) M_Layer_descend 29 [vR 45 0, vI x1, vI x2, vJ y3, vU, vI x5] [] σ Post := by
  refine WS.run (C := []) (pc' := 32) (L' := [vR 45 0, vI x1, vI x2, vJ y3, vU, vI x5]) (S' := [vI (5 : Int32), vI x5]) (σ' := σ) 2 rfl trivial ?_
  refine WS.br (P := (5 : Int32) ≤ x5) (a := 86) (b := 35) (S' := []) rfl (fun c3 => ?_) (fun c3 => ?_)
  · refine WS.run (C := [vp_in x1 8]) (pc' := 93) (L' := [vR 45 0, vI x1, vI x2, vJ y3, vU, vI x5]) (S' := []) (σ' := pJ σ 50 0 x1.toNatClampNeg y3) 5 rfl ⟨(h.1 c3).1, trivial⟩ ?_
    obtain ⟨σ1, eσ1⟩ : ∃ z, z = pJ σ 50 0 x1.toNatClampNeg y3 := ⟨_, rfl⟩
    rw [← eσ1]
    refine WS.run (C := []) (pc' := 94) (L' := [vR 45 0, vI x1, vI x2, vJ y3, vU, vI x5]) (S' := [vI (0 : Int32)]) (σ' := σ1) 1 rfl trivial ?_
    exact WS.ret rfl rfl (by decide) rfl ((h.1 c3).2 σ1 eσ1)
  · refine WS.run (C := []) (pc' := 47) (L' := [vR 45 0, vI x1, vI x2, vJ y3, vU, vI x5]) (S' := [vI (lg_cmp (((y3.toUInt64 >>> (((x1 * (5 : Int32)) + x5).toInt64.toUInt64 &&& Int64.toUInt64 63)).toInt64) &&& (1 : Int64)) (1 : Int64))]) (σ' := σ) 11 rfl trivial ?_
    refine WS.br (P := (lg_cmp (((y3.toUInt64 >>> (((x1 * (5 : Int32)) + x5).toInt64.toUInt64 &&& Int64.toUInt64 63)).toInt64) &&& (1 : Int64)) (1 : Int64)) = 0) (a := 50) (b := 80) (S' := []) rfl (fun c4 => ?_) (fun c4 => ?_)
    · refine WS.run (C := [vp_in x1 8]) (pc' := 58) (L' := [vR 45 0, vI x1, vI x2, vJ y3, vU, vI x5]) (S' := []) (σ' := pI σ 48 0 x1.toNatClampNeg x5) 5 rfl ⟨((h.2 c3).1 c4).1, trivial⟩ ?_
      obtain ⟨σ2, eσ2⟩ : ∃ z, z = pI σ 48 0 x1.toNatClampNeg x5 := ⟨_, rfl⟩
      rw [← eσ2]
      refine WS.run (C := []) (pc' := 69) (L' := [vR 45 0, vI x1, vI x2, vJ y3, vU, vI x5]) (S' := [vJ y3, vI x2, vI x5, vI x1, vR 45 0, vI x2, vI (x1 + (1 : Int32)), vR 45 0]) (σ' := σ2) 10 rfl trivial ?_
      refine WS.callV M_Layer_narrow (k := 45) (i := 0) (as := [vI x1, vI x5, vI x2, vJ y3]) (rest := [vI x2, vI (x1 + (1 : Int32)), vR 45 0]) rfl lk_2_62 rfl rfl rfl (Nat.le_of_ble_eq_true rfl) ?_
      exact (((h.2 c3).1 c4).2 σ2 eσ2)
    · refine WS.run (C := []) (pc' := 29) (L' := [vR 45 0, vI x1, vI x2, vJ y3, vU, vI (x5 + (1 : Int32))]) (S' := []) (σ' := σ) 2 rfl trivial ?_
      exact ((h.2 c3).2 c4)
set_option maxRecDepth 4000 in
set_option maxHeartbeats 400000 in
theorem b_Layer_descend_72 {d : Nat} {σ : Mem} {Post : Option AV → Mem → Prop} {x1 x2 x5 sx1 sx2 : Int32} {y3 sy0 : Int64} (h : MM d M_Layer_descend [vR 45 0, vI sx2, vI sx1, vJ sy0] σ (fun r τ => WS (d + 1) M_Layer_descend 75 [vR 45 0, vI x1, vI x2, vJ y3, vU, vI x5] (r.toList ++ []) τ Post)) : WS (d + 1) M_Layer_descend 72 [vR 45 0, vI x1, vI x2, vJ y3, vU, vI x5] [vJ sy0, vI sx1, vI sx2, vR 45 0] σ Post := by
  refine WS.callS M_Layer_descend (as := [vR 45 0, vI sx2, vI sx1, vJ sy0]) (rest := []) rfl lk_2_46 rfl rfl (Nat.le_of_ble_eq_true rfl) ?_
  exact h
set_option maxRecDepth 4000 in
set_option maxHeartbeats 400000 in
theorem b_Layer_descend_75t {d : Nat} {σ : Mem} {Post : Option AV → Mem → Prop} {x1 x2 x5 : Int32} {y3 : Int64} (h : Post (some (vI (1 : Int32))) σ) : WS d M_Layer_descend 75 [vR 45 0, vI x1, vI x2, vJ y3, vU, vI x5] [vI (1 : Int32)] σ Post := by
  refine WS.br (P := (1 : Int32) = 0) (a := 80) (b := 78) (S' := []) rfl (fun cc => absurd cc (by decide)) (fun _ => ?_)
  refine WS.run (C := []) (pc' := 79) (L' := [vR 45 0, vI x1, vI x2, vJ y3, vU, vI x5]) (S' := [vI (1 : Int32)]) (σ' := σ) 1 rfl trivial ?_
  exact WS.ret rfl rfl (by decide) rfl h
set_option maxRecDepth 4000 in
set_option maxHeartbeats 400000 in
theorem b_Layer_descend_75f {d : Nat} {σ : Mem} {Post : Option AV → Mem → Prop} {x1 x2 x5 : Int32} {y3 : Int64} (h : WS d M_Layer_descend 29 [vR 45 0, vI x1, vI x2, vJ y3, vU, vI (x5 + (1 : Int32))] [] σ Post) : WS d M_Layer_descend 75 [vR 45 0, vI x1, vI x2, vJ y3, vU, vI x5] [vI (0 : Int32)] σ Post := by
  refine WS.br (P := (0 : Int32) = 0) (a := 80) (b := 78) (S' := []) rfl (fun _ => ?_) (fun cc => absurd (by decide) cc)
  refine WS.run (C := []) (pc' := 29) (L' := [vR 45 0, vI x1, vI x2, vJ y3, vU, vI (x5 + (1 : Int32))]) (S' := []) (σ' := σ) 2 rfl trivial ?_
  exact h
set_option maxRecDepth 4000 in
set_option maxHeartbeats 400000 in
theorem b_Layer_narrow_0 {d : Nat} {σ : Mem} {Post : Option AV → Mem → Prop} {x1 x2 x3 : Int32} {y4 : Int64} (h : WS d M_Layer_narrow 21 [vR 45 0, vI x1, vI x2, vI x3, vJ y4, vU, vJ (y4 &&& (((31 : Int64) <<< ((x1 * (5 : Int32)).toInt64 &&& 63)) ^^^ (-1 : Int64))), vU, vI (x1 + (1 : Int32))] [] σ Post) : WS d M_Layer_narrow 0 [vR 45 0, vI x1, vI x2, vI x3, vJ y4, vU, vU, vU, vU] [] σ Post := by
  refine WS.run (C := []) (pc' := 21) (L' := [vR 45 0, vI x1, vI x2, vI x3, vJ y4, vU, vJ (y4 &&& (((31 : Int64) <<< ((x1 * (5 : Int32)).toInt64 &&& 63)) ^^^ (-1 : Int64))), vU, vI (x1 + (1 : Int32))]) (S' := []) (σ' := σ) 14 rfl trivial ?_
  exact h
set_option maxRecDepth 4000 in
set_option maxHeartbeats 400000 in
theorem b_Layer_narrow_21 {d : Nat} {σ : Mem} {Post : Option AV → Mem → Prop} {x1 x2 x3 x8 : Int32} {y4 y6 : Int64} (h : ((x3 ≤ x8 → Post (some (vJ y6)) σ) ∧ (¬ (x3 ≤ x8) → vp_in x1 8 ∧ ((((((gI σ 46 0 x1.toNatClampNeg).toUInt32 >>> (x8.toUInt32 &&& Int32.toUInt32 31)).toInt32) &&& (1 : Int32)) = (1 : Int32) → vp_in x2 5 ∧ WS d M_Layer_narrow 21 [vR 45 0, vI x1, vI x2, vI x3, vJ y4, vU, vJ (y6 &&& (((((31 : Int32) &&& ((gI σ 47 0 x2.toNatClampNeg) ^^^ (-1 : Int32))).toInt64) <<< ((x8 * (5 : Int32)).toInt64 &&& 63)) ^^^ (-1 : Int64))), vU, vI (x8 + (1 : Int32))] [] σ Post) ∧ (¬ (((((gI σ 46 0 x1.toNatClampNeg).toUInt32 >>> (x8.toUInt32 &&& Int32.toUInt32 31)).toInt32) &&& (1 : Int32)) = (1 : Int32)) → WS d M_Layer_narrow 21 [vR 45 0, vI x1, vI x2, vI x3, vJ y4, vU, vJ y6, vU, vI (x8 + (1 : Int32))] [] σ Post))))) : WS d M_Layer_narrow 21 [vR 45 0, vI x1, vI x2, vI x3, vJ y4, vU, vJ y6, vU, vI x8] [] σ Post := by
  refine WS.run (C := []) (pc' := 24) (L' := [vR 45 0, vI x1, vI x2, vI x3, vJ y4, vU, vJ y6, vU, vI x8]) (S' := [vI x3, vI x8]) (σ' := σ) 2 rfl trivial ?_
  refine WS.br (P := x3 ≤ x8) (a := 74) (b := 27) (S' := []) rfl (fun c1 => ?_) (fun c1 => ?_)
  · refine WS.run (C := []) (pc' := 76) (L' := [vR 45 0, vI x1, vI x2, vI x3, vJ y4, vU, vJ y6, vU, vI x8]) (S' := [vJ y6]) (σ' := σ) 1 rfl trivial ?_
    exact WS.lret rfl rfl (h.1 c1)
  · refine WS.run (C := [vp_in x1 8]) (pc' := 39) (L' := [vR 45 0, vI x1, vI x2, vI x3, vJ y4, vU, vJ y6, vU, vI x8]) (S' := [vI (1 : Int32), vI ((((gI σ 46 0 x1.toNatClampNeg).toUInt32 >>> (x8.toUInt32 &&& Int32.toUInt32 31)).toInt32) &&& (1 : Int32))]) (σ' := σ) 9 rfl ⟨(h.2 c1).1, trivial⟩ ?_
    refine WS.br (P := ((((gI σ 46 0 x1.toNatClampNeg).toUInt32 >>> (x8.toUInt32 &&& Int32.toUInt32 31)).toInt32) &&& (1 : Int32)) = (1 : Int32)) (a := 42) (b := 68) (S' := []) rfl (fun c2 => ?_) (fun c2 => ?_)
    · refine WS.run (C := [vp_in x2 5]) (pc' := 21) (L' := [vR 45 0, vI x1, vI x2, vI x3, vJ y4, vU, vJ (y6 &&& (((((31 : Int32) &&& ((gI σ 47 0 x2.toNatClampNeg) ^^^ (-1 : Int32))).toInt64) <<< ((x8 * (5 : Int32)).toInt64 &&& 63)) ^^^ (-1 : Int64))), vU, vI (x8 + (1 : Int32))]) (S' := []) (σ' := σ) 20 rfl ⟨((h.2 c1).2.1 c2).1, trivial⟩ ?_
      exact ((h.2 c1).2.1 c2).2
    · refine WS.run (C := []) (pc' := 21) (L' := [vR 45 0, vI x1, vI x2, vI x3, vJ y4, vU, vJ y6, vU, vI (x8 + (1 : Int32))]) (S' := []) (σ' := σ) 2 rfl trivial ?_
      exact ((h.2 c1).2.2 c2)
set_option maxRecDepth 4000 in
set_option maxHeartbeats 400000 in
theorem b_JInt_bitCount_0 {d : Nat} {σ : Mem} {Post : Option AV → Mem → Prop} {x0 : Int32} (h : Post (some (vI ((((((((x0 - (((x0.toUInt32 >>> ((1 : Int32).toUInt32 &&& Int32.toUInt32 31)).toInt32) &&& (1431655765 : Int32))) &&& (858993459 : Int32)) + ((((x0 - (((x0.toUInt32 >>> ((1 : Int32).toUInt32 &&& Int32.toUInt32 31)).toInt32) &&& (1431655765 : Int32))).toUInt32 >>> ((2 : Int32).toUInt32 &&& Int32.toUInt32 31)).toInt32) &&& (858993459 : Int32))) + (((((x0 - (((x0.toUInt32 >>> ((1 : Int32).toUInt32 &&& Int32.toUInt32 31)).toInt32) &&& (1431655765 : Int32))) &&& (858993459 : Int32)) + ((((x0 - (((x0.toUInt32 >>> ((1 : Int32).toUInt32 &&& Int32.toUInt32 31)).toInt32) &&& (1431655765 : Int32))).toUInt32 >>> ((2 : Int32).toUInt32 &&& Int32.toUInt32 31)).toInt32) &&& (858993459 : Int32))).toUInt32 >>> ((4 : Int32).toUInt32 &&& Int32.toUInt32 31)).toInt32)) &&& (252645135 : Int32)) + (((((((x0 - (((x0.toUInt32 >>> ((1 : Int32).toUInt32 &&& Int32.toUInt32 31)).toInt32) &&& (1431655765 : Int32))) &&& (858993459 : Int32)) + ((((x0 - (((x0.toUInt32 >>> ((1 : Int32).toUInt32 &&& Int32.toUInt32 31)).toInt32) &&& (1431655765 : Int32))).toUInt32 >>> ((2 : Int32).toUInt32 &&& Int32.toUInt32 31)).toInt32) &&& (858993459 : Int32))) + (((((x0 - (((x0.toUInt32 >>> ((1 : Int32).toUInt32 &&& Int32.toUInt32 31)).toInt32) &&& (1431655765 : Int32))) &&& (858993459 : Int32)) + ((((x0 - (((x0.toUInt32 >>> ((1 : Int32).toUInt32 &&& Int32.toUInt32 31)).toInt32) &&& (1431655765 : Int32))).toUInt32 >>> ((2 : Int32).toUInt32 &&& Int32.toUInt32 31)).toInt32) &&& (858993459 : Int32))).toUInt32 >>> ((4 : Int32).toUInt32 &&& Int32.toUInt32 31)).toInt32)) &&& (252645135 : Int32)).toUInt32 >>> ((8 : Int32).toUInt32 &&& Int32.toUInt32 31)).toInt32)) + ((((((((x0 - (((x0.toUInt32 >>> ((1 : Int32).toUInt32 &&& Int32.toUInt32 31)).toInt32) &&& (1431655765 : Int32))) &&& (858993459 : Int32)) + ((((x0 - (((x0.toUInt32 >>> ((1 : Int32).toUInt32 &&& Int32.toUInt32 31)).toInt32) &&& (1431655765 : Int32))).toUInt32 >>> ((2 : Int32).toUInt32 &&& Int32.toUInt32 31)).toInt32) &&& (858993459 : Int32))) + (((((x0 - (((x0.toUInt32 >>> ((1 : Int32).toUInt32 &&& Int32.toUInt32 31)).toInt32) &&& (1431655765 : Int32))) &&& (858993459 : Int32)) + ((((x0 - (((x0.toUInt32 >>> ((1 : Int32).toUInt32 &&& Int32.toUInt32 31)).toInt32) &&& (1431655765 : Int32))).toUInt32 >>> ((2 : Int32).toUInt32 &&& Int32.toUInt32 31)).toInt32) &&& (858993459 : Int32))).toUInt32 >>> ((4 : Int32).toUInt32 &&& Int32.toUInt32 31)).toInt32)) &&& (252645135 : Int32)) + (((((((x0 - (((x0.toUInt32 >>> ((1 : Int32).toUInt32 &&& Int32.toUInt32 31)).toInt32) &&& (1431655765 : Int32))) &&& (858993459 : Int32)) + ((((x0 - (((x0.toUInt32 >>> ((1 : Int32).toUInt32 &&& Int32.toUInt32 31)).toInt32) &&& (1431655765 : Int32))).toUInt32 >>> ((2 : Int32).toUInt32 &&& Int32.toUInt32 31)).toInt32) &&& (858993459 : Int32))) + (((((x0 - (((x0.toUInt32 >>> ((1 : Int32).toUInt32 &&& Int32.toUInt32 31)).toInt32) &&& (1431655765 : Int32))) &&& (858993459 : Int32)) + ((((x0 - (((x0.toUInt32 >>> ((1 : Int32).toUInt32 &&& Int32.toUInt32 31)).toInt32) &&& (1431655765 : Int32))).toUInt32 >>> ((2 : Int32).toUInt32 &&& Int32.toUInt32 31)).toInt32) &&& (858993459 : Int32))).toUInt32 >>> ((4 : Int32).toUInt32 &&& Int32.toUInt32 31)).toInt32)) &&& (252645135 : Int32)).toUInt32 >>> ((8 : Int32).toUInt32 &&& Int32.toUInt32 31)).toInt32)).toUInt32 >>> ((16 : Int32).toUInt32 &&& Int32.toUInt32 31)).toInt32)) &&& (63 : Int32)))) σ) : WS d M_JInt_bitCount 0 [vI x0] [] σ Post := by
  refine WS.run (C := []) (pc' := 52) (L' := [vI (((((((x0 - (((x0.toUInt32 >>> ((1 : Int32).toUInt32 &&& Int32.toUInt32 31)).toInt32) &&& (1431655765 : Int32))) &&& (858993459 : Int32)) + ((((x0 - (((x0.toUInt32 >>> ((1 : Int32).toUInt32 &&& Int32.toUInt32 31)).toInt32) &&& (1431655765 : Int32))).toUInt32 >>> ((2 : Int32).toUInt32 &&& Int32.toUInt32 31)).toInt32) &&& (858993459 : Int32))) + (((((x0 - (((x0.toUInt32 >>> ((1 : Int32).toUInt32 &&& Int32.toUInt32 31)).toInt32) &&& (1431655765 : Int32))) &&& (858993459 : Int32)) + ((((x0 - (((x0.toUInt32 >>> ((1 : Int32).toUInt32 &&& Int32.toUInt32 31)).toInt32) &&& (1431655765 : Int32))).toUInt32 >>> ((2 : Int32).toUInt32 &&& Int32.toUInt32 31)).toInt32) &&& (858993459 : Int32))).toUInt32 >>> ((4 : Int32).toUInt32 &&& Int32.toUInt32 31)).toInt32)) &&& (252645135 : Int32)) + (((((((x0 - (((x0.toUInt32 >>> ((1 : Int32).toUInt32 &&& Int32.toUInt32 31)).toInt32) &&& (1431655765 : Int32))) &&& (858993459 : Int32)) + ((((x0 - (((x0.toUInt32 >>> ((1 : Int32).toUInt32 &&& Int32.toUInt32 31)).toInt32) &&& (1431655765 : Int32))).toUInt32 >>> ((2 : Int32).toUInt32 &&& Int32.toUInt32 31)).toInt32) &&& (858993459 : Int32))) + (((((x0 - (((x0.toUInt32 >>> ((1 : Int32).toUInt32 &&& Int32.toUInt32 31)).toInt32) &&& (1431655765 : Int32))) &&& (858993459 : Int32)) + ((((x0 - (((x0.toUInt32 >>> ((1 : Int32).toUInt32 &&& Int32.toUInt32 31)).toInt32) &&& (1431655765 : Int32))).toUInt32 >>> ((2 : Int32).toUInt32 &&& Int32.toUInt32 31)).toInt32) &&& (858993459 : Int32))).toUInt32 >>> ((4 : Int32).toUInt32 &&& Int32.toUInt32 31)).toInt32)) &&& (252645135 : Int32)).toUInt32 >>> ((8 : Int32).toUInt32 &&& Int32.toUInt32 31)).toInt32)) + ((((((((x0 - (((x0.toUInt32 >>> ((1 : Int32).toUInt32 &&& Int32.toUInt32 31)).toInt32) &&& (1431655765 : Int32))) &&& (858993459 : Int32)) + ((((x0 - (((x0.toUInt32 >>> ((1 : Int32).toUInt32 &&& Int32.toUInt32 31)).toInt32) &&& (1431655765 : Int32))).toUInt32 >>> ((2 : Int32).toUInt32 &&& Int32.toUInt32 31)).toInt32) &&& (858993459 : Int32))) + (((((x0 - (((x0.toUInt32 >>> ((1 : Int32).toUInt32 &&& Int32.toUInt32 31)).toInt32) &&& (1431655765 : Int32))) &&& (858993459 : Int32)) + ((((x0 - (((x0.toUInt32 >>> ((1 : Int32).toUInt32 &&& Int32.toUInt32 31)).toInt32) &&& (1431655765 : Int32))).toUInt32 >>> ((2 : Int32).toUInt32 &&& Int32.toUInt32 31)).toInt32) &&& (858993459 : Int32))).toUInt32 >>> ((4 : Int32).toUInt32 &&& Int32.toUInt32 31)).toInt32)) &&& (252645135 : Int32)) + (((((((x0 - (((x0.toUInt32 >>> ((1 : Int32).toUInt32 &&& Int32.toUInt32 31)).toInt32) &&& (1431655765 : Int32))) &&& (858993459 : Int32)) + ((((x0 - (((x0.toUInt32 >>> ((1 : Int32).toUInt32 &&& Int32.toUInt32 31)).toInt32) &&& (1431655765 : Int32))).toUInt32 >>> ((2 : Int32).toUInt32 &&& Int32.toUInt32 31)).toInt32) &&& (858993459 : Int32))) + (((((x0 - (((x0.toUInt32 >>> ((1 : Int32).toUInt32 &&& Int32.toUInt32 31)).toInt32) &&& (1431655765 : Int32))) &&& (858993459 : Int32)) + ((((x0 - (((x0.toUInt32 >>> ((1 : Int32).toUInt32 &&& Int32.toUInt32 31)).toInt32) &&& (1431655765 : Int32))).toUInt32 >>> ((2 : Int32).toUInt32 &&& Int32.toUInt32 31)).toInt32) &&& (858993459 : Int32))).toUInt32 >>> ((4 : Int32).toUInt32 &&& Int32.toUInt32 31)).toInt32)) &&& (252645135 : Int32)).toUInt32 >>> ((8 : Int32).toUInt32 &&& Int32.toUInt32 31)).toInt32)).toUInt32 >>> ((16 : Int32).toUInt32 &&& Int32.toUInt32 31)).toInt32))]) (S' := [vI ((((((((x0 - (((x0.toUInt32 >>> ((1 : Int32).toUInt32 &&& Int32.toUInt32 31)).toInt32) &&& (1431655765 : Int32))) &&& (858993459 : Int32)) + ((((x0 - (((x0.toUInt32 >>> ((1 : Int32).toUInt32 &&& Int32.toUInt32 31)).toInt32) &&& (1431655765 : Int32))).toUInt32 >>> ((2 : Int32).toUInt32 &&& Int32.toUInt32 31)).toInt32) &&& (858993459 : Int32))) + (((((x0 - (((x0.toUInt32 >>> ((1 : Int32).toUInt32 &&& Int32.toUInt32 31)).toInt32) &&& (1431655765 : Int32))) &&& (858993459 : Int32)) + ((((x0 - (((x0.toUInt32 >>> ((1 : Int32).toUInt32 &&& Int32.toUInt32 31)).toInt32) &&& (1431655765 : Int32))).toUInt32 >>> ((2 : Int32).toUInt32 &&& Int32.toUInt32 31)).toInt32) &&& (858993459 : Int32))).toUInt32 >>> ((4 : Int32).toUInt32 &&& Int32.toUInt32 31)).toInt32)) &&& (252645135 : Int32)) + (((((((x0 - (((x0.toUInt32 >>> ((1 : Int32).toUInt32 &&& Int32.toUInt32 31)).toInt32) &&& (1431655765 : Int32))) &&& (858993459 : Int32)) + ((((x0 - (((x0.toUInt32 >>> ((1 : Int32).toUInt32 &&& Int32.toUInt32 31)).toInt32) &&& (1431655765 : Int32))).toUInt32 >>> ((2 : Int32).toUInt32 &&& Int32.toUInt32 31)).toInt32) &&& (858993459 : Int32))) + (((((x0 - (((x0.toUInt32 >>> ((1 : Int32).toUInt32 &&& Int32.toUInt32 31)).toInt32) &&& (1431655765 : Int32))) &&& (858993459 : Int32)) + ((((x0 - (((x0.toUInt32 >>> ((1 : Int32).toUInt32 &&& Int32.toUInt32 31)).toInt32) &&& (1431655765 : Int32))).toUInt32 >>> ((2 : Int32).toUInt32 &&& Int32.toUInt32 31)).toInt32) &&& (858993459 : Int32))).toUInt32 >>> ((4 : Int32).toUInt32 &&& Int32.toUInt32 31)).toInt32)) &&& (252645135 : Int32)).toUInt32 >>> ((8 : Int32).toUInt32 &&& Int32.toUInt32 31)).toInt32)) + ((((((((x0 - (((x0.toUInt32 >>> ((1 : Int32).toUInt32 &&& Int32.toUInt32 31)).toInt32) &&& (1431655765 : Int32))) &&& (858993459 : Int32)) + ((((x0 - (((x0.toUInt32 >>> ((1 : Int32).toUInt32 &&& Int32.toUInt32 31)).toInt32) &&& (1431655765 : Int32))).toUInt32 >>> ((2 : Int32).toUInt32 &&& Int32.toUInt32 31)).toInt32) &&& (858993459 : Int32))) + (((((x0 - (((x0.toUInt32 >>> ((1 : Int32).toUInt32 &&& Int32.toUInt32 31)).toInt32) &&& (1431655765 : Int32))) &&& (858993459 : Int32)) + ((((x0 - (((x0.toUInt32 >>> ((1 : Int32).toUInt32 &&& Int32.toUInt32 31)).toInt32) &&& (1431655765 : Int32))).toUInt32 >>> ((2 : Int32).toUInt32 &&& Int32.toUInt32 31)).toInt32) &&& (858993459 : Int32))).toUInt32 >>> ((4 : Int32).toUInt32 &&& Int32.toUInt32 31)).toInt32)) &&& (252645135 : Int32)) + (((((((x0 - (((x0.toUInt32 >>> ((1 : Int32).toUInt32 &&& Int32.toUInt32 31)).toInt32) &&& (1431655765 : Int32))) &&& (858993459 : Int32)) + ((((x0 - (((x0.toUInt32 >>> ((1 : Int32).toUInt32 &&& Int32.toUInt32 31)).toInt32) &&& (1431655765 : Int32))).toUInt32 >>> ((2 : Int32).toUInt32 &&& Int32.toUInt32 31)).toInt32) &&& (858993459 : Int32))) + (((((x0 - (((x0.toUInt32 >>> ((1 : Int32).toUInt32 &&& Int32.toUInt32 31)).toInt32) &&& (1431655765 : Int32))) &&& (858993459 : Int32)) + ((((x0 - (((x0.toUInt32 >>> ((1 : Int32).toUInt32 &&& Int32.toUInt32 31)).toInt32) &&& (1431655765 : Int32))).toUInt32 >>> ((2 : Int32).toUInt32 &&& Int32.toUInt32 31)).toInt32) &&& (858993459 : Int32))).toUInt32 >>> ((4 : Int32).toUInt32 &&& Int32.toUInt32 31)).toInt32)) &&& (252645135 : Int32)).toUInt32 >>> ((8 : Int32).toUInt32 &&& Int32.toUInt32 31)).toInt32)).toUInt32 >>> ((16 : Int32).toUInt32 &&& Int32.toUInt32 31)).toInt32)) &&& (63 : Int32))]) (σ' := σ) 41 rfl trivial ?_
  exact WS.ret rfl rfl (by decide) rfl h
set_option maxRecDepth 4000 in
set_option maxHeartbeats 400000 in
theorem b_Chooser_price16_0 {d : Nat} {σ : Mem} {Post : Option AV → Mem → Prop} {x1 x2 : Int32} (h : vp_in x1 12 ∧ (∀ σ1 : Mem, σ1 = pI σ 18 0 x1.toNatClampNeg ((x2 * (16 : Int32)) + (1 : Int32)) → Post none σ1)) : WS d M_Chooser_price 0 [vR 16 0, vI x1, vI x2] [] σ Post := by
  refine WS.run (C := [vp_in x1 12]) (pc' := 12) (L' := [vR 16 0, vI x1, vI x2]) (S' := []) (σ' := pI σ 18 0 x1.toNatClampNeg ((x2 * (16 : Int32)) + (1 : Int32))) 9 rfl ⟨h.1, trivial⟩ ?_
  obtain ⟨σ1, eσ1⟩ : ∃ z, z = pI σ 18 0 x1.toNatClampNeg ((x2 * (16 : Int32)) + (1 : Int32)) := ⟨_, rfl⟩
  rw [← eσ1]
  exact WS.vret rfl rfl (h.2 σ1 eσ1)
set_option maxRecDepth 4000 in
set_option maxHeartbeats 400000 in
theorem b_Chooser_clearClashes16_0 {d : Nat} {σ : Mem} {Post : Option AV → Mem → Prop}  (h : WS d M_Chooser_clearClashes 2 [vR 16 0, vI (0 : Int32)] [] σ Post) : WS d M_Chooser_clearClashes 0 [vR 16 0, vU] [] σ Post := by
  refine WS.run (C := []) (pc' := 2) (L' := [vR 16 0, vI (0 : Int32)]) (S' := []) (σ' := σ) 2 rfl trivial ?_
  exact h
set_option maxRecDepth 4000 in
set_option maxHeartbeats 400000 in
theorem b_Chooser_clearClashes16_2 {d : Nat} {σ : Mem} {Post : Option AV → Mem → Prop} {x1 : Int32} (h : (((Int32.ofNat 12) ≤ x1 → Post none σ) ∧ (¬ ((Int32.ofNat 12) ≤ x1) → vp_in x1 12 ∧ (∀ σ1 : Mem, σ1 = pI σ 17 0 x1.toNatClampNeg (0 : Int32) → WS d M_Chooser_clearClashes 2 [vR 16 0, vI (x1 + (1 : Int32))] [] σ1 Post)))) : WS d M_Chooser_clearClashes 2 [vR 16 0, vI x1] [] σ Post := by
  refine WS.run (C := []) (pc' := 8) (L' := [vR 16 0, vI x1]) (S' := [vI (Int32.ofNat 12), vI x1]) (σ' := σ) 4 rfl trivial ?_
  refine WS.br (P := (Int32.ofNat 12) ≤ x1) (a := 24) (b := 11) (S' := []) rfl (fun c1 => ?_) (fun c1 => ?_)
  · exact WS.vret rfl rfl (h.1 c1)
  · refine WS.run (C := [vp_in x1 12]) (pc' := 18) (L' := [vR 16 0, vI x1]) (S' := []) (σ' := pI σ 17 0 x1.toNatClampNeg (0 : Int32)) 5 rfl ⟨(h.2 c1).1, trivial⟩ ?_
    obtain ⟨σ1, eσ1⟩ : ∃ z, z = pI σ 17 0 x1.toNatClampNeg (0 : Int32) := ⟨_, rfl⟩
    rw [← eσ1]
    refine WS.run (C := []) (pc' := 2) (L' := [vR 16 0, vI (x1 + (1 : Int32))]) (S' := []) (σ' := σ1) 2 rfl trivial ?_
    exact ((h.2 c1).2 σ1 eσ1)
set_option maxRecDepth 4000 in
set_option maxHeartbeats 400000 in
theorem b_Chooser_choose16_0 {d : Nat} {σ : Mem} {Post : Option AV → Mem → Prop} {x1 : Int32} (h : WS d M_Chooser_choose 7 [vR 16 0, vI x1, vI ((gI σ 16 0 0) - (1 : Int32))] [] σ Post) : WS d M_Chooser_choose 0 [vR 16 0, vI x1, vU] [] σ Post := by
  refine WS.run (C := []) (pc' := 7) (L' := [vR 16 0, vI x1, vI ((gI σ 16 0 0) - (1 : Int32))]) (S' := []) (σ' := σ) 5 rfl trivial ?_
  exact h
set_option maxRecDepth 4000 in
set_option maxHeartbeats 400000 in
theorem b_Chooser_choose16_7 {d : Nat} {σ : Mem} {Post : Option AV → Mem → Prop} {x1 x2 : Int32} (h : ((x2 < 0 → ¬ (16 : Int32) = 0 ∧ Post (some (vI ((gI σ 16 0 7) / (16 : Int32)))) σ) ∧ (¬ (x2 < 0) → (∀ σ1 : Mem, σ1 = pI σ 16 0 7 (-1 : Int32) → MM d M_Chooser_descend [vR 16 0, vI x2, vI x1, vI (0 : Int32)] σ1 (fun r τ => WS (d + 1) M_Chooser_choose 23 [vR 16 0, vI x1, vI x2] (r.toList ++ []) τ Post))))) : WS (d + 1) M_Chooser_choose 7 [vR 16 0, vI x1, vI x2] [] σ Post := by
  refine WS.run (C := []) (pc' := 8) (L' := [vR 16 0, vI x1, vI x2]) (S' := [vI x2]) (σ' := σ) 1 rfl trivial ?_
  refine WS.br (P := x2 < 0) (a := 39) (b := 11) (S' := []) rfl (fun c1 => ?_) (fun c1 => ?_)
  · refine WS.run (C := [¬ (16 : Int32) = 0]) (pc' := 46) (L' := [vR 16 0, vI x1, vI x2]) (S' := [vI ((gI σ 16 0 7) / (16 : Int32))]) (σ' := σ) 4 rfl ⟨(h.1 c1).1, trivial⟩ ?_
    exact WS.ret rfl rfl (by decide) rfl (h.1 c1).2
  · refine WS.run (C := []) (pc' := 16) (L' := [vR 16 0, vI x1, vI x2]) (S' := []) (σ' := pI σ 16 0 7 (-1 : Int32)) 3 rfl trivial ?_
    obtain ⟨σ1, eσ1⟩ : ∃ z, z = pI σ 16 0 7 (-1 : Int32) := ⟨_, rfl⟩
    rw [← eσ1]
    refine WS.run (C := []) (pc' := 20) (L' := [vR 16 0, vI x1, vI x2]) (S' := [vI (0 : Int32), vI x1, vI x2, vR 16 0]) (σ' := σ1) 4 rfl trivial ?_
    refine WS.callS M_Chooser_descend (as := [vR 16 0, vI x2, vI x1, vI (0 : Int32)]) (rest := []) rfl lk_0_35 rfl rfl (Nat.le_of_ble_eq_true rfl) ?_
    exact ((h.2 c1) σ1 eσ1)
set_option maxRecDepth 4000 in
set_option maxHeartbeats 400000 in
theorem b_Chooser_choose16_23 {d : Nat} {σ : Mem} {Post : Option AV → Mem → Prop} {x1 x2 : Int32} (h : vp_in x2 13 ∧ (∀ σ1 : Mem, σ1 = pI σ 19 0 x2.toNatClampNeg (gI σ 16 0 7) → WS d M_Chooser_choose 7 [vR 16 0, vI x1, vI (x2 + (-1 : Int32))] [] σ1 Post)) : WS d M_Chooser_choose 23 [vR 16 0, vI x1, vI x2] [] σ Post := by
  refine WS.run (C := [vp_in x2 13]) (pc' := 33) (L' := [vR 16 0, vI x1, vI x2]) (S' := []) (σ' := pI σ 19 0 x2.toNatClampNeg (gI σ 16 0 7)) 6 rfl ⟨h.1, trivial⟩ ?_
  obtain ⟨σ1, eσ1⟩ : ∃ z, z = pI σ 19 0 x2.toNatClampNeg (gI σ 16 0 7) := ⟨_, rfl⟩
  rw [← eσ1]
  refine WS.run (C := []) (pc' := 7) (L' := [vR 16 0, vI x1, vI (x2 + (-1 : Int32))]) (S' := []) (σ' := σ1) 2 rfl trivial ?_
  exact (h.2 σ1 eσ1)
set_option maxRecDepth 4000 in
set_option maxHeartbeats 400000 in
theorem b_Chooser_descend16_0 {d : Nat} {σ : Mem} {Post : Option AV → Mem → Prop} {x1 x2 x3 : Int32} (h : ((x1 < (gI σ 16 0 0) → vp_in (x1 + (1 : Int32)) 13 ∧ vp_in x1 12 ∧ WS (d + 1) M_Chooser_descend 54 [vR 16 0, vI x1, vI x2, vI x3, vI (gI σ 19 0 (x1 + (1 : Int32)).toNatClampNeg), vI (x3 + (gI σ 18 0 x1.toNatClampNeg)), vI (0 : Int32), vU] [] σ Post) ∧ (¬ (x1 < (gI σ 16 0 0)) → (∀ σ1 : Mem, σ1 = pI σ 16 0 7 x3 → ¬ (gI σ1 16 0 0) < 0 ∧ (0 : Int32).toNatClampNeg + (gI σ1 16 0 0).toNatClampNeg ≤ 12 ∧ (0 : Int32).toNatClampNeg + (gI σ1 16 0 0).toNatClampNeg ≤ 12 ∧ ∀ σ2 : Mem, σ2 = pC σ1 20 0 21 0 (0 : Int32).toNatClampNeg (0 : Int32).toNatClampNeg (gI σ1 16 0 0).toNatClampNeg → Post none σ2)))) : WS (d + 1) M_Chooser_descend 0 [vR 16 0, vI x1, vI x2, vI x3, vU, vU, vU, vU] [] σ Post := by
  refine WS.run (C := []) (pc' := 5) (L' := [vR 16 0, vI x1, vI x2, vI x3, vU, vU, vU, vU]) (S' := [vI (gI σ 16 0 0), vI x1]) (σ' := σ) 3 rfl trivial ?_
  refine WS.br (P := x1 < (gI σ 16 0 0)) (a := 31) (b := 8) (S' := []) rfl (fun c1 => ?_) (fun c1 => ?_)
  · refine WS.run (C := [vp_in (x1 + (1 : Int32)) 13, vp_in x1 12]) (pc' := 54) (L' := [vR 16 0, vI x1, vI x2, vI x3, vI (gI σ 19 0 (x1 + (1 : Int32)).toNatClampNeg), vI (x3 + (gI σ 18 0 x1.toNatClampNeg)), vI (0 : Int32), vU]) (S' := []) (σ' := σ) 16 rfl ⟨(h.1 c1).1, (h.1 c1).2.1, trivial⟩ ?_
    exact (h.1 c1).2.2
  · refine WS.run (C := []) (pc' := 13) (L' := [vR 16 0, vI x1, vI x2, vI x3, vU, vU, vU, vU]) (S' := []) (σ' := pI σ 16 0 7 x3) 3 rfl trivial ?_
    obtain ⟨σ1, eσ1⟩ : ∃ z, z = pI σ 16 0 7 x3 := ⟨_, rfl⟩
    rw [← eσ1]
    refine WS.run (C := []) (pc' := 27) (L' := [vR 16 0, vI x1, vI x2, vI x3, vU, vU, vU, vU]) (S' := [vI (gI σ1 16 0 0), vI (0 : Int32), vR 21 0, vI (0 : Int32), vR 20 0]) (σ' := σ1) 8 rfl trivial ?_
    refine WS.copy (n0 := 12) (n1 := 12) rfl lkc_0_39 (Nat.le_of_ble_eq_true rfl) rfl rfl (by decide) (by decide) ((h.2 c1) σ1 eσ1).1 ((h.2 c1) σ1 eσ1).2.1 ((h.2 c1) σ1 eσ1).2.2.1 ?_
    obtain ⟨σ2, eσ2⟩ : ∃ z, z = pC σ1 20 0 21 0 (0 : Int32).toNatClampNeg (0 : Int32).toNatClampNeg (gI σ1 16 0 0).toNatClampNeg := ⟨_, rfl⟩
    rw [← eσ2]
    exact WS.vret rfl rfl (((h.2 c1) σ1 eσ1).2.2.2 σ2 eσ2)
set_option maxRecDepth 4000 in
set_option maxHeartbeats 400000 in
theorem b_Chooser_descend16_54 {d : Nat} {σ : Mem} {Post : Option AV → Mem → Prop} {x1 x2 x3 x4 x5 x6 : Int32} {v7 : AV} (h : (((gI σ 16 0 1) ≤ x6 → (((x3 + x4) ≤ (gI σ 16 0 7) → WS (d + 1) M_Chooser_descend 160 [vR 16 0, vI x1, vI x2, vI x3, vI x4, vI x5, vI x6, v7] [] σ Post) ∧ (¬ ((x3 + x4) ≤ (gI σ 16 0 7)) → vp_in x1 12 ∧ (∀ σ1 : Mem, σ1 = pI σ 20 0 x1.toNatClampNeg (gI σ 16 0 1) → MM d M_Chooser_descend [vR 16 0, vI (x1 + (1 : Int32)), vI x2, vI x3] σ1 (fun r τ => WS (d + 1) M_Chooser_descend 160 [vR 16 0, vI x1, vI x2, vI x3, vI x4, vI x5, vI x6, v7] (r.toList ++ []) τ Post))))) ∧ (¬ ((gI σ 16 0 1) ≤ x6) → (((((x2.toUInt32 >>> (((x1 * (gI σ 16 0 1)) + x6).toUInt32 &&& Int32.toUInt32 31)).toInt32) &&& (1 : Int32)) = (1 : Int32) → (((x5 + x4) ≤ (gI σ 16 0 7) → WS (d + 1) M_Chooser_descend 124 [vR 16 0, vI x1, vI x2, vI x3, vI x4, vI x5, vI x6, vI ((x1 * (gI σ 16 0 1)) + x6)] [] σ Post) ∧ (¬ ((x5 + x4) ≤ (gI σ 16 0 7)) → vp_in x1 12 ∧ (∀ σ2 : Mem, σ2 = pI σ 20 0 x1.toNatClampNeg x6 → vp_in ((x1 * (gI σ 16 0 1)) + x6) 12 ∧ MM d M_Chooser_descend [vR 16 0, vI (x1 + (1 : Int32)), vI (x2 &&& ((gI σ2 17 0 ((x1 * (gI σ 16 0 1)) + x6).toNatClampNeg) ^^^ (-1 : Int32))), vI x5] σ2 (fun r τ => WS (d + 1) M_Chooser_descend 124 [vR 16 0, vI x1, vI x2, vI x3, vI x4, vI x5, vI x6, vI ((x1 * (gI σ 16 0 1)) + x6)] (r.toList ++ []) τ Post))))) ∧ (¬ ((((x2.toUInt32 >>> (((x1 * (gI σ 16 0 1)) + x6).toUInt32 &&& Int32.toUInt32 31)).toInt32) &&& (1 : Int32)) = (1 : Int32)) → WS (d + 1) M_Chooser_descend 124 [vR 16 0, vI x1, vI x2, vI x3, vI x4, vI x5, vI x6, vI ((x1 * (gI σ 16 0 1)) + x6)] [] σ Post))))) : WS (d + 1) M_Chooser_descend 54 [vR 16 0, vI x1, vI x2, vI x3, vI x4, vI x5, vI x6, v7] [] σ Post := by
  refine WS.run (C := []) (pc' := 60) (L' := [vR 16 0, vI x1, vI x2, vI x3, vI x4, vI x5, vI x6, v7]) (S' := [vI (gI σ 16 0 1), vI x6]) (σ' := σ) 3 rfl trivial ?_
  refine WS.br (P := (gI σ 16 0 1) ≤ x6) (a := 130) (b := 63) (S' := []) rfl (fun c2 => ?_) (fun c2 => ?_)
  · refine WS.run (C := []) (pc' := 138) (L' := [vR 16 0, vI x1, vI x2, vI x3, vI x4, vI x5, vI x6, v7]) (S' := [vI (gI σ 16 0 7), vI (x3 + x4)]) (σ' := σ) 5 rfl trivial ?_
    refine WS.br (P := (x3 + x4) ≤ (gI σ 16 0 7)) (a := 160) (b := 141) (S' := []) rfl (fun c3 => ?_) (fun c3 => ?_)
    · exact ((h.1 c2).1 c3)
    · refine WS.run (C := [vp_in x1 12]) (pc' := 151) (L' := [vR 16 0, vI x1, vI x2, vI x3, vI x4, vI x5, vI x6, v7]) (S' := []) (σ' := pI σ 20 0 x1.toNatClampNeg (gI σ 16 0 1)) 6 rfl ⟨((h.1 c2).2 c3).1, trivial⟩ ?_
      obtain ⟨σ1, eσ1⟩ : ∃ z, z = pI σ 20 0 x1.toNatClampNeg (gI σ 16 0 1) := ⟨_, rfl⟩
      rw [← eσ1]
      refine WS.run (C := []) (pc' := 157) (L' := [vR 16 0, vI x1, vI x2, vI x3, vI x4, vI x5, vI x6, v7]) (S' := [vI x3, vI x2, vI (x1 + (1 : Int32)), vR 16 0]) (σ' := σ1) 6 rfl trivial ?_
      refine WS.callS M_Chooser_descend (as := [vR 16 0, vI (x1 + (1 : Int32)), vI x2, vI x3]) (rest := []) rfl lk_0_35 rfl rfl (Nat.le_of_ble_eq_true rfl) ?_
      exact (((h.1 c2).2 c3).2 σ1 eσ1)
  · refine WS.run (C := []) (pc' := 81) (L' := [vR 16 0, vI x1, vI x2, vI x3, vI x4, vI x5, vI x6, vI ((x1 * (gI σ 16 0 1)) + x6)]) (S' := [vI (1 : Int32), vI (((x2.toUInt32 >>> (((x1 * (gI σ 16 0 1)) + x6).toUInt32 &&& Int32.toUInt32 31)).toInt32) &&& (1 : Int32))]) (σ' := σ) 13 rfl trivial ?_
    refine WS.br (P := (((x2.toUInt32 >>> (((x1 * (gI σ 16 0 1)) + x6).toUInt32 &&& Int32.toUInt32 31)).toInt32) &&& (1 : Int32)) = (1 : Int32)) (a := 84) (b := 124) (S' := []) rfl (fun c4 => ?_) (fun c4 => ?_)
    · refine WS.run (C := []) (pc' := 93) (L' := [vR 16 0, vI x1, vI x2, vI x3, vI x4, vI x5, vI x6, vI ((x1 * (gI σ 16 0 1)) + x6)]) (S' := [vI (gI σ 16 0 7), vI (x5 + x4)]) (σ' := σ) 5 rfl trivial ?_
      refine WS.br (P := (x5 + x4) ≤ (gI σ 16 0 7)) (a := 124) (b := 96) (S' := []) rfl (fun c5 => ?_) (fun c5 => ?_)
      · exact (((h.2 c2).1 c4).1 c5)
      · refine WS.run (C := [vp_in x1 12]) (pc' := 104) (L' := [vR 16 0, vI x1, vI x2, vI x3, vI x4, vI x5, vI x6, vI ((x1 * (gI σ 16 0 1)) + x6)]) (S' := []) (σ' := pI σ 20 0 x1.toNatClampNeg x6) 5 rfl ⟨(((h.2 c2).1 c4).2 c5).1, trivial⟩ ?_
        obtain ⟨σ2, eσ2⟩ : ∃ z, z = pI σ 20 0 x1.toNatClampNeg x6 := ⟨_, rfl⟩
        rw [← eσ2]
        refine WS.run (C := [vp_in ((x1 * (gI σ 16 0 1)) + x6) 12]) (pc' := 121) (L' := [vR 16 0, vI x1, vI x2, vI x3, vI x4, vI x5, vI x6, vI ((x1 * (gI σ 16 0 1)) + x6)]) (S' := [vI x5, vI (x2 &&& ((gI σ2 17 0 ((x1 * (gI σ 16 0 1)) + x6).toNatClampNeg) ^^^ (-1 : Int32))), vI (x1 + (1 : Int32)), vR 16 0]) (σ' := σ2) 13 rfl ⟨((((h.2 c2).1 c4).2 c5).2 σ2 eσ2).1, trivial⟩ ?_
        refine WS.callS M_Chooser_descend (as := [vR 16 0, vI (x1 + (1 : Int32)), vI (x2 &&& ((gI σ2 17 0 ((x1 * (gI σ 16 0 1)) + x6).toNatClampNeg) ^^^ (-1 : Int32))), vI x5]) (rest := []) rfl lk_0_35 rfl rfl (Nat.le_of_ble_eq_true rfl) ?_
        exact ((((h.2 c2).1 c4).2 c5).2 σ2 eσ2).2
    · exact ((h.2 c2).2 c4)
set_option maxRecDepth 4000 in
set_option maxHeartbeats 400000 in
theorem b_Chooser_descend16_124 {d : Nat} {σ : Mem} {Post : Option AV → Mem → Prop} {x1 x2 x3 x4 x5 x6 x7 : Int32} (h : WS d M_Chooser_descend 54 [vR 16 0, vI x1, vI x2, vI x3, vI x4, vI x5, vI (x6 + (1 : Int32)), vI x7] [] σ Post) : WS d M_Chooser_descend 124 [vR 16 0, vI x1, vI x2, vI x3, vI x4, vI x5, vI x6, vI x7] [] σ Post := by
  refine WS.run (C := []) (pc' := 54) (L' := [vR 16 0, vI x1, vI x2, vI x3, vI x4, vI x5, vI (x6 + (1 : Int32)), vI x7]) (S' := []) (σ' := σ) 2 rfl trivial ?_
  exact h
set_option maxRecDepth 4000 in
set_option maxHeartbeats 400000 in
theorem b_Chooser_descend16_160 {d : Nat} {σ : Mem} {Post : Option AV → Mem → Prop} {x1 x2 x3 x4 x5 x6 : Int32} {v7 : AV} (h : Post none σ) : WS d M_Chooser_descend 160 [vR 16 0, vI x1, vI x2, vI x3, vI x4, vI x5, vI x6, v7] [] σ Post := by
  exact WS.vret rfl rfl h
set_option maxRecDepth 4000 in
set_option maxHeartbeats 400000 in
theorem b_Chooser_price34_0 {d : Nat} {σ : Mem} {Post : Option AV → Mem → Prop} {x1 x2 : Int32} (h : vp_in x1 8 ∧ (∀ σ1 : Mem, σ1 = pI σ 36 0 x1.toNatClampNeg ((x2 * (16 : Int32)) + (1 : Int32)) → Post none σ1)) : WS d M_Chooser_price 0 [vR 34 0, vI x1, vI x2] [] σ Post := by
  refine WS.run (C := [vp_in x1 8]) (pc' := 12) (L' := [vR 34 0, vI x1, vI x2]) (S' := []) (σ' := pI σ 36 0 x1.toNatClampNeg ((x2 * (16 : Int32)) + (1 : Int32))) 9 rfl ⟨h.1, trivial⟩ ?_
  obtain ⟨σ1, eσ1⟩ : ∃ z, z = pI σ 36 0 x1.toNatClampNeg ((x2 * (16 : Int32)) + (1 : Int32)) := ⟨_, rfl⟩
  rw [← eσ1]
  exact WS.vret rfl rfl (h.2 σ1 eσ1)
set_option maxRecDepth 4000 in
set_option maxHeartbeats 400000 in
theorem b_Chooser_clearClashes34_0 {d : Nat} {σ : Mem} {Post : Option AV → Mem → Prop}  (h : WS d M_Chooser_clearClashes 2 [vR 34 0, vI (0 : Int32)] [] σ Post) : WS d M_Chooser_clearClashes 0 [vR 34 0, vU] [] σ Post := by
  refine WS.run (C := []) (pc' := 2) (L' := [vR 34 0, vI (0 : Int32)]) (S' := []) (σ' := σ) 2 rfl trivial ?_
  exact h
set_option maxRecDepth 4000 in
set_option maxHeartbeats 400000 in
theorem b_Chooser_clearClashes34_2 {d : Nat} {σ : Mem} {Post : Option AV → Mem → Prop} {x1 : Int32} (h : (((Int32.ofNat 32) ≤ x1 → Post none σ) ∧ (¬ ((Int32.ofNat 32) ≤ x1) → vp_in x1 32 ∧ (∀ σ1 : Mem, σ1 = pI σ 35 0 x1.toNatClampNeg (0 : Int32) → WS d M_Chooser_clearClashes 2 [vR 34 0, vI (x1 + (1 : Int32))] [] σ1 Post)))) : WS d M_Chooser_clearClashes 2 [vR 34 0, vI x1] [] σ Post := by
  refine WS.run (C := []) (pc' := 8) (L' := [vR 34 0, vI x1]) (S' := [vI (Int32.ofNat 32), vI x1]) (σ' := σ) 4 rfl trivial ?_
  refine WS.br (P := (Int32.ofNat 32) ≤ x1) (a := 24) (b := 11) (S' := []) rfl (fun c1 => ?_) (fun c1 => ?_)
  · exact WS.vret rfl rfl (h.1 c1)
  · refine WS.run (C := [vp_in x1 32]) (pc' := 18) (L' := [vR 34 0, vI x1]) (S' := []) (σ' := pI σ 35 0 x1.toNatClampNeg (0 : Int32)) 5 rfl ⟨(h.2 c1).1, trivial⟩ ?_
    obtain ⟨σ1, eσ1⟩ : ∃ z, z = pI σ 35 0 x1.toNatClampNeg (0 : Int32) := ⟨_, rfl⟩
    rw [← eσ1]
    refine WS.run (C := []) (pc' := 2) (L' := [vR 34 0, vI (x1 + (1 : Int32))]) (S' := []) (σ' := σ1) 2 rfl trivial ?_
    exact ((h.2 c1).2 σ1 eσ1)
set_option maxRecDepth 4000 in
set_option maxHeartbeats 400000 in
theorem b_Chooser_choose34_0 {d : Nat} {σ : Mem} {Post : Option AV → Mem → Prop} {x1 : Int32} (h : WS d M_Chooser_choose 7 [vR 34 0, vI x1, vI ((gI σ 34 0 0) - (1 : Int32))] [] σ Post) : WS d M_Chooser_choose 0 [vR 34 0, vI x1, vU] [] σ Post := by
  refine WS.run (C := []) (pc' := 7) (L' := [vR 34 0, vI x1, vI ((gI σ 34 0 0) - (1 : Int32))]) (S' := []) (σ' := σ) 5 rfl trivial ?_
  exact h
set_option maxRecDepth 4000 in
set_option maxHeartbeats 400000 in
theorem b_Chooser_choose34_7 {d : Nat} {σ : Mem} {Post : Option AV → Mem → Prop} {x1 x2 : Int32} (h : ((x2 < 0 → ¬ (16 : Int32) = 0 ∧ Post (some (vI ((gI σ 34 0 7) / (16 : Int32)))) σ) ∧ (¬ (x2 < 0) → (∀ σ1 : Mem, σ1 = pI σ 34 0 7 (-1 : Int32) → MM d M_Chooser_descend [vR 34 0, vI x2, vI x1, vI (0 : Int32)] σ1 (fun r τ => WS (d + 1) M_Chooser_choose 23 [vR 34 0, vI x1, vI x2] (r.toList ++ []) τ Post))))) : WS (d + 1) M_Chooser_choose 7 [vR 34 0, vI x1, vI x2] [] σ Post := by
  refine WS.run (C := []) (pc' := 8) (L' := [vR 34 0, vI x1, vI x2]) (S' := [vI x2]) (σ' := σ) 1 rfl trivial ?_
  refine WS.br (P := x2 < 0) (a := 39) (b := 11) (S' := []) rfl (fun c1 => ?_) (fun c1 => ?_)
  · refine WS.run (C := [¬ (16 : Int32) = 0]) (pc' := 46) (L' := [vR 34 0, vI x1, vI x2]) (S' := [vI ((gI σ 34 0 7) / (16 : Int32))]) (σ' := σ) 4 rfl ⟨(h.1 c1).1, trivial⟩ ?_
    exact WS.ret rfl rfl (by decide) rfl (h.1 c1).2
  · refine WS.run (C := []) (pc' := 16) (L' := [vR 34 0, vI x1, vI x2]) (S' := []) (σ' := pI σ 34 0 7 (-1 : Int32)) 3 rfl trivial ?_
    obtain ⟨σ1, eσ1⟩ : ∃ z, z = pI σ 34 0 7 (-1 : Int32) := ⟨_, rfl⟩
    rw [← eσ1]
    refine WS.run (C := []) (pc' := 20) (L' := [vR 34 0, vI x1, vI x2]) (S' := [vI (0 : Int32), vI x1, vI x2, vR 34 0]) (σ' := σ1) 4 rfl trivial ?_
    refine WS.callS M_Chooser_descend (as := [vR 34 0, vI x2, vI x1, vI (0 : Int32)]) (rest := []) rfl lk_0_35 rfl rfl (Nat.le_of_ble_eq_true rfl) ?_
    exact ((h.2 c1) σ1 eσ1)
set_option maxRecDepth 4000 in
set_option maxHeartbeats 400000 in
theorem b_Chooser_choose34_23 {d : Nat} {σ : Mem} {Post : Option AV → Mem → Prop} {x1 x2 : Int32} (h : vp_in x2 9 ∧ (∀ σ1 : Mem, σ1 = pI σ 37 0 x2.toNatClampNeg (gI σ 34 0 7) → WS d M_Chooser_choose 7 [vR 34 0, vI x1, vI (x2 + (-1 : Int32))] [] σ1 Post)) : WS d M_Chooser_choose 23 [vR 34 0, vI x1, vI x2] [] σ Post := by
  refine WS.run (C := [vp_in x2 9]) (pc' := 33) (L' := [vR 34 0, vI x1, vI x2]) (S' := []) (σ' := pI σ 37 0 x2.toNatClampNeg (gI σ 34 0 7)) 6 rfl ⟨h.1, trivial⟩ ?_
  obtain ⟨σ1, eσ1⟩ : ∃ z, z = pI σ 37 0 x2.toNatClampNeg (gI σ 34 0 7) := ⟨_, rfl⟩
  rw [← eσ1]
  refine WS.run (C := []) (pc' := 7) (L' := [vR 34 0, vI x1, vI (x2 + (-1 : Int32))]) (S' := []) (σ' := σ1) 2 rfl trivial ?_
  exact (h.2 σ1 eσ1)
set_option maxRecDepth 4000 in
set_option maxHeartbeats 400000 in
theorem b_Chooser_descend34_0 {d : Nat} {σ : Mem} {Post : Option AV → Mem → Prop} {x1 x2 x3 : Int32} (h : ((x1 < (gI σ 34 0 0) → vp_in (x1 + (1 : Int32)) 9 ∧ vp_in x1 8 ∧ WS (d + 1) M_Chooser_descend 54 [vR 34 0, vI x1, vI x2, vI x3, vI (gI σ 37 0 (x1 + (1 : Int32)).toNatClampNeg), vI (x3 + (gI σ 36 0 x1.toNatClampNeg)), vI (0 : Int32), vU] [] σ Post) ∧ (¬ (x1 < (gI σ 34 0 0)) → (∀ σ1 : Mem, σ1 = pI σ 34 0 7 x3 → ¬ (gI σ1 34 0 0) < 0 ∧ (0 : Int32).toNatClampNeg + (gI σ1 34 0 0).toNatClampNeg ≤ 8 ∧ (0 : Int32).toNatClampNeg + (gI σ1 34 0 0).toNatClampNeg ≤ 8 ∧ ∀ σ2 : Mem, σ2 = pC σ1 38 0 39 0 (0 : Int32).toNatClampNeg (0 : Int32).toNatClampNeg (gI σ1 34 0 0).toNatClampNeg → Post none σ2)))) : WS (d + 1) M_Chooser_descend 0 [vR 34 0, vI x1, vI x2, vI x3, vU, vU, vU, vU] [] σ Post := by
  refine WS.run (C := []) (pc' := 5) (L' := [vR 34 0, vI x1, vI x2, vI x3, vU, vU, vU, vU]) (S' := [vI (gI σ 34 0 0), vI x1]) (σ' := σ) 3 rfl trivial ?_
  refine WS.br (P := x1 < (gI σ 34 0 0)) (a := 31) (b := 8) (S' := []) rfl (fun c1 => ?_) (fun c1 => ?_)
  · refine WS.run (C := [vp_in (x1 + (1 : Int32)) 9, vp_in x1 8]) (pc' := 54) (L' := [vR 34 0, vI x1, vI x2, vI x3, vI (gI σ 37 0 (x1 + (1 : Int32)).toNatClampNeg), vI (x3 + (gI σ 36 0 x1.toNatClampNeg)), vI (0 : Int32), vU]) (S' := []) (σ' := σ) 16 rfl ⟨(h.1 c1).1, (h.1 c1).2.1, trivial⟩ ?_
    exact (h.1 c1).2.2
  · refine WS.run (C := []) (pc' := 13) (L' := [vR 34 0, vI x1, vI x2, vI x3, vU, vU, vU, vU]) (S' := []) (σ' := pI σ 34 0 7 x3) 3 rfl trivial ?_
    obtain ⟨σ1, eσ1⟩ : ∃ z, z = pI σ 34 0 7 x3 := ⟨_, rfl⟩
    rw [← eσ1]
    refine WS.run (C := []) (pc' := 27) (L' := [vR 34 0, vI x1, vI x2, vI x3, vU, vU, vU, vU]) (S' := [vI (gI σ1 34 0 0), vI (0 : Int32), vR 39 0, vI (0 : Int32), vR 38 0]) (σ' := σ1) 8 rfl trivial ?_
    refine WS.copy (n0 := 8) (n1 := 8) rfl lkc_0_39 (Nat.le_of_ble_eq_true rfl) rfl rfl (by decide) (by decide) ((h.2 c1) σ1 eσ1).1 ((h.2 c1) σ1 eσ1).2.1 ((h.2 c1) σ1 eσ1).2.2.1 ?_
    obtain ⟨σ2, eσ2⟩ : ∃ z, z = pC σ1 38 0 39 0 (0 : Int32).toNatClampNeg (0 : Int32).toNatClampNeg (gI σ1 34 0 0).toNatClampNeg := ⟨_, rfl⟩
    rw [← eσ2]
    exact WS.vret rfl rfl (((h.2 c1) σ1 eσ1).2.2.2 σ2 eσ2)
set_option maxRecDepth 4000 in
set_option maxHeartbeats 400000 in
theorem b_Chooser_descend34_54 {d : Nat} {σ : Mem} {Post : Option AV → Mem → Prop} {x1 x2 x3 x4 x5 x6 : Int32} {v7 : AV} (h : (((gI σ 34 0 1) ≤ x6 → (((x3 + x4) ≤ (gI σ 34 0 7) → WS (d + 1) M_Chooser_descend 160 [vR 34 0, vI x1, vI x2, vI x3, vI x4, vI x5, vI x6, v7] [] σ Post) ∧ (¬ ((x3 + x4) ≤ (gI σ 34 0 7)) → vp_in x1 8 ∧ (∀ σ1 : Mem, σ1 = pI σ 38 0 x1.toNatClampNeg (gI σ 34 0 1) → MM d M_Chooser_descend [vR 34 0, vI (x1 + (1 : Int32)), vI x2, vI x3] σ1 (fun r τ => WS (d + 1) M_Chooser_descend 160 [vR 34 0, vI x1, vI x2, vI x3, vI x4, vI x5, vI x6, v7] (r.toList ++ []) τ Post))))) ∧ (¬ ((gI σ 34 0 1) ≤ x6) → (((((x2.toUInt32 >>> (((x1 * (gI σ 34 0 1)) + x6).toUInt32 &&& Int32.toUInt32 31)).toInt32) &&& (1 : Int32)) = (1 : Int32) → (((x5 + x4) ≤ (gI σ 34 0 7) → WS (d + 1) M_Chooser_descend 124 [vR 34 0, vI x1, vI x2, vI x3, vI x4, vI x5, vI x6, vI ((x1 * (gI σ 34 0 1)) + x6)] [] σ Post) ∧ (¬ ((x5 + x4) ≤ (gI σ 34 0 7)) → vp_in x1 8 ∧ (∀ σ2 : Mem, σ2 = pI σ 38 0 x1.toNatClampNeg x6 → vp_in ((x1 * (gI σ 34 0 1)) + x6) 32 ∧ MM d M_Chooser_descend [vR 34 0, vI (x1 + (1 : Int32)), vI (x2 &&& ((gI σ2 35 0 ((x1 * (gI σ 34 0 1)) + x6).toNatClampNeg) ^^^ (-1 : Int32))), vI x5] σ2 (fun r τ => WS (d + 1) M_Chooser_descend 124 [vR 34 0, vI x1, vI x2, vI x3, vI x4, vI x5, vI x6, vI ((x1 * (gI σ 34 0 1)) + x6)] (r.toList ++ []) τ Post))))) ∧ (¬ ((((x2.toUInt32 >>> (((x1 * (gI σ 34 0 1)) + x6).toUInt32 &&& Int32.toUInt32 31)).toInt32) &&& (1 : Int32)) = (1 : Int32)) → WS (d + 1) M_Chooser_descend 124 [vR 34 0, vI x1, vI x2, vI x3, vI x4, vI x5, vI x6, vI ((x1 * (gI σ 34 0 1)) + x6)] [] σ Post))))) : WS (d + 1) M_Chooser_descend 54 [vR 34 0, vI x1, vI x2, vI x3, vI x4, vI x5, vI x6, v7] [] σ Post := by
  refine WS.run (C := []) (pc' := 60) (L' := [vR 34 0, vI x1, vI x2, vI x3, vI x4, vI x5, vI x6, v7]) (S' := [vI (gI σ 34 0 1), vI x6]) (σ' := σ) 3 rfl trivial ?_
  refine WS.br (P := (gI σ 34 0 1) ≤ x6) (a := 130) (b := 63) (S' := []) rfl (fun c2 => ?_) (fun c2 => ?_)
  · refine WS.run (C := []) (pc' := 138) (L' := [vR 34 0, vI x1, vI x2, vI x3, vI x4, vI x5, vI x6, v7]) (S' := [vI (gI σ 34 0 7), vI (x3 + x4)]) (σ' := σ) 5 rfl trivial ?_
    refine WS.br (P := (x3 + x4) ≤ (gI σ 34 0 7)) (a := 160) (b := 141) (S' := []) rfl (fun c3 => ?_) (fun c3 => ?_)
    · exact ((h.1 c2).1 c3)
    · refine WS.run (C := [vp_in x1 8]) (pc' := 151) (L' := [vR 34 0, vI x1, vI x2, vI x3, vI x4, vI x5, vI x6, v7]) (S' := []) (σ' := pI σ 38 0 x1.toNatClampNeg (gI σ 34 0 1)) 6 rfl ⟨((h.1 c2).2 c3).1, trivial⟩ ?_
      obtain ⟨σ1, eσ1⟩ : ∃ z, z = pI σ 38 0 x1.toNatClampNeg (gI σ 34 0 1) := ⟨_, rfl⟩
      rw [← eσ1]
      refine WS.run (C := []) (pc' := 157) (L' := [vR 34 0, vI x1, vI x2, vI x3, vI x4, vI x5, vI x6, v7]) (S' := [vI x3, vI x2, vI (x1 + (1 : Int32)), vR 34 0]) (σ' := σ1) 6 rfl trivial ?_
      refine WS.callS M_Chooser_descend (as := [vR 34 0, vI (x1 + (1 : Int32)), vI x2, vI x3]) (rest := []) rfl lk_0_35 rfl rfl (Nat.le_of_ble_eq_true rfl) ?_
      exact (((h.1 c2).2 c3).2 σ1 eσ1)
  · refine WS.run (C := []) (pc' := 81) (L' := [vR 34 0, vI x1, vI x2, vI x3, vI x4, vI x5, vI x6, vI ((x1 * (gI σ 34 0 1)) + x6)]) (S' := [vI (1 : Int32), vI (((x2.toUInt32 >>> (((x1 * (gI σ 34 0 1)) + x6).toUInt32 &&& Int32.toUInt32 31)).toInt32) &&& (1 : Int32))]) (σ' := σ) 13 rfl trivial ?_
    refine WS.br (P := (((x2.toUInt32 >>> (((x1 * (gI σ 34 0 1)) + x6).toUInt32 &&& Int32.toUInt32 31)).toInt32) &&& (1 : Int32)) = (1 : Int32)) (a := 84) (b := 124) (S' := []) rfl (fun c4 => ?_) (fun c4 => ?_)
    · refine WS.run (C := []) (pc' := 93) (L' := [vR 34 0, vI x1, vI x2, vI x3, vI x4, vI x5, vI x6, vI ((x1 * (gI σ 34 0 1)) + x6)]) (S' := [vI (gI σ 34 0 7), vI (x5 + x4)]) (σ' := σ) 5 rfl trivial ?_
      refine WS.br (P := (x5 + x4) ≤ (gI σ 34 0 7)) (a := 124) (b := 96) (S' := []) rfl (fun c5 => ?_) (fun c5 => ?_)
      · exact (((h.2 c2).1 c4).1 c5)
      · refine WS.run (C := [vp_in x1 8]) (pc' := 104) (L' := [vR 34 0, vI x1, vI x2, vI x3, vI x4, vI x5, vI x6, vI ((x1 * (gI σ 34 0 1)) + x6)]) (S' := []) (σ' := pI σ 38 0 x1.toNatClampNeg x6) 5 rfl ⟨(((h.2 c2).1 c4).2 c5).1, trivial⟩ ?_
        obtain ⟨σ2, eσ2⟩ : ∃ z, z = pI σ 38 0 x1.toNatClampNeg x6 := ⟨_, rfl⟩
        rw [← eσ2]
        refine WS.run (C := [vp_in ((x1 * (gI σ 34 0 1)) + x6) 32]) (pc' := 121) (L' := [vR 34 0, vI x1, vI x2, vI x3, vI x4, vI x5, vI x6, vI ((x1 * (gI σ 34 0 1)) + x6)]) (S' := [vI x5, vI (x2 &&& ((gI σ2 35 0 ((x1 * (gI σ 34 0 1)) + x6).toNatClampNeg) ^^^ (-1 : Int32))), vI (x1 + (1 : Int32)), vR 34 0]) (σ' := σ2) 13 rfl ⟨((((h.2 c2).1 c4).2 c5).2 σ2 eσ2).1, trivial⟩ ?_
        refine WS.callS M_Chooser_descend (as := [vR 34 0, vI (x1 + (1 : Int32)), vI (x2 &&& ((gI σ2 35 0 ((x1 * (gI σ 34 0 1)) + x6).toNatClampNeg) ^^^ (-1 : Int32))), vI x5]) (rest := []) rfl lk_0_35 rfl rfl (Nat.le_of_ble_eq_true rfl) ?_
        exact ((((h.2 c2).1 c4).2 c5).2 σ2 eσ2).2
    · exact ((h.2 c2).2 c4)
set_option maxRecDepth 4000 in
set_option maxHeartbeats 400000 in
theorem b_Chooser_descend34_124 {d : Nat} {σ : Mem} {Post : Option AV → Mem → Prop} {x1 x2 x3 x4 x5 x6 x7 : Int32} (h : WS d M_Chooser_descend 54 [vR 34 0, vI x1, vI x2, vI x3, vI x4, vI x5, vI (x6 + (1 : Int32)), vI x7] [] σ Post) : WS d M_Chooser_descend 124 [vR 34 0, vI x1, vI x2, vI x3, vI x4, vI x5, vI x6, vI x7] [] σ Post := by
  refine WS.run (C := []) (pc' := 54) (L' := [vR 34 0, vI x1, vI x2, vI x3, vI x4, vI x5, vI (x6 + (1 : Int32)), vI x7]) (S' := []) (σ' := σ) 2 rfl trivial ?_
  exact h
set_option maxRecDepth 4000 in
set_option maxHeartbeats 400000 in
theorem b_Chooser_descend34_160 {d : Nat} {σ : Mem} {Post : Option AV → Mem → Prop} {x1 x2 x3 x4 x5 x6 : Int32} {v7 : AV} (h : Post none σ) : WS d M_Chooser_descend 160 [vR 34 0, vI x1, vI x2, vI x3, vI x4, vI x5, vI x6, v7] [] σ Post := by
  exact WS.vret rfl rfl h
