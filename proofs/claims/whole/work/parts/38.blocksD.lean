/-! block lemmas -/
set_option maxRecDepth 4000 in
set_option maxHeartbeats 400000 in
theorem b_MD_isThrough_0 {d : Nat} {σ : Mem} {Post : Option AV → Mem → Prop} {x1 x2 x3 : Int32} (h : vp_in x2 240 ∧ vp_in x1 240 ∧ WS d M_MD_isThrough 16 [vR 51 0, vI x1, vI x2, vI x3, vJ (((gI σ 56 0 x2.toNatClampNeg) - (gI σ 56 0 x1.toNatClampNeg)).toInt64), vU, vU, vU, vU, vU, vU, vU, vU, vU, vU, vU, vU, vU, vU, vU, vU, vU, vU, vU, vU, vU, vU, vU] [] σ Post) : WS d M_MD_isThrough 0 [vR 51 0, vI x1, vI x2, vI x3, vU, vU, vU, vU, vU, vU, vU, vU, vU, vU, vU, vU, vU, vU, vU, vU, vU, vU, vU, vU, vU, vU, vU, vU] [] σ Post := by
  refine WS.run (C := [vp_in x2 240, vp_in x1 240]) (pc' := 16) (L' := [vR 51 0, vI x1, vI x2, vI x3, vJ (((gI σ 56 0 x2.toNatClampNeg) - (gI σ 56 0 x1.toNatClampNeg)).toInt64), vU, vU, vU, vU, vU, vU, vU, vU, vU, vU, vU, vU, vU, vU, vU, vU, vU, vU, vU, vU, vU, vU, vU]) (S' := []) (σ' := σ) 11 rfl ⟨h.1, h.2.1, trivial⟩ ?_
  exact h.2.2
set_option maxRecDepth 4000 in
set_option maxHeartbeats 400000 in
theorem b_MD_isThrough_16 {d : Nat} {σ : Mem} {Post : Option AV → Mem → Prop} {x1 x2 x3 : Int32} {y4 : Int64} (h : vp_in x2 240 ∧ vp_in x1 240 ∧ WS d M_MD_isThrough 32 [vR 51 0, vI x1, vI x2, vI x3, vJ y4, vU, vJ (((gI σ 57 0 x2.toNatClampNeg) - (gI σ 57 0 x1.toNatClampNeg)).toInt64), vU, vU, vU, vU, vU, vU, vU, vU, vU, vU, vU, vU, vU, vU, vU, vU, vU, vU, vU, vU, vU] [] σ Post) : WS d M_MD_isThrough 16 [vR 51 0, vI x1, vI x2, vI x3, vJ y4, vU, vU, vU, vU, vU, vU, vU, vU, vU, vU, vU, vU, vU, vU, vU, vU, vU, vU, vU, vU, vU, vU, vU] [] σ Post := by
  refine WS.run (C := [vp_in x2 240, vp_in x1 240]) (pc' := 32) (L' := [vR 51 0, vI x1, vI x2, vI x3, vJ y4, vU, vJ (((gI σ 57 0 x2.toNatClampNeg) - (gI σ 57 0 x1.toNatClampNeg)).toInt64), vU, vU, vU, vU, vU, vU, vU, vU, vU, vU, vU, vU, vU, vU, vU, vU, vU, vU, vU, vU, vU]) (S' := []) (σ' := σ) 11 rfl ⟨h.1, h.2.1, trivial⟩ ?_
  exact h.2.2
set_option maxRecDepth 4000 in
set_option maxHeartbeats 400000 in
theorem b_MD_isThrough_32 {d : Nat} {σ : Mem} {Post : Option AV → Mem → Prop} {x1 x2 x3 : Int32} {y4 y6 : Int64} (h : vp_in x3 32 ∧ vp_in x1 240 ∧ WS d M_MD_isThrough 48 [vR 51 0, vI x1, vI x2, vI x3, vJ y4, vU, vJ y6, vU, vJ (((gI σ 74 0 x3.toNatClampNeg) - (gI σ 56 0 x1.toNatClampNeg)).toInt64), vU, vU, vU, vU, vU, vU, vU, vU, vU, vU, vU, vU, vU, vU, vU, vU, vU, vU, vU] [] σ Post) : WS d M_MD_isThrough 32 [vR 51 0, vI x1, vI x2, vI x3, vJ y4, vU, vJ y6, vU, vU, vU, vU, vU, vU, vU, vU, vU, vU, vU, vU, vU, vU, vU, vU, vU, vU, vU, vU, vU] [] σ Post := by
  refine WS.run (C := [vp_in x3 32, vp_in x1 240]) (pc' := 48) (L' := [vR 51 0, vI x1, vI x2, vI x3, vJ y4, vU, vJ y6, vU, vJ (((gI σ 74 0 x3.toNatClampNeg) - (gI σ 56 0 x1.toNatClampNeg)).toInt64), vU, vU, vU, vU, vU, vU, vU, vU, vU, vU, vU, vU, vU, vU, vU, vU, vU, vU, vU]) (S' := []) (σ' := σ) 11 rfl ⟨h.1, h.2.1, trivial⟩ ?_
  exact h.2.2
set_option maxRecDepth 4000 in
set_option maxHeartbeats 400000 in
theorem b_MD_isThrough_48 {d : Nat} {σ : Mem} {Post : Option AV → Mem → Prop} {x1 x2 x3 : Int32} {y4 y6 y8 : Int64} (h : vp_in x3 32 ∧ WS d M_MD_isThrough 60 [vR 51 0, vI x1, vI x2, vI x3, vJ y4, vU, vJ y6, vU, vJ y8, vU, vJ (y8 + ((gI σ 76 0 x3.toNatClampNeg).toInt64)), vU, vU, vU, vU, vU, vU, vU, vU, vU, vU, vU, vU, vU, vU, vU, vU, vU] [] σ Post) : WS d M_MD_isThrough 48 [vR 51 0, vI x1, vI x2, vI x3, vJ y4, vU, vJ y6, vU, vJ y8, vU, vU, vU, vU, vU, vU, vU, vU, vU, vU, vU, vU, vU, vU, vU, vU, vU, vU, vU] [] σ Post := by
  refine WS.run (C := [vp_in x3 32]) (pc' := 60) (L' := [vR 51 0, vI x1, vI x2, vI x3, vJ y4, vU, vJ y6, vU, vJ y8, vU, vJ (y8 + ((gI σ 76 0 x3.toNatClampNeg).toInt64)), vU, vU, vU, vU, vU, vU, vU, vU, vU, vU, vU, vU, vU, vU, vU, vU, vU]) (S' := []) (σ' := σ) 8 rfl ⟨h.1, trivial⟩ ?_
  exact h.2
set_option maxRecDepth 4000 in
set_option maxHeartbeats 400000 in
theorem b_MD_isThrough_60 {d : Nat} {σ : Mem} {Post : Option AV → Mem → Prop} {x1 x2 x3 : Int32} {y4 y6 y8 y10 : Int64} (h : vp_in x3 32 ∧ vp_in x1 240 ∧ WS d M_MD_isThrough 76 [vR 51 0, vI x1, vI x2, vI x3, vJ y4, vU, vJ y6, vU, vJ y8, vU, vJ y10, vU, vJ (((gI σ 75 0 x3.toNatClampNeg) - (gI σ 57 0 x1.toNatClampNeg)).toInt64), vU, vU, vU, vU, vU, vU, vU, vU, vU, vU, vU, vU, vU, vU, vU] [] σ Post) : WS d M_MD_isThrough 60 [vR 51 0, vI x1, vI x2, vI x3, vJ y4, vU, vJ y6, vU, vJ y8, vU, vJ y10, vU, vU, vU, vU, vU, vU, vU, vU, vU, vU, vU, vU, vU, vU, vU, vU, vU] [] σ Post := by
  refine WS.run (C := [vp_in x3 32, vp_in x1 240]) (pc' := 76) (L' := [vR 51 0, vI x1, vI x2, vI x3, vJ y4, vU, vJ y6, vU, vJ y8, vU, vJ y10, vU, vJ (((gI σ 75 0 x3.toNatClampNeg) - (gI σ 57 0 x1.toNatClampNeg)).toInt64), vU, vU, vU, vU, vU, vU, vU, vU, vU, vU, vU, vU, vU, vU, vU]) (S' := []) (σ' := σ) 11 rfl ⟨h.1, h.2.1, trivial⟩ ?_
  exact h.2.2
set_option maxRecDepth 4000 in
set_option maxHeartbeats 400000 in
theorem b_MD_isThrough_76 {d : Nat} {σ : Mem} {Post : Option AV → Mem → Prop} {x1 x2 x3 : Int32} {y4 y6 y8 y10 y12 : Int64} (h : WS d M_MD_isThrough 84 [vR 51 0, vI x1, vI x2, vI x3, vJ y4, vU, vJ y6, vU, vJ y8, vU, vJ y10, vU, vJ y12, vU, vJ (y12 + (10 : Int64)), vU, vU, vU, vU, vU, vU, vU, vU, vU, vU, vU, vU, vU] [] σ Post) : WS d M_MD_isThrough 76 [vR 51 0, vI x1, vI x2, vI x3, vJ y4, vU, vJ y6, vU, vJ y8, vU, vJ y10, vU, vJ y12, vU, vU, vU, vU, vU, vU, vU, vU, vU, vU, vU, vU, vU, vU, vU] [] σ Post := by
  refine WS.run (C := []) (pc' := 84) (L' := [vR 51 0, vI x1, vI x2, vI x3, vJ y4, vU, vJ y6, vU, vJ y8, vU, vJ y10, vU, vJ y12, vU, vJ (y12 + (10 : Int64)), vU, vU, vU, vU, vU, vU, vU, vU, vU, vU, vU, vU, vU]) (S' := []) (σ' := σ) 4 rfl trivial ?_
  exact h
set_option maxRecDepth 4000 in
set_option maxHeartbeats 400000 in
theorem b_MD_isThrough_84 {d : Nat} {σ : Mem} {Post : Option AV → Mem → Prop} {x1 x2 x3 : Int32} {y4 y6 y8 y10 y12 y14 : Int64} (h : (((lg_cmp y4 (0 : Int64)) = 0 → ((0 ≤ (lg_cmp y8 (0 : Int64)) → Post (some (vI (0 : Int32))) σ) ∧ (¬ (0 ≤ (lg_cmp y8 (0 : Int64))) → (((lg_cmp y10 (0 : Int64)) ≤ 0 → Post (some (vI (0 : Int32))) σ) ∧ (¬ ((lg_cmp y10 (0 : Int64)) ≤ 0) → (((lg_cmp y6 (0 : Int64)) = 0 → ((0 ≤ (lg_cmp y12 (0 : Int64)) → Post (some (vI (0 : Int32))) σ) ∧ (¬ (0 ≤ (lg_cmp y12 (0 : Int64))) → ((0 < (lg_cmp y14 (0 : Int64)) → WS d M_MD_isThrough 128 [vR 51 0, vI x1, vI x2, vI x3, vJ y4, vU, vJ y6, vU, vJ y8, vU, vJ y10, vU, vJ y12, vU, vJ y14, vU, vU, vU, vU, vU, vU, vU, vU, vU, vU, vU, vU, vU] [] σ Post) ∧ (¬ (0 < (lg_cmp y14 (0 : Int64))) → Post (some (vI (0 : Int32))) σ))))) ∧ (¬ ((lg_cmp y6 (0 : Int64)) = 0) → WS d M_MD_isThrough 128 [vR 51 0, vI x1, vI x2, vI x3, vJ y4, vU, vJ y6, vU, vJ y8, vU, vJ y10, vU, vJ y12, vU, vJ y14, vU, vU, vU, vU, vU, vU, vU, vU, vU, vU, vU, vU, vU] [] σ Post))))))) ∧ (¬ ((lg_cmp y4 (0 : Int64)) = 0) → (((lg_cmp y6 (0 : Int64)) = 0 → ((0 ≤ (lg_cmp y12 (0 : Int64)) → Post (some (vI (0 : Int32))) σ) ∧ (¬ (0 ≤ (lg_cmp y12 (0 : Int64))) → ((0 < (lg_cmp y14 (0 : Int64)) → WS d M_MD_isThrough 128 [vR 51 0, vI x1, vI x2, vI x3, vJ y4, vU, vJ y6, vU, vJ y8, vU, vJ y10, vU, vJ y12, vU, vJ y14, vU, vU, vU, vU, vU, vU, vU, vU, vU, vU, vU, vU, vU] [] σ Post) ∧ (¬ (0 < (lg_cmp y14 (0 : Int64))) → Post (some (vI (0 : Int32))) σ))))) ∧ (¬ ((lg_cmp y6 (0 : Int64)) = 0) → WS d M_MD_isThrough 128 [vR 51 0, vI x1, vI x2, vI x3, vJ y4, vU, vJ y6, vU, vJ y8, vU, vJ y10, vU, vJ y12, vU, vJ y14, vU, vU, vU, vU, vU, vU, vU, vU, vU, vU, vU, vU, vU] [] σ Post))))) : WS d M_MD_isThrough 84 [vR 51 0, vI x1, vI x2, vI x3, vJ y4, vU, vJ y6, vU, vJ y8, vU, vJ y10, vU, vJ y12, vU, vJ y14, vU, vU, vU, vU, vU, vU, vU, vU, vU, vU, vU, vU, vU] [] σ Post := by
  refine WS.run (C := []) (pc' := 88) (L' := [vR 51 0, vI x1, vI x2, vI x3, vJ y4, vU, vJ y6, vU, vJ y8, vU, vJ y10, vU, vJ y12, vU, vJ y14, vU, vU, vU, vU, vU, vU, vU, vU, vU, vU, vU, vU, vU]) (S' := [vI (lg_cmp y4 (0 : Int64))]) (σ' := σ) 3 rfl trivial ?_
  refine WS.br (P := (lg_cmp y4 (0 : Int64)) = 0) (a := 91) (b := 105) (S' := []) rfl (fun c1 => ?_) (fun c1 => ?_)
  · refine WS.run (C := []) (pc' := 95) (L' := [vR 51 0, vI x1, vI x2, vI x3, vJ y4, vU, vJ y6, vU, vJ y8, vU, vJ y10, vU, vJ y12, vU, vJ y14, vU, vU, vU, vU, vU, vU, vU, vU, vU, vU, vU, vU, vU]) (S' := [vI (lg_cmp y8 (0 : Int64))]) (σ' := σ) 3 rfl trivial ?_
    refine WS.br (P := 0 ≤ (lg_cmp y8 (0 : Int64))) (a := 126) (b := 98) (S' := []) rfl (fun c2 => ?_) (fun c2 => ?_)
    · refine WS.run (C := []) (pc' := 127) (L' := [vR 51 0, vI x1, vI x2, vI x3, vJ y4, vU, vJ y6, vU, vJ y8, vU, vJ y10, vU, vJ y12, vU, vJ y14, vU, vU, vU, vU, vU, vU, vU, vU, vU, vU, vU, vU, vU]) (S' := [vI (0 : Int32)]) (σ' := σ) 1 rfl trivial ?_
      exact WS.ret rfl rfl (by decide) rfl ((h.1 c1).1 c2)
    · refine WS.run (C := []) (pc' := 102) (L' := [vR 51 0, vI x1, vI x2, vI x3, vJ y4, vU, vJ y6, vU, vJ y8, vU, vJ y10, vU, vJ y12, vU, vJ y14, vU, vU, vU, vU, vU, vU, vU, vU, vU, vU, vU, vU, vU]) (S' := [vI (lg_cmp y10 (0 : Int64))]) (σ' := σ) 3 rfl trivial ?_
      refine WS.br (P := (lg_cmp y10 (0 : Int64)) ≤ 0) (a := 126) (b := 105) (S' := []) rfl (fun c3 => ?_) (fun c3 => ?_)
      · refine WS.run (C := []) (pc' := 127) (L' := [vR 51 0, vI x1, vI x2, vI x3, vJ y4, vU, vJ y6, vU, vJ y8, vU, vJ y10, vU, vJ y12, vU, vJ y14, vU, vU, vU, vU, vU, vU, vU, vU, vU, vU, vU, vU, vU]) (S' := [vI (0 : Int32)]) (σ' := σ) 1 rfl trivial ?_
        exact WS.ret rfl rfl (by decide) rfl (((h.1 c1).2 c2).1 c3)
      · refine WS.run (C := []) (pc' := 109) (L' := [vR 51 0, vI x1, vI x2, vI x3, vJ y4, vU, vJ y6, vU, vJ y8, vU, vJ y10, vU, vJ y12, vU, vJ y14, vU, vU, vU, vU, vU, vU, vU, vU, vU, vU, vU, vU, vU]) (S' := [vI (lg_cmp y6 (0 : Int64))]) (σ' := σ) 3 rfl trivial ?_
        refine WS.br (P := (lg_cmp y6 (0 : Int64)) = 0) (a := 112) (b := 128) (S' := []) rfl (fun c4 => ?_) (fun c4 => ?_)
        · refine WS.run (C := []) (pc' := 116) (L' := [vR 51 0, vI x1, vI x2, vI x3, vJ y4, vU, vJ y6, vU, vJ y8, vU, vJ y10, vU, vJ y12, vU, vJ y14, vU, vU, vU, vU, vU, vU, vU, vU, vU, vU, vU, vU, vU]) (S' := [vI (lg_cmp y12 (0 : Int64))]) (σ' := σ) 3 rfl trivial ?_
          refine WS.br (P := 0 ≤ (lg_cmp y12 (0 : Int64))) (a := 126) (b := 119) (S' := []) rfl (fun c5 => ?_) (fun c5 => ?_)
          · refine WS.run (C := []) (pc' := 127) (L' := [vR 51 0, vI x1, vI x2, vI x3, vJ y4, vU, vJ y6, vU, vJ y8, vU, vJ y10, vU, vJ y12, vU, vJ y14, vU, vU, vU, vU, vU, vU, vU, vU, vU, vU, vU, vU, vU]) (S' := [vI (0 : Int32)]) (σ' := σ) 1 rfl trivial ?_
            exact WS.ret rfl rfl (by decide) rfl (((((h.1 c1).2 c2).2 c3).1 c4).1 c5)
          · refine WS.run (C := []) (pc' := 123) (L' := [vR 51 0, vI x1, vI x2, vI x3, vJ y4, vU, vJ y6, vU, vJ y8, vU, vJ y10, vU, vJ y12, vU, vJ y14, vU, vU, vU, vU, vU, vU, vU, vU, vU, vU, vU, vU, vU]) (S' := [vI (lg_cmp y14 (0 : Int64))]) (σ' := σ) 3 rfl trivial ?_
            refine WS.br (P := 0 < (lg_cmp y14 (0 : Int64))) (a := 128) (b := 126) (S' := []) rfl (fun c6 => ?_) (fun c6 => ?_)
            · exact ((((((h.1 c1).2 c2).2 c3).1 c4).2 c5).1 c6)
            · refine WS.run (C := []) (pc' := 127) (L' := [vR 51 0, vI x1, vI x2, vI x3, vJ y4, vU, vJ y6, vU, vJ y8, vU, vJ y10, vU, vJ y12, vU, vJ y14, vU, vU, vU, vU, vU, vU, vU, vU, vU, vU, vU, vU, vU]) (S' := [vI (0 : Int32)]) (σ' := σ) 1 rfl trivial ?_
              exact WS.ret rfl rfl (by decide) rfl ((((((h.1 c1).2 c2).2 c3).1 c4).2 c5).2 c6)
        · exact ((((h.1 c1).2 c2).2 c3).2 c4)
  · refine WS.run (C := []) (pc' := 109) (L' := [vR 51 0, vI x1, vI x2, vI x3, vJ y4, vU, vJ y6, vU, vJ y8, vU, vJ y10, vU, vJ y12, vU, vJ y14, vU, vU, vU, vU, vU, vU, vU, vU, vU, vU, vU, vU, vU]) (S' := [vI (lg_cmp y6 (0 : Int64))]) (σ' := σ) 3 rfl trivial ?_
    refine WS.br (P := (lg_cmp y6 (0 : Int64)) = 0) (a := 112) (b := 128) (S' := []) rfl (fun c7 => ?_) (fun c7 => ?_)
    · refine WS.run (C := []) (pc' := 116) (L' := [vR 51 0, vI x1, vI x2, vI x3, vJ y4, vU, vJ y6, vU, vJ y8, vU, vJ y10, vU, vJ y12, vU, vJ y14, vU, vU, vU, vU, vU, vU, vU, vU, vU, vU, vU, vU, vU]) (S' := [vI (lg_cmp y12 (0 : Int64))]) (σ' := σ) 3 rfl trivial ?_
      refine WS.br (P := 0 ≤ (lg_cmp y12 (0 : Int64))) (a := 126) (b := 119) (S' := []) rfl (fun c8 => ?_) (fun c8 => ?_)
      · refine WS.run (C := []) (pc' := 127) (L' := [vR 51 0, vI x1, vI x2, vI x3, vJ y4, vU, vJ y6, vU, vJ y8, vU, vJ y10, vU, vJ y12, vU, vJ y14, vU, vU, vU, vU, vU, vU, vU, vU, vU, vU, vU, vU, vU]) (S' := [vI (0 : Int32)]) (σ' := σ) 1 rfl trivial ?_
        exact WS.ret rfl rfl (by decide) rfl (((h.2 c1).1 c7).1 c8)
      · refine WS.run (C := []) (pc' := 123) (L' := [vR 51 0, vI x1, vI x2, vI x3, vJ y4, vU, vJ y6, vU, vJ y8, vU, vJ y10, vU, vJ y12, vU, vJ y14, vU, vU, vU, vU, vU, vU, vU, vU, vU, vU, vU, vU, vU]) (S' := [vI (lg_cmp y14 (0 : Int64))]) (σ' := σ) 3 rfl trivial ?_
        refine WS.br (P := 0 < (lg_cmp y14 (0 : Int64))) (a := 128) (b := 126) (S' := []) rfl (fun c9 => ?_) (fun c9 => ?_)
        · exact ((((h.2 c1).1 c7).2 c8).1 c9)
        · refine WS.run (C := []) (pc' := 127) (L' := [vR 51 0, vI x1, vI x2, vI x3, vJ y4, vU, vJ y6, vU, vJ y8, vU, vJ y10, vU, vJ y12, vU, vJ y14, vU, vU, vU, vU, vU, vU, vU, vU, vU, vU, vU, vU, vU]) (S' := [vI (0 : Int32)]) (σ' := σ) 1 rfl trivial ?_
          exact WS.ret rfl rfl (by decide) rfl ((((h.2 c1).1 c7).2 c8).2 c9)
    · exact ((h.2 c1).2 c7)
set_option maxRecDepth 4000 in
set_option maxHeartbeats 400000 in
theorem b_MD_isThrough_128 {d : Nat} {σ : Mem} {Post : Option AV → Mem → Prop} {x1 x2 x3 : Int32} {y4 y6 y8 y10 y12 y14 : Int64} (h : (((lg_cmp y4 (0 : Int64)) ≤ 0 → WS d M_MD_isThrough 143 [vR 51 0, vI x1, vI x2, vI x3, vJ y4, vU, vJ y6, vU, vJ y8, vU, vJ y10, vU, vJ y12, vU, vJ y14, vU, vU, vU, vU, vU, vU, vU, vU, vU, vU, vU, vU, vU] [vJ (-y10)] σ Post) ∧ (¬ ((lg_cmp y4 (0 : Int64)) ≤ 0) → WS d M_MD_isThrough 143 [vR 51 0, vI x1, vI x2, vI x3, vJ y4, vU, vJ y6, vU, vJ y8, vU, vJ y10, vU, vJ y12, vU, vJ y14, vU, vU, vU, vU, vU, vU, vU, vU, vU, vU, vU, vU, vU] [vJ y8] σ Post))) : WS d M_MD_isThrough 128 [vR 51 0, vI x1, vI x2, vI x3, vJ y4, vU, vJ y6, vU, vJ y8, vU, vJ y10, vU, vJ y12, vU, vJ y14, vU, vU, vU, vU, vU, vU, vU, vU, vU, vU, vU, vU, vU] [] σ Post := by
  refine WS.run (C := []) (pc' := 132) (L' := [vR 51 0, vI x1, vI x2, vI x3, vJ y4, vU, vJ y6, vU, vJ y8, vU, vJ y10, vU, vJ y12, vU, vJ y14, vU, vU, vU, vU, vU, vU, vU, vU, vU, vU, vU, vU, vU]) (S' := [vI (lg_cmp y4 (0 : Int64))]) (σ' := σ) 3 rfl trivial ?_
  refine WS.br (P := (lg_cmp y4 (0 : Int64)) ≤ 0) (a := 140) (b := 135) (S' := []) rfl (fun c10 => ?_) (fun c10 => ?_)
  · refine WS.run (C := []) (pc' := 143) (L' := [vR 51 0, vI x1, vI x2, vI x3, vJ y4, vU, vJ y6, vU, vJ y8, vU, vJ y10, vU, vJ y12, vU, vJ y14, vU, vU, vU, vU, vU, vU, vU, vU, vU, vU, vU, vU, vU]) (S' := [vJ (-y10)]) (σ' := σ) 2 rfl trivial ?_
    exact (h.1 c10)
  · refine WS.run (C := []) (pc' := 143) (L' := [vR 51 0, vI x1, vI x2, vI x3, vJ y4, vU, vJ y6, vU, vJ y8, vU, vJ y10, vU, vJ y12, vU, vJ y14, vU, vU, vU, vU, vU, vU, vU, vU, vU, vU, vU, vU, vU]) (S' := [vJ y8]) (σ' := σ) 2 rfl trivial ?_
    exact (h.2 c10)
set_option maxRecDepth 4000 in
set_option maxHeartbeats 400000 in
theorem b_MD_isThrough_143 {d : Nat} {σ : Mem} {Post : Option AV → Mem → Prop} {x1 x2 x3 : Int32} {y4 y6 y8 y10 y12 y14 sy0 : Int64} (h : (((lg_cmp y4 (0 : Int64)) ≤ 0 → WS d M_MD_isThrough 160 [vR 51 0, vI x1, vI x2, vI x3, vJ y4, vU, vJ y6, vU, vJ y8, vU, vJ y10, vU, vJ y12, vU, vJ y14, vU, vJ sy0, vU, vU, vU, vU, vU, vU, vU, vU, vU, vU, vU] [vJ (-y8)] σ Post) ∧ (¬ ((lg_cmp y4 (0 : Int64)) ≤ 0) → WS d M_MD_isThrough 160 [vR 51 0, vI x1, vI x2, vI x3, vJ y4, vU, vJ y6, vU, vJ y8, vU, vJ y10, vU, vJ y12, vU, vJ y14, vU, vJ sy0, vU, vU, vU, vU, vU, vU, vU, vU, vU, vU, vU] [vJ y10] σ Post))) : WS d M_MD_isThrough 143 [vR 51 0, vI x1, vI x2, vI x3, vJ y4, vU, vJ y6, vU, vJ y8, vU, vJ y10, vU, vJ y12, vU, vJ y14, vU, vU, vU, vU, vU, vU, vU, vU, vU, vU, vU, vU, vU] [vJ sy0] σ Post := by
  refine WS.run (C := []) (pc' := 149) (L' := [vR 51 0, vI x1, vI x2, vI x3, vJ y4, vU, vJ y6, vU, vJ y8, vU, vJ y10, vU, vJ y12, vU, vJ y14, vU, vJ sy0, vU, vU, vU, vU, vU, vU, vU, vU, vU, vU, vU]) (S' := [vI (lg_cmp y4 (0 : Int64))]) (σ' := σ) 4 rfl trivial ?_
  refine WS.br (P := (lg_cmp y4 (0 : Int64)) ≤ 0) (a := 157) (b := 152) (S' := []) rfl (fun c11 => ?_) (fun c11 => ?_)
  · refine WS.run (C := []) (pc' := 160) (L' := [vR 51 0, vI x1, vI x2, vI x3, vJ y4, vU, vJ y6, vU, vJ y8, vU, vJ y10, vU, vJ y12, vU, vJ y14, vU, vJ sy0, vU, vU, vU, vU, vU, vU, vU, vU, vU, vU, vU]) (S' := [vJ (-y8)]) (σ' := σ) 2 rfl trivial ?_
    exact (h.1 c11)
  · refine WS.run (C := []) (pc' := 160) (L' := [vR 51 0, vI x1, vI x2, vI x3, vJ y4, vU, vJ y6, vU, vJ y8, vU, vJ y10, vU, vJ y12, vU, vJ y14, vU, vJ sy0, vU, vU, vU, vU, vU, vU, vU, vU, vU, vU, vU]) (S' := [vJ y10]) (σ' := σ) 2 rfl trivial ?_
    exact (h.2 c11)
set_option maxRecDepth 4000 in
set_option maxHeartbeats 400000 in
theorem b_MD_isThrough_160 {d : Nat} {σ : Mem} {Post : Option AV → Mem → Prop} {x1 x2 x3 : Int32} {y4 y6 y8 y10 y12 y14 y16 sy0 : Int64} (h : (((lg_cmp y4 (0 : Int64)) ≤ 0 → WS d M_MD_isThrough 177 [vR 51 0, vI x1, vI x2, vI x3, vJ y4, vU, vJ y6, vU, vJ y8, vU, vJ y10, vU, vJ y12, vU, vJ y14, vU, vJ y16, vU, vJ sy0, vU, vU, vU, vU, vU, vU, vU, vU, vU] [vJ (-y4)] σ Post) ∧ (¬ ((lg_cmp y4 (0 : Int64)) ≤ 0) → WS d M_MD_isThrough 177 [vR 51 0, vI x1, vI x2, vI x3, vJ y4, vU, vJ y6, vU, vJ y8, vU, vJ y10, vU, vJ y12, vU, vJ y14, vU, vJ y16, vU, vJ sy0, vU, vU, vU, vU, vU, vU, vU, vU, vU] [vJ y4] σ Post))) : WS d M_MD_isThrough 160 [vR 51 0, vI x1, vI x2, vI x3, vJ y4, vU, vJ y6, vU, vJ y8, vU, vJ y10, vU, vJ y12, vU, vJ y14, vU, vJ y16, vU, vU, vU, vU, vU, vU, vU, vU, vU, vU, vU] [vJ sy0] σ Post := by
  refine WS.run (C := []) (pc' := 166) (L' := [vR 51 0, vI x1, vI x2, vI x3, vJ y4, vU, vJ y6, vU, vJ y8, vU, vJ y10, vU, vJ y12, vU, vJ y14, vU, vJ y16, vU, vJ sy0, vU, vU, vU, vU, vU, vU, vU, vU, vU]) (S' := [vI (lg_cmp y4 (0 : Int64))]) (σ' := σ) 4 rfl trivial ?_
  refine WS.br (P := (lg_cmp y4 (0 : Int64)) ≤ 0) (a := 174) (b := 169) (S' := []) rfl (fun c12 => ?_) (fun c12 => ?_)
  · refine WS.run (C := []) (pc' := 177) (L' := [vR 51 0, vI x1, vI x2, vI x3, vJ y4, vU, vJ y6, vU, vJ y8, vU, vJ y10, vU, vJ y12, vU, vJ y14, vU, vJ y16, vU, vJ sy0, vU, vU, vU, vU, vU, vU, vU, vU, vU]) (S' := [vJ (-y4)]) (σ' := σ) 2 rfl trivial ?_
    exact (h.1 c12)
  · refine WS.run (C := []) (pc' := 177) (L' := [vR 51 0, vI x1, vI x2, vI x3, vJ y4, vU, vJ y6, vU, vJ y8, vU, vJ y10, vU, vJ y12, vU, vJ y14, vU, vJ y16, vU, vJ sy0, vU, vU, vU, vU, vU, vU, vU, vU, vU]) (S' := [vJ y4]) (σ' := σ) 2 rfl trivial ?_
    exact (h.2 c12)
set_option maxRecDepth 4000 in
set_option maxHeartbeats 400000 in
theorem b_MD_isThrough_177 {d : Nat} {σ : Mem} {Post : Option AV → Mem → Prop} {x1 x2 x3 : Int32} {y4 y6 y8 y10 y12 y14 y16 y18 sy0 : Int64} (h : (((lg_cmp y6 (0 : Int64)) ≤ 0 → WS d M_MD_isThrough 194 [vR 51 0, vI x1, vI x2, vI x3, vJ y4, vU, vJ y6, vU, vJ y8, vU, vJ y10, vU, vJ y12, vU, vJ y14, vU, vJ y16, vU, vJ y18, vU, vJ sy0, vU, vU, vU, vU, vU, vU, vU] [vJ (-y14)] σ Post) ∧ (¬ ((lg_cmp y6 (0 : Int64)) ≤ 0) → WS d M_MD_isThrough 194 [vR 51 0, vI x1, vI x2, vI x3, vJ y4, vU, vJ y6, vU, vJ y8, vU, vJ y10, vU, vJ y12, vU, vJ y14, vU, vJ y16, vU, vJ y18, vU, vJ sy0, vU, vU, vU, vU, vU, vU, vU] [vJ y12] σ Post))) : WS d M_MD_isThrough 177 [vR 51 0, vI x1, vI x2, vI x3, vJ y4, vU, vJ y6, vU, vJ y8, vU, vJ y10, vU, vJ y12, vU, vJ y14, vU, vJ y16, vU, vJ y18, vU, vU, vU, vU, vU, vU, vU, vU, vU] [vJ sy0] σ Post := by
  refine WS.run (C := []) (pc' := 183) (L' := [vR 51 0, vI x1, vI x2, vI x3, vJ y4, vU, vJ y6, vU, vJ y8, vU, vJ y10, vU, vJ y12, vU, vJ y14, vU, vJ y16, vU, vJ y18, vU, vJ sy0, vU, vU, vU, vU, vU, vU, vU]) (S' := [vI (lg_cmp y6 (0 : Int64))]) (σ' := σ) 4 rfl trivial ?_
  refine WS.br (P := (lg_cmp y6 (0 : Int64)) ≤ 0) (a := 191) (b := 186) (S' := []) rfl (fun c13 => ?_) (fun c13 => ?_)
  · refine WS.run (C := []) (pc' := 194) (L' := [vR 51 0, vI x1, vI x2, vI x3, vJ y4, vU, vJ y6, vU, vJ y8, vU, vJ y10, vU, vJ y12, vU, vJ y14, vU, vJ y16, vU, vJ y18, vU, vJ sy0, vU, vU, vU, vU, vU, vU, vU]) (S' := [vJ (-y14)]) (σ' := σ) 2 rfl trivial ?_
    exact (h.1 c13)
  · refine WS.run (C := []) (pc' := 194) (L' := [vR 51 0, vI x1, vI x2, vI x3, vJ y4, vU, vJ y6, vU, vJ y8, vU, vJ y10, vU, vJ y12, vU, vJ y14, vU, vJ y16, vU, vJ y18, vU, vJ sy0, vU, vU, vU, vU, vU, vU, vU]) (S' := [vJ y12]) (σ' := σ) 2 rfl trivial ?_
    exact (h.2 c13)
set_option maxRecDepth 4000 in
set_option maxHeartbeats 400000 in
theorem b_MD_isThrough_194 {d : Nat} {σ : Mem} {Post : Option AV → Mem → Prop} {x1 x2 x3 : Int32} {y4 y6 y8 y10 y12 y14 y16 y18 y20 sy0 : Int64} (h : (((lg_cmp y6 (0 : Int64)) ≤ 0 → WS d M_MD_isThrough 211 [vR 51 0, vI x1, vI x2, vI x3, vJ y4, vU, vJ y6, vU, vJ y8, vU, vJ y10, vU, vJ y12, vU, vJ y14, vU, vJ y16, vU, vJ y18, vU, vJ y20, vU, vJ sy0, vU, vU, vU, vU, vU] [vJ (-y12)] σ Post) ∧ (¬ ((lg_cmp y6 (0 : Int64)) ≤ 0) → WS d M_MD_isThrough 211 [vR 51 0, vI x1, vI x2, vI x3, vJ y4, vU, vJ y6, vU, vJ y8, vU, vJ y10, vU, vJ y12, vU, vJ y14, vU, vJ y16, vU, vJ y18, vU, vJ y20, vU, vJ sy0, vU, vU, vU, vU, vU] [vJ y14] σ Post))) : WS d M_MD_isThrough 194 [vR 51 0, vI x1, vI x2, vI x3, vJ y4, vU, vJ y6, vU, vJ y8, vU, vJ y10, vU, vJ y12, vU, vJ y14, vU, vJ y16, vU, vJ y18, vU, vJ y20, vU, vU, vU, vU, vU, vU, vU] [vJ sy0] σ Post := by
  refine WS.run (C := []) (pc' := 200) (L' := [vR 51 0, vI x1, vI x2, vI x3, vJ y4, vU, vJ y6, vU, vJ y8, vU, vJ y10, vU, vJ y12, vU, vJ y14, vU, vJ y16, vU, vJ y18, vU, vJ y20, vU, vJ sy0, vU, vU, vU, vU, vU]) (S' := [vI (lg_cmp y6 (0 : Int64))]) (σ' := σ) 4 rfl trivial ?_
  refine WS.br (P := (lg_cmp y6 (0 : Int64)) ≤ 0) (a := 208) (b := 203) (S' := []) rfl (fun c14 => ?_) (fun c14 => ?_)
  · refine WS.run (C := []) (pc' := 211) (L' := [vR 51 0, vI x1, vI x2, vI x3, vJ y4, vU, vJ y6, vU, vJ y8, vU, vJ y10, vU, vJ y12, vU, vJ y14, vU, vJ y16, vU, vJ y18, vU, vJ y20, vU, vJ sy0, vU, vU, vU, vU, vU]) (S' := [vJ (-y12)]) (σ' := σ) 2 rfl trivial ?_
    exact (h.1 c14)
  · refine WS.run (C := []) (pc' := 211) (L' := [vR 51 0, vI x1, vI x2, vI x3, vJ y4, vU, vJ y6, vU, vJ y8, vU, vJ y10, vU, vJ y12, vU, vJ y14, vU, vJ y16, vU, vJ y18, vU, vJ y20, vU, vJ sy0, vU, vU, vU, vU, vU]) (S' := [vJ y14]) (σ' := σ) 2 rfl trivial ?_
    exact (h.2 c14)
set_option maxRecDepth 4000 in
set_option maxHeartbeats 400000 in
theorem b_MD_isThrough_211 {d : Nat} {σ : Mem} {Post : Option AV → Mem → Prop} {x1 x2 x3 : Int32} {y4 y6 y8 y10 y12 y14 y16 y18 y20 y22 sy0 : Int64} (h : (((lg_cmp y6 (0 : Int64)) ≤ 0 → WS d M_MD_isThrough 228 [vR 51 0, vI x1, vI x2, vI x3, vJ y4, vU, vJ y6, vU, vJ y8, vU, vJ y10, vU, vJ y12, vU, vJ y14, vU, vJ y16, vU, vJ y18, vU, vJ y20, vU, vJ y22, vU, vJ sy0, vU, vU, vU] [vJ (-y6)] σ Post) ∧ (¬ ((lg_cmp y6 (0 : Int64)) ≤ 0) → WS d M_MD_isThrough 228 [vR 51 0, vI x1, vI x2, vI x3, vJ y4, vU, vJ y6, vU, vJ y8, vU, vJ y10, vU, vJ y12, vU, vJ y14, vU, vJ y16, vU, vJ y18, vU, vJ y20, vU, vJ y22, vU, vJ sy0, vU, vU, vU] [vJ y6] σ Post))) : WS d M_MD_isThrough 211 [vR 51 0, vI x1, vI x2, vI x3, vJ y4, vU, vJ y6, vU, vJ y8, vU, vJ y10, vU, vJ y12, vU, vJ y14, vU, vJ y16, vU, vJ y18, vU, vJ y20, vU, vJ y22, vU, vU, vU, vU, vU] [vJ sy0] σ Post := by
  refine WS.run (C := []) (pc' := 217) (L' := [vR 51 0, vI x1, vI x2, vI x3, vJ y4, vU, vJ y6, vU, vJ y8, vU, vJ y10, vU, vJ y12, vU, vJ y14, vU, vJ y16, vU, vJ y18, vU, vJ y20, vU, vJ y22, vU, vJ sy0, vU, vU, vU]) (S' := [vI (lg_cmp y6 (0 : Int64))]) (σ' := σ) 4 rfl trivial ?_
  refine WS.br (P := (lg_cmp y6 (0 : Int64)) ≤ 0) (a := 225) (b := 220) (S' := []) rfl (fun c15 => ?_) (fun c15 => ?_)
  · refine WS.run (C := []) (pc' := 228) (L' := [vR 51 0, vI x1, vI x2, vI x3, vJ y4, vU, vJ y6, vU, vJ y8, vU, vJ y10, vU, vJ y12, vU, vJ y14, vU, vJ y16, vU, vJ y18, vU, vJ y20, vU, vJ y22, vU, vJ sy0, vU, vU, vU]) (S' := [vJ (-y6)]) (σ' := σ) 2 rfl trivial ?_
    exact (h.1 c15)
  · refine WS.run (C := []) (pc' := 228) (L' := [vR 51 0, vI x1, vI x2, vI x3, vJ y4, vU, vJ y6, vU, vJ y8, vU, vJ y10, vU, vJ y12, vU, vJ y14, vU, vJ y16, vU, vJ y18, vU, vJ y20, vU, vJ y22, vU, vJ sy0, vU, vU, vU]) (S' := [vJ y6]) (σ' := σ) 2 rfl trivial ?_
    exact (h.2 c15)
set_option maxRecDepth 4000 in
set_option maxHeartbeats 400000 in
theorem b_MD_isThrough_228 {d : Nat} {σ : Mem} {Post : Option AV → Mem → Prop} {x1 x2 x3 : Int32} {y4 y6 y8 y10 y12 y14 y16 y18 y20 y22 y24 sy0 : Int64} (h : (((lg_cmp y4 (0 : Int64)) = 0 → (((lg_cmp y6 (0 : Int64)) = 0 → WS d M_MD_isThrough 276 [vR 51 0, vI x1, vI x2, vI x3, vJ y4, vU, vJ y6, vU, vJ y8, vU, vJ y10, vU, vJ y12, vU, vJ y14, vU, vJ y16, vU, vJ y18, vU, vJ y20, vU, vJ y22, vU, vJ y24, vU, vJ sy0, vU] [] σ Post) ∧ (¬ ((lg_cmp y6 (0 : Int64)) = 0) → ((0 ≤ (lg_cmp y22 sy0) → Post (some (vI (0 : Int32))) σ) ∧ (¬ (0 ≤ (lg_cmp y22 sy0)) → ((0 < (lg_cmp y24 (0 : Int64)) → WS d M_MD_isThrough 276 [vR 51 0, vI x1, vI x2, vI x3, vJ y4, vU, vJ y6, vU, vJ y8, vU, vJ y10, vU, vJ y12, vU, vJ y14, vU, vJ y16, vU, vJ y18, vU, vJ y20, vU, vJ y22, vU, vJ y24, vU, vJ sy0, vU] [] σ Post) ∧ (¬ (0 < (lg_cmp y24 (0 : Int64))) → Post (some (vI (0 : Int32))) σ))))))) ∧ (¬ ((lg_cmp y4 (0 : Int64)) = 0) → ((0 ≤ (lg_cmp y16 y20) → Post (some (vI (0 : Int32))) σ) ∧ (¬ (0 ≤ (lg_cmp y16 y20)) → (((lg_cmp y18 (0 : Int64)) ≤ 0 → Post (some (vI (0 : Int32))) σ) ∧ (¬ ((lg_cmp y18 (0 : Int64)) ≤ 0) → (((lg_cmp y6 (0 : Int64)) = 0 → WS d M_MD_isThrough 276 [vR 51 0, vI x1, vI x2, vI x3, vJ y4, vU, vJ y6, vU, vJ y8, vU, vJ y10, vU, vJ y12, vU, vJ y14, vU, vJ y16, vU, vJ y18, vU, vJ y20, vU, vJ y22, vU, vJ y24, vU, vJ sy0, vU] [] σ Post) ∧ (¬ ((lg_cmp y6 (0 : Int64)) = 0) → ((0 ≤ (lg_cmp y22 sy0) → Post (some (vI (0 : Int32))) σ) ∧ (¬ (0 ≤ (lg_cmp y22 sy0)) → ((0 < (lg_cmp y24 (0 : Int64)) → WS d M_MD_isThrough 276 [vR 51 0, vI x1, vI x2, vI x3, vJ y4, vU, vJ y6, vU, vJ y8, vU, vJ y10, vU, vJ y12, vU, vJ y14, vU, vJ y16, vU, vJ y18, vU, vJ y20, vU, vJ y22, vU, vJ y24, vU, vJ sy0, vU] [] σ Post) ∧ (¬ (0 < (lg_cmp y24 (0 : Int64))) → Post (some (vI (0 : Int32))) σ))))))))))))) : WS d M_MD_isThrough 228 [vR 51 0, vI x1, vI x2, vI x3, vJ y4, vU, vJ y6, vU, vJ y8, vU, vJ y10, vU, vJ y12, vU, vJ y14, vU, vJ y16, vU, vJ y18, vU, vJ y20, vU, vJ y22, vU, vJ y24, vU, vU, vU] [vJ sy0] σ Post := by
  refine WS.run (C := []) (pc' := 234) (L' := [vR 51 0, vI x1, vI x2, vI x3, vJ y4, vU, vJ y6, vU, vJ y8, vU, vJ y10, vU, vJ y12, vU, vJ y14, vU, vJ y16, vU, vJ y18, vU, vJ y20, vU, vJ y22, vU, vJ y24, vU, vJ sy0, vU]) (S' := [vI (lg_cmp y4 (0 : Int64))]) (σ' := σ) 4 rfl trivial ?_
  refine WS.br (P := (lg_cmp y4 (0 : Int64)) = 0) (a := 252) (b := 237) (S' := []) rfl (fun c16 => ?_) (fun c16 => ?_)
  · refine WS.run (C := []) (pc' := 256) (L' := [vR 51 0, vI x1, vI x2, vI x3, vJ y4, vU, vJ y6, vU, vJ y8, vU, vJ y10, vU, vJ y12, vU, vJ y14, vU, vJ y16, vU, vJ y18, vU, vJ y20, vU, vJ y22, vU, vJ y24, vU, vJ sy0, vU]) (S' := [vI (lg_cmp y6 (0 : Int64))]) (σ' := σ) 3 rfl trivial ?_
    refine WS.br (P := (lg_cmp y6 (0 : Int64)) = 0) (a := 276) (b := 259) (S' := []) rfl (fun c17 => ?_) (fun c17 => ?_)
    · exact ((h.1 c16).1 c17)
    · refine WS.run (C := []) (pc' := 264) (L' := [vR 51 0, vI x1, vI x2, vI x3, vJ y4, vU, vJ y6, vU, vJ y8, vU, vJ y10, vU, vJ y12, vU, vJ y14, vU, vJ y16, vU, vJ y18, vU, vJ y20, vU, vJ y22, vU, vJ y24, vU, vJ sy0, vU]) (S' := [vI (lg_cmp y22 sy0)]) (σ' := σ) 3 rfl trivial ?_
      refine WS.br (P := 0 ≤ (lg_cmp y22 sy0)) (a := 274) (b := 267) (S' := []) rfl (fun c18 => ?_) (fun c18 => ?_)
      · refine WS.run (C := []) (pc' := 275) (L' := [vR 51 0, vI x1, vI x2, vI x3, vJ y4, vU, vJ y6, vU, vJ y8, vU, vJ y10, vU, vJ y12, vU, vJ y14, vU, vJ y16, vU, vJ y18, vU, vJ y20, vU, vJ y22, vU, vJ y24, vU, vJ sy0, vU]) (S' := [vI (0 : Int32)]) (σ' := σ) 1 rfl trivial ?_
        exact WS.ret rfl rfl (by decide) rfl (((h.1 c16).2 c17).1 c18)
      · refine WS.run (C := []) (pc' := 271) (L' := [vR 51 0, vI x1, vI x2, vI x3, vJ y4, vU, vJ y6, vU, vJ y8, vU, vJ y10, vU, vJ y12, vU, vJ y14, vU, vJ y16, vU, vJ y18, vU, vJ y20, vU, vJ y22, vU, vJ y24, vU, vJ sy0, vU]) (S' := [vI (lg_cmp y24 (0 : Int64))]) (σ' := σ) 3 rfl trivial ?_
        refine WS.br (P := 0 < (lg_cmp y24 (0 : Int64))) (a := 276) (b := 274) (S' := []) rfl (fun c19 => ?_) (fun c19 => ?_)
        · exact ((((h.1 c16).2 c17).2 c18).1 c19)
        · refine WS.run (C := []) (pc' := 275) (L' := [vR 51 0, vI x1, vI x2, vI x3, vJ y4, vU, vJ y6, vU, vJ y8, vU, vJ y10, vU, vJ y12, vU, vJ y14, vU, vJ y16, vU, vJ y18, vU, vJ y20, vU, vJ y22, vU, vJ y24, vU, vJ sy0, vU]) (S' := [vI (0 : Int32)]) (σ' := σ) 1 rfl trivial ?_
          exact WS.ret rfl rfl (by decide) rfl ((((h.1 c16).2 c17).2 c18).2 c19)
  · refine WS.run (C := []) (pc' := 242) (L' := [vR 51 0, vI x1, vI x2, vI x3, vJ y4, vU, vJ y6, vU, vJ y8, vU, vJ y10, vU, vJ y12, vU, vJ y14, vU, vJ y16, vU, vJ y18, vU, vJ y20, vU, vJ y22, vU, vJ y24, vU, vJ sy0, vU]) (S' := [vI (lg_cmp y16 y20)]) (σ' := σ) 3 rfl trivial ?_
    refine WS.br (P := 0 ≤ (lg_cmp y16 y20)) (a := 274) (b := 245) (S' := []) rfl (fun c20 => ?_) (fun c20 => ?_)
    · refine WS.run (C := []) (pc' := 275) (L' := [vR 51 0, vI x1, vI x2, vI x3, vJ y4, vU, vJ y6, vU, vJ y8, vU, vJ y10, vU, vJ y12, vU, vJ y14, vU, vJ y16, vU, vJ y18, vU, vJ y20, vU, vJ y22, vU, vJ y24, vU, vJ sy0, vU]) (S' := [vI (0 : Int32)]) (σ' := σ) 1 rfl trivial ?_
      exact WS.ret rfl rfl (by decide) rfl ((h.2 c16).1 c20)
    · refine WS.run (C := []) (pc' := 249) (L' := [vR 51 0, vI x1, vI x2, vI x3, vJ y4, vU, vJ y6, vU, vJ y8, vU, vJ y10, vU, vJ y12, vU, vJ y14, vU, vJ y16, vU, vJ y18, vU, vJ y20, vU, vJ y22, vU, vJ y24, vU, vJ sy0, vU]) (S' := [vI (lg_cmp y18 (0 : Int64))]) (σ' := σ) 3 rfl trivial ?_
      refine WS.br (P := (lg_cmp y18 (0 : Int64)) ≤ 0) (a := 274) (b := 252) (S' := []) rfl (fun c21 => ?_) (fun c21 => ?_)
      · refine WS.run (C := []) (pc' := 275) (L' := [vR 51 0, vI x1, vI x2, vI x3, vJ y4, vU, vJ y6, vU, vJ y8, vU, vJ y10, vU, vJ y12, vU, vJ y14, vU, vJ y16, vU, vJ y18, vU, vJ y20, vU, vJ y22, vU, vJ y24, vU, vJ sy0, vU]) (S' := [vI (0 : Int32)]) (σ' := σ) 1 rfl trivial ?_
        exact WS.ret rfl rfl (by decide) rfl (((h.2 c16).2 c20).1 c21)
      · refine WS.run (C := []) (pc' := 256) (L' := [vR 51 0, vI x1, vI x2, vI x3, vJ y4, vU, vJ y6, vU, vJ y8, vU, vJ y10, vU, vJ y12, vU, vJ y14, vU, vJ y16, vU, vJ y18, vU, vJ y20, vU, vJ y22, vU, vJ y24, vU, vJ sy0, vU]) (S' := [vI (lg_cmp y6 (0 : Int64))]) (σ' := σ) 3 rfl trivial ?_
        refine WS.br (P := (lg_cmp y6 (0 : Int64)) = 0) (a := 276) (b := 259) (S' := []) rfl (fun c22 => ?_) (fun c22 => ?_)
        · exact ((((h.2 c16).2 c20).2 c21).1 c22)
        · refine WS.run (C := []) (pc' := 264) (L' := [vR 51 0, vI x1, vI x2, vI x3, vJ y4, vU, vJ y6, vU, vJ y8, vU, vJ y10, vU, vJ y12, vU, vJ y14, vU, vJ y16, vU, vJ y18, vU, vJ y20, vU, vJ y22, vU, vJ y24, vU, vJ sy0, vU]) (S' := [vI (lg_cmp y22 sy0)]) (σ' := σ) 3 rfl trivial ?_
          refine WS.br (P := 0 ≤ (lg_cmp y22 sy0)) (a := 274) (b := 267) (S' := []) rfl (fun c23 => ?_) (fun c23 => ?_)
          · refine WS.run (C := []) (pc' := 275) (L' := [vR 51 0, vI x1, vI x2, vI x3, vJ y4, vU, vJ y6, vU, vJ y8, vU, vJ y10, vU, vJ y12, vU, vJ y14, vU, vJ y16, vU, vJ y18, vU, vJ y20, vU, vJ y22, vU, vJ y24, vU, vJ sy0, vU]) (S' := [vI (0 : Int32)]) (σ' := σ) 1 rfl trivial ?_
            exact WS.ret rfl rfl (by decide) rfl (((((h.2 c16).2 c20).2 c21).2 c22).1 c23)
          · refine WS.run (C := []) (pc' := 271) (L' := [vR 51 0, vI x1, vI x2, vI x3, vJ y4, vU, vJ y6, vU, vJ y8, vU, vJ y10, vU, vJ y12, vU, vJ y14, vU, vJ y16, vU, vJ y18, vU, vJ y20, vU, vJ y22, vU, vJ y24, vU, vJ sy0, vU]) (S' := [vI (lg_cmp y24 (0 : Int64))]) (σ' := σ) 3 rfl trivial ?_
            refine WS.br (P := 0 < (lg_cmp y24 (0 : Int64))) (a := 276) (b := 274) (S' := []) rfl (fun c24 => ?_) (fun c24 => ?_)
            · exact ((((((h.2 c16).2 c20).2 c21).2 c22).2 c23).1 c24)
            · refine WS.run (C := []) (pc' := 275) (L' := [vR 51 0, vI x1, vI x2, vI x3, vJ y4, vU, vJ y6, vU, vJ y8, vU, vJ y10, vU, vJ y12, vU, vJ y14, vU, vJ y16, vU, vJ y18, vU, vJ y20, vU, vJ y22, vU, vJ y24, vU, vJ sy0, vU]) (S' := [vI (0 : Int32)]) (σ' := σ) 1 rfl trivial ?_
              exact WS.ret rfl rfl (by decide) rfl ((((((h.2 c16).2 c20).2 c21).2 c22).2 c23).2 c24)
set_option maxRecDepth 4000 in
set_option maxHeartbeats 400000 in
theorem b_MD_isThrough_276 {d : Nat} {σ : Mem} {Post : Option AV → Mem → Prop} {x1 x2 x3 : Int32} {y4 y6 y8 y10 y12 y14 y16 y18 y20 y22 y24 y26 : Int64} (h : (((lg_cmp y4 (0 : Int64)) = 0 → Post (some (vI (1 : Int32))) σ) ∧ (¬ ((lg_cmp y4 (0 : Int64)) = 0) → (((lg_cmp y6 (0 : Int64)) = 0 → Post (some (vI (1 : Int32))) σ) ∧ (¬ ((lg_cmp y6 (0 : Int64)) = 0) → ((0 ≤ (lg_cmp (y16 * y26) (y24 * y20)) → Post (some (vI (0 : Int32))) σ) ∧ (¬ (0 ≤ (lg_cmp (y16 * y26) (y24 * y20))) → ((0 ≤ (lg_cmp (y22 * y20) (y18 * y26)) → Post (some (vI (0 : Int32))) σ) ∧ (¬ (0 ≤ (lg_cmp (y22 * y20) (y18 * y26))) → Post (some (vI (1 : Int32))) σ))))))))) : WS d M_MD_isThrough 276 [vR 51 0, vI x1, vI x2, vI x3, vJ y4, vU, vJ y6, vU, vJ y8, vU, vJ y10, vU, vJ y12, vU, vJ y14, vU, vJ y16, vU, vJ y18, vU, vJ y20, vU, vJ y22, vU, vJ y24, vU, vJ y26, vU] [] σ Post := by
  refine WS.run (C := []) (pc' := 280) (L' := [vR 51 0, vI x1, vI x2, vI x3, vJ y4, vU, vJ y6, vU, vJ y8, vU, vJ y10, vU, vJ y12, vU, vJ y14, vU, vJ y16, vU, vJ y18, vU, vJ y20, vU, vJ y22, vU, vJ y24, vU, vJ y26, vU]) (S' := [vI (lg_cmp y4 (0 : Int64))]) (σ' := σ) 3 rfl trivial ?_
  refine WS.br (P := (lg_cmp y4 (0 : Int64)) = 0) (a := 318) (b := 283) (S' := []) rfl (fun c25 => ?_) (fun c25 => ?_)
  · refine WS.run (C := []) (pc' := 323) (L' := [vR 51 0, vI x1, vI x2, vI x3, vJ y4, vU, vJ y6, vU, vJ y8, vU, vJ y10, vU, vJ y12, vU, vJ y14, vU, vJ y16, vU, vJ y18, vU, vJ y20, vU, vJ y22, vU, vJ y24, vU, vJ y26, vU]) (S' := [vI (1 : Int32)]) (σ' := σ) 2 rfl trivial ?_
    exact WS.ret rfl rfl (by decide) rfl (h.1 c25)
  · refine WS.run (C := []) (pc' := 287) (L' := [vR 51 0, vI x1, vI x2, vI x3, vJ y4, vU, vJ y6, vU, vJ y8, vU, vJ y10, vU, vJ y12, vU, vJ y14, vU, vJ y16, vU, vJ y18, vU, vJ y20, vU, vJ y22, vU, vJ y24, vU, vJ y26, vU]) (S' := [vI (lg_cmp y6 (0 : Int64))]) (σ' := σ) 3 rfl trivial ?_
    refine WS.br (P := (lg_cmp y6 (0 : Int64)) = 0) (a := 318) (b := 290) (S' := []) rfl (fun c26 => ?_) (fun c26 => ?_)
    · refine WS.run (C := []) (pc' := 323) (L' := [vR 51 0, vI x1, vI x2, vI x3, vJ y4, vU, vJ y6, vU, vJ y8, vU, vJ y10, vU, vJ y12, vU, vJ y14, vU, vJ y16, vU, vJ y18, vU, vJ y20, vU, vJ y22, vU, vJ y24, vU, vJ y26, vU]) (S' := [vI (1 : Int32)]) (σ' := σ) 2 rfl trivial ?_
      exact WS.ret rfl rfl (by decide) rfl ((h.2 c25).1 c26)
    · refine WS.run (C := []) (pc' := 301) (L' := [vR 51 0, vI x1, vI x2, vI x3, vJ y4, vU, vJ y6, vU, vJ y8, vU, vJ y10, vU, vJ y12, vU, vJ y14, vU, vJ y16, vU, vJ y18, vU, vJ y20, vU, vJ y22, vU, vJ y24, vU, vJ y26, vU]) (S' := [vI (lg_cmp (y16 * y26) (y24 * y20))]) (σ' := σ) 7 rfl trivial ?_
      refine WS.br (P := 0 ≤ (lg_cmp (y16 * y26) (y24 * y20))) (a := 322) (b := 304) (S' := []) rfl (fun c27 => ?_) (fun c27 => ?_)
      · refine WS.run (C := []) (pc' := 323) (L' := [vR 51 0, vI x1, vI x2, vI x3, vJ y4, vU, vJ y6, vU, vJ y8, vU, vJ y10, vU, vJ y12, vU, vJ y14, vU, vJ y16, vU, vJ y18, vU, vJ y20, vU, vJ y22, vU, vJ y24, vU, vJ y26, vU]) (S' := [vI (0 : Int32)]) (σ' := σ) 1 rfl trivial ?_
        exact WS.ret rfl rfl (by decide) rfl (((h.2 c25).2 c26).1 c27)
      · refine WS.run (C := []) (pc' := 315) (L' := [vR 51 0, vI x1, vI x2, vI x3, vJ y4, vU, vJ y6, vU, vJ y8, vU, vJ y10, vU, vJ y12, vU, vJ y14, vU, vJ y16, vU, vJ y18, vU, vJ y20, vU, vJ y22, vU, vJ y24, vU, vJ y26, vU]) (S' := [vI (lg_cmp (y22 * y20) (y18 * y26))]) (σ' := σ) 7 rfl trivial ?_
        refine WS.br (P := 0 ≤ (lg_cmp (y22 * y20) (y18 * y26))) (a := 322) (b := 318) (S' := []) rfl (fun c28 => ?_) (fun c28 => ?_)
        · refine WS.run (C := []) (pc' := 323) (L' := [vR 51 0, vI x1, vI x2, vI x3, vJ y4, vU, vJ y6, vU, vJ y8, vU, vJ y10, vU, vJ y12, vU, vJ y14, vU, vJ y16, vU, vJ y18, vU, vJ y20, vU, vJ y22, vU, vJ y24, vU, vJ y26, vU]) (S' := [vI (0 : Int32)]) (σ' := σ) 1 rfl trivial ?_
          exact WS.ret rfl rfl (by decide) rfl ((((h.2 c25).2 c26).2 c27).1 c28)
        · refine WS.run (C := []) (pc' := 323) (L' := [vR 51 0, vI x1, vI x2, vI x3, vJ y4, vU, vJ y6, vU, vJ y8, vU, vJ y10, vU, vJ y12, vU, vJ y14, vU, vJ y16, vU, vJ y18, vU, vJ y20, vU, vJ y22, vU, vJ y24, vU, vJ y26, vU]) (S' := [vI (1 : Int32)]) (σ' := σ) 2 rfl trivial ?_
          exact WS.ret rfl rfl (by decide) rfl ((((h.2 c25).2 c26).2 c27).2 c28)
set_option maxRecDepth 4000 in
set_option maxHeartbeats 400000 in
theorem b_MD_isFree_0 {d : Nat} {σ : Mem} {Post : Option AV → Mem → Prop} {x1 : Int32} (h : vp_in x1 32 ∧ (((gI σ 74 0 x1.toNatClampNeg) < 0 → Post (some (vI (0 : Int32))) σ) ∧ (¬ ((gI σ 74 0 x1.toNatClampNeg) < 0) → vp_in x1 32 ∧ (((gI σ 75 0 x1.toNatClampNeg) < 0 → Post (some (vI (0 : Int32))) σ) ∧ (¬ ((gI σ 75 0 x1.toNatClampNeg) < 0) → vp_in x1 32 ∧ vp_in x1 32 ∧ (((400 : Int32) < ((gI σ 74 0 x1.toNatClampNeg) + (gI σ 76 0 x1.toNatClampNeg)) → Post (some (vI (0 : Int32))) σ) ∧ (¬ ((400 : Int32) < ((gI σ 74 0 x1.toNatClampNeg) + (gI σ 76 0 x1.toNatClampNeg))) → vp_in x1 32 ∧ ((((gI σ 75 0 x1.toNatClampNeg) + (10 : Int32)) ≤ (400 : Int32) → WS d M_MD_isFree 56 [vR 51 0, vI x1, vI (0 : Int32), vU] [] σ Post) ∧ (¬ (((gI σ 75 0 x1.toNatClampNeg) + (10 : Int32)) ≤ (400 : Int32)) → Post (some (vI (0 : Int32))) σ))))))))) : WS d M_MD_isFree 0 [vR 51 0, vI x1, vU, vU] [] σ Post := by
  refine WS.run (C := [vp_in x1 32]) (pc' := 6) (L' := [vR 51 0, vI x1, vU, vU]) (S' := [vI (gI σ 74 0 x1.toNatClampNeg)]) (σ' := σ) 4 rfl ⟨h.1, trivial⟩ ?_
  refine WS.br (P := (gI σ 74 0 x1.toNatClampNeg) < 0) (a := 52) (b := 9) (S' := []) rfl (fun c1 => ?_) (fun c1 => ?_)
  · refine WS.run (C := []) (pc' := 53) (L' := [vR 51 0, vI x1, vU, vU]) (S' := [vI (0 : Int32)]) (σ' := σ) 1 rfl trivial ?_
    exact WS.ret rfl rfl (by decide) rfl (h.2.1 c1)
  · refine WS.run (C := [vp_in x1 32]) (pc' := 15) (L' := [vR 51 0, vI x1, vU, vU]) (S' := [vI (gI σ 75 0 x1.toNatClampNeg)]) (σ' := σ) 4 rfl ⟨(h.2.2 c1).1, trivial⟩ ?_
    refine WS.br (P := (gI σ 75 0 x1.toNatClampNeg) < 0) (a := 52) (b := 18) (S' := []) rfl (fun c2 => ?_) (fun c2 => ?_)
    · refine WS.run (C := []) (pc' := 53) (L' := [vR 51 0, vI x1, vU, vU]) (S' := [vI (0 : Int32)]) (σ' := σ) 1 rfl trivial ?_
      exact WS.ret rfl rfl (by decide) rfl ((h.2.2 c1).2.1 c2)
    · refine WS.run (C := [vp_in x1 32, vp_in x1 32]) (pc' := 34) (L' := [vR 51 0, vI x1, vU, vU]) (S' := [vI (400 : Int32), vI ((gI σ 74 0 x1.toNatClampNeg) + (gI σ 76 0 x1.toNatClampNeg))]) (σ' := σ) 10 rfl ⟨((h.2.2 c1).2.2 c2).1, ((h.2.2 c1).2.2 c2).2.1, trivial⟩ ?_
      refine WS.br (P := (400 : Int32) < ((gI σ 74 0 x1.toNatClampNeg) + (gI σ 76 0 x1.toNatClampNeg))) (a := 52) (b := 37) (S' := []) rfl (fun c3 => ?_) (fun c3 => ?_)
      · refine WS.run (C := []) (pc' := 53) (L' := [vR 51 0, vI x1, vU, vU]) (S' := [vI (0 : Int32)]) (σ' := σ) 1 rfl trivial ?_
        exact WS.ret rfl rfl (by decide) rfl (((h.2.2 c1).2.2 c2).2.2.1 c3)
      · refine WS.run (C := [vp_in x1 32]) (pc' := 49) (L' := [vR 51 0, vI x1, vU, vU]) (S' := [vI (400 : Int32), vI ((gI σ 75 0 x1.toNatClampNeg) + (10 : Int32))]) (σ' := σ) 7 rfl ⟨(((h.2.2 c1).2.2 c2).2.2.2 c3).1, trivial⟩ ?_
        refine WS.br (P := ((gI σ 75 0 x1.toNatClampNeg) + (10 : Int32)) ≤ (400 : Int32)) (a := 54) (b := 52) (S' := []) rfl (fun c4 => ?_) (fun c4 => ?_)
        · refine WS.run (C := []) (pc' := 56) (L' := [vR 51 0, vI x1, vI (0 : Int32), vU]) (S' := []) (σ' := σ) 2 rfl trivial ?_
          exact ((((h.2.2 c1).2.2 c2).2.2.2 c3).2.1 c4)
        · refine WS.run (C := []) (pc' := 53) (L' := [vR 51 0, vI x1, vU, vU]) (S' := [vI (0 : Int32)]) (σ' := σ) 1 rfl trivial ?_
          exact WS.ret rfl rfl (by decide) rfl ((((h.2.2 c1).2.2 c2).2.2.2 c3).2.2 c4)
set_option maxRecDepth 4000 in
set_option maxHeartbeats 400000 in
theorem b_MD_isFree_56 {d : Nat} {σ : Mem} {Post : Option AV → Mem → Prop} {x1 x2 : Int32} {v3 : AV} (h : (((12 : Int32) ≤ x2 → Post (some (vI (1 : Int32))) σ) ∧ (¬ ((12 : Int32) ≤ x2) → MM d M_MD_isWay [vR 51 0, vI x2] σ (fun r τ => WS (d + 1) M_MD_isFree 67 [vR 51 0, vI x1, vI x2, v3] (r.toList ++ []) τ Post)))) : WS (d + 1) M_MD_isFree 56 [vR 51 0, vI x1, vI x2, v3] [] σ Post := by
  refine WS.run (C := []) (pc' := 59) (L' := [vR 51 0, vI x1, vI x2, v3]) (S' := [vI (12 : Int32), vI x2]) (σ' := σ) 2 rfl trivial ?_
  refine WS.br (P := (12 : Int32) ≤ x2) (a := 134) (b := 62) (S' := []) rfl (fun c5 => ?_) (fun c5 => ?_)
  · refine WS.run (C := []) (pc' := 135) (L' := [vR 51 0, vI x1, vI x2, v3]) (S' := [vI (1 : Int32)]) (σ' := σ) 1 rfl trivial ?_
    exact WS.ret rfl rfl (by decide) rfl (h.1 c5)
  · refine WS.run (C := []) (pc' := 64) (L' := [vR 51 0, vI x1, vI x2, v3]) (S' := [vI x2, vR 51 0]) (σ' := σ) 2 rfl trivial ?_
    refine WS.callV M_MD_isWay (k := 51) (i := 0) (as := [vI x2]) (rest := []) rfl lk_11_118 rfl rfl rfl (Nat.le_of_ble_eq_true rfl) ?_
    exact (h.2 c5)
set_option maxRecDepth 4000 in
set_option maxHeartbeats 400000 in
theorem b_MD_isFree_67t {d : Nat} {σ : Mem} {Post : Option AV → Mem → Prop} {x1 x2 : Int32} {v3 : AV} (h : (((((gI σ 51 0 10) >>> (x2 &&& 31)) &&& (1 : Int32)) = 0 → WS d M_MD_isFree 56 [vR 51 0, vI x1, vI (x2 + (1 : Int32)), v3] [] σ Post) ∧ (¬ ((((gI σ 51 0 10) >>> (x2 &&& 31)) &&& (1 : Int32)) = 0) → WS d M_MD_isFree 86 [vR 51 0, vI x1, vI x2, vI (0 : Int32)] [] σ Post))) : WS d M_MD_isFree 67 [vR 51 0, vI x1, vI x2, v3] [vI (1 : Int32)] σ Post := by
  refine WS.br (P := (1 : Int32) = 0) (a := 128) (b := 70) (S' := []) rfl (fun cc => absurd cc (by decide)) (fun _ => ?_)
  refine WS.run (C := []) (pc' := 78) (L' := [vR 51 0, vI x1, vI x2, v3]) (S' := [vI (((gI σ 51 0 10) >>> (x2 &&& 31)) &&& (1 : Int32))]) (σ' := σ) 6 rfl trivial ?_
  refine WS.br (P := (((gI σ 51 0 10) >>> (x2 &&& 31)) &&& (1 : Int32)) = 0) (a := 81) (b := 84) (S' := []) rfl (fun c6 => ?_) (fun c6 => ?_)
  · refine WS.run (C := []) (pc' := 56) (L' := [vR 51 0, vI x1, vI (x2 + (1 : Int32)), v3]) (S' := []) (σ' := σ) 3 rfl trivial ?_
    exact (h.1 c6)
  · refine WS.run (C := []) (pc' := 86) (L' := [vR 51 0, vI x1, vI x2, vI (0 : Int32)]) (S' := []) (σ' := σ) 2 rfl trivial ?_
    exact (h.2 c6)
set_option maxRecDepth 4000 in
set_option maxHeartbeats 400000 in
theorem b_MD_isFree_67f {d : Nat} {σ : Mem} {Post : Option AV → Mem → Prop} {x1 x2 : Int32} {v3 : AV} (h : WS d M_MD_isFree 56 [vR 51 0, vI x1, vI (x2 + (1 : Int32)), v3] [] σ Post) : WS d M_MD_isFree 67 [vR 51 0, vI x1, vI x2, v3] [vI (0 : Int32)] σ Post := by
  refine WS.br (P := (0 : Int32) = 0) (a := 128) (b := 70) (S' := []) rfl (fun _ => ?_) (fun cc => absurd (by decide) cc)
  refine WS.run (C := []) (pc' := 56) (L' := [vR 51 0, vI x1, vI (x2 + (1 : Int32)), v3]) (S' := []) (σ' := σ) 2 rfl trivial ?_
  exact h
set_option maxRecDepth 4000 in
set_option maxHeartbeats 400000 in
theorem b_MD_isFree_86 {d : Nat} {σ : Mem} {Post : Option AV → Mem → Prop} {x1 x2 x3 : Int32} (h : vp_in x2 12 ∧ (((gI σ 58 0 x2.toNatClampNeg) ≤ (x3 + (1 : Int32)) → WS (d + 1) M_MD_isFree 56 [vR 51 0, vI x1, vI (x2 + (1 : Int32)), vI x3] [] σ Post) ∧ (¬ ((gI σ 58 0 x2.toNatClampNeg) ≤ (x3 + (1 : Int32))) → MM d M_MD_at [vR 51 0, vI x2, vI x3] σ (fun r τ => WS (d + 1) M_MD_isFree 105 [vR 51 0, vI x1, vI x2, vI x3] (r.toList ++ [vR 51 0]) τ Post)))) : WS (d + 1) M_MD_isFree 86 [vR 51 0, vI x1, vI x2, vI x3] [] σ Post := by
  refine WS.run (C := [vp_in x2 12]) (pc' := 95) (L' := [vR 51 0, vI x1, vI x2, vI x3]) (S' := [vI (gI σ 58 0 x2.toNatClampNeg), vI (x3 + (1 : Int32))]) (σ' := σ) 7 rfl ⟨h.1, trivial⟩ ?_
  refine WS.br (P := (gI σ 58 0 x2.toNatClampNeg) ≤ (x3 + (1 : Int32))) (a := 128) (b := 98) (S' := []) rfl (fun c7 => ?_) (fun c7 => ?_)
  · refine WS.run (C := []) (pc' := 56) (L' := [vR 51 0, vI x1, vI (x2 + (1 : Int32)), vI x3]) (S' := []) (σ' := σ) 2 rfl trivial ?_
    exact (h.2.1 c7)
  · refine WS.run (C := []) (pc' := 102) (L' := [vR 51 0, vI x1, vI x2, vI x3]) (S' := [vI x3, vI x2, vR 51 0, vR 51 0]) (σ' := σ) 4 rfl trivial ?_
    refine WS.callV M_MD_at (k := 51) (i := 0) (as := [vI x2, vI x3]) (rest := [vR 51 0]) rfl lk_11_150 rfl rfl rfl (Nat.le_of_ble_eq_true rfl) ?_
    exact (h.2.2 c7)
set_option maxRecDepth 4000 in
set_option maxHeartbeats 400000 in
theorem b_MD_isFree_105 {d : Nat} {σ : Mem} {Post : Option AV → Mem → Prop} {x1 x2 x3 sx0 : Int32} (h : MM d M_MD_at [vR 51 0, vI x2, vI (x3 + (1 : Int32))] σ (fun r τ => WS (d + 1) M_MD_isFree 113 [vR 51 0, vI x1, vI x2, vI x3] (r.toList ++ [vI sx0, vR 51 0]) τ Post)) : WS (d + 1) M_MD_isFree 105 [vR 51 0, vI x1, vI x2, vI x3] [vI sx0, vR 51 0] σ Post := by
  refine WS.run (C := []) (pc' := 110) (L' := [vR 51 0, vI x1, vI x2, vI x3]) (S' := [vI (x3 + (1 : Int32)), vI x2, vR 51 0, vI sx0, vR 51 0]) (σ' := σ) 5 rfl trivial ?_
  refine WS.callV M_MD_at (k := 51) (i := 0) (as := [vI x2, vI (x3 + (1 : Int32))]) (rest := [vI sx0, vR 51 0]) rfl lk_11_150 rfl rfl rfl (Nat.le_of_ble_eq_true rfl) ?_
  exact h
set_option maxRecDepth 4000 in
set_option maxHeartbeats 400000 in
theorem b_MD_isFree_113 {d : Nat} {σ : Mem} {Post : Option AV → Mem → Prop} {x1 x2 x3 sx0 sx1 : Int32} (h : MM d M_MD_isThrough [vR 51 0, vI sx1, vI sx0, vI x1] σ (fun r τ => WS (d + 1) M_MD_isFree 117 [vR 51 0, vI x1, vI x2, vI x3] (r.toList ++ []) τ Post)) : WS (d + 1) M_MD_isFree 113 [vR 51 0, vI x1, vI x2, vI x3] [vI sx0, vI sx1, vR 51 0] σ Post := by
  refine WS.run (C := []) (pc' := 114) (L' := [vR 51 0, vI x1, vI x2, vI x3]) (S' := [vI x1, vI sx0, vI sx1, vR 51 0]) (σ' := σ) 1 rfl trivial ?_
  refine WS.callV M_MD_isThrough (k := 51) (i := 0) (as := [vI sx1, vI sx0, vI x1]) (rest := []) rfl lk_11_216 rfl rfl rfl (Nat.le_of_ble_eq_true rfl) ?_
  exact h
set_option maxRecDepth 4000 in
set_option maxHeartbeats 400000 in
theorem b_MD_isFree_117t {d : Nat} {σ : Mem} {Post : Option AV → Mem → Prop} {x1 x2 x3 : Int32} (h : Post (some (vI (0 : Int32))) σ) : WS d M_MD_isFree 117 [vR 51 0, vI x1, vI x2, vI x3] [vI (1 : Int32)] σ Post := by
  refine WS.br (P := (1 : Int32) = 0) (a := 122) (b := 120) (S' := []) rfl (fun cc => absurd cc (by decide)) (fun _ => ?_)
  refine WS.run (C := []) (pc' := 121) (L' := [vR 51 0, vI x1, vI x2, vI x3]) (S' := [vI (0 : Int32)]) (σ' := σ) 1 rfl trivial ?_
  exact WS.ret rfl rfl (by decide) rfl h
set_option maxRecDepth 4000 in
set_option maxHeartbeats 400000 in
theorem b_MD_isFree_117f {d : Nat} {σ : Mem} {Post : Option AV → Mem → Prop} {x1 x2 x3 : Int32} (h : WS d M_MD_isFree 86 [vR 51 0, vI x1, vI x2, vI (x3 + (1 : Int32))] [] σ Post) : WS d M_MD_isFree 117 [vR 51 0, vI x1, vI x2, vI x3] [vI (0 : Int32)] σ Post := by
  refine WS.br (P := (0 : Int32) = 0) (a := 122) (b := 120) (S' := []) rfl (fun _ => ?_) (fun cc => absurd (by decide) cc)
  refine WS.run (C := []) (pc' := 86) (L' := [vR 51 0, vI x1, vI x2, vI (x3 + (1 : Int32))]) (S' := []) (σ' := σ) 2 rfl trivial ?_
  exact h
set_option maxRecDepth 4000 in
set_option maxHeartbeats 400000 in
theorem b_MD_boxes_0 {d : Nat} {σ : Mem} {Post : Option AV → Mem → Prop}  (h : WS d M_MD_boxes 2 [vR 51 0, vI (0 : Int32), vU, vU, vU] [] σ Post) : WS d M_MD_boxes 0 [vR 51 0, vU, vU, vU, vU] [] σ Post := by
  refine WS.run (C := []) (pc' := 2) (L' := [vR 51 0, vI (0 : Int32), vU, vU, vU]) (S' := []) (σ' := σ) 2 rfl trivial ?_
  exact h
set_option maxRecDepth 4000 in
set_option maxHeartbeats 400000 in
theorem b_MD_boxes_2 {d : Nat} {σ : Mem} {Post : Option AV → Mem → Prop} {x1 : Int32} {v2 v3 v4 : AV} (h : (((8 : Int32) ≤ x1 → WS d M_MD_boxes 183 [vR 51 0, vI (0 : Int32), v2, v3, v4] [] σ Post) ∧ (¬ ((8 : Int32) ≤ x1) → WS d M_MD_boxes 10 [vR 51 0, vI x1, vI (0 : Int32), v3, v4] [] σ Post))) : WS d M_MD_boxes 2 [vR 51 0, vI x1, v2, v3, v4] [] σ Post := by
  refine WS.run (C := []) (pc' := 5) (L' := [vR 51 0, vI x1, v2, v3, v4]) (S' := [vI (8 : Int32), vI x1]) (σ' := σ) 2 rfl trivial ?_
  refine WS.br (P := (8 : Int32) ≤ x1) (a := 181) (b := 8) (S' := []) rfl (fun c1 => ?_) (fun c1 => ?_)
  · refine WS.run (C := []) (pc' := 183) (L' := [vR 51 0, vI (0 : Int32), v2, v3, v4]) (S' := []) (σ' := σ) 2 rfl trivial ?_
    exact (h.1 c1)
  · refine WS.run (C := []) (pc' := 10) (L' := [vR 51 0, vI x1, vI (0 : Int32), v3, v4]) (S' := []) (σ' := σ) 2 rfl trivial ?_
    exact (h.2 c1)
set_option maxRecDepth 4000 in
set_option maxHeartbeats 400000 in
theorem b_MD_boxes_10 {d : Nat} {σ : Mem} {Post : Option AV → Mem → Prop} {x1 x2 : Int32} {v3 v4 : AV} (h : (((4 : Int32) ≤ x2 → WS (d + 1) M_MD_boxes 2 [vR 51 0, vI (x1 + (1 : Int32)), vI x2, v3, v4] [] σ Post) ∧ (¬ ((4 : Int32) ≤ x2) → vp_in (((4 : Int32) * x1) + x2) 32 ∧ (∀ σ1 : Mem, σ1 = pI σ 77 0 (((4 : Int32) * x1) + x2).toNatClampNeg (0 : Int32) → MM d M_MD_isName [vR 51 0, vI x1] σ1 (fun r τ => WS (d + 1) M_MD_boxes 33 [vR 51 0, vI x1, vI x2, vI (((4 : Int32) * x1) + x2), v4] (r.toList ++ []) τ Post))))) : WS (d + 1) M_MD_boxes 10 [vR 51 0, vI x1, vI x2, v3, v4] [] σ Post := by
  refine WS.run (C := []) (pc' := 12) (L' := [vR 51 0, vI x1, vI x2, v3, v4]) (S' := [vI (4 : Int32), vI x2]) (σ' := σ) 2 rfl trivial ?_
  refine WS.br (P := (4 : Int32) ≤ x2) (a := 175) (b := 15) (S' := []) rfl (fun c2 => ?_) (fun c2 => ?_)
  · refine WS.run (C := []) (pc' := 2) (L' := [vR 51 0, vI (x1 + (1 : Int32)), vI x2, v3, v4]) (S' := []) (σ' := σ) 2 rfl trivial ?_
    exact (h.1 c2)
  · refine WS.run (C := [vp_in (((4 : Int32) * x1) + x2) 32, (0 : Int32) = 0 ∨ (0 : Int32) = 1]) (pc' := 28) (L' := [vR 51 0, vI x1, vI x2, vI (((4 : Int32) * x1) + x2), v4]) (S' := []) (σ' := pI σ 77 0 (((4 : Int32) * x1) + x2).toNatClampNeg (0 : Int32)) 11 rfl ⟨(h.2 c2).1, (by decide), trivial⟩ ?_
    obtain ⟨σ1, eσ1⟩ : ∃ z, z = pI σ 77 0 (((4 : Int32) * x1) + x2).toNatClampNeg (0 : Int32) := ⟨_, rfl⟩
    rw [← eσ1]
    refine WS.run (C := []) (pc' := 30) (L' := [vR 51 0, vI x1, vI x2, vI (((4 : Int32) * x1) + x2), v4]) (S' := [vI x1, vR 51 0]) (σ' := σ1) 2 rfl trivial ?_
    refine WS.callV M_MD_isName (k := 51) (i := 0) (as := [vI x1]) (rest := []) rfl lk_11_211 rfl rfl rfl (Nat.le_of_ble_eq_true rfl) ?_
    exact ((h.2 c2).2 σ1 eσ1)
set_option maxRecDepth 4000 in
set_option maxHeartbeats 400000 in
theorem b_MD_boxes_33t {d : Nat} {σ : Mem} {Post : Option AV → Mem → Prop} {x1 x2 x3 : Int32} {v4 : AV} (h : MM d M_MD_writes [vR 51 0, vI x1] σ (fun r τ => WS (d + 1) M_MD_boxes 44 [vR 51 0, vI x1, vI x2, vI x3, v4] (r.toList ++ []) τ Post)) : WS (d + 1) M_MD_boxes 33 [vR 51 0, vI x1, vI x2, vI x3, v4] [vI (1 : Int32)] σ Post := by
  refine WS.br (P := (1 : Int32) = 0) (a := 36) (b := 39) (S' := []) rfl (fun cc => absurd cc (by decide)) (fun _ => ?_)
  refine WS.run (C := []) (pc' := 41) (L' := [vR 51 0, vI x1, vI x2, vI x3, v4]) (S' := [vI x1, vR 51 0]) (σ' := σ) 2 rfl trivial ?_
  refine WS.callV M_MD_writes (k := 51) (i := 0) (as := [vI x1]) (rest := []) rfl lk_11_208 rfl rfl rfl (Nat.le_of_ble_eq_true rfl) ?_
  exact h
set_option maxRecDepth 4000 in
set_option maxHeartbeats 400000 in
theorem b_MD_boxes_33f {d : Nat} {σ : Mem} {Post : Option AV → Mem → Prop} {x1 x2 x3 : Int32} {v4 : AV} (h : WS d M_MD_boxes 10 [vR 51 0, vI x1, vI (x2 + (1 : Int32)), vI x3, v4] [] σ Post) : WS d M_MD_boxes 33 [vR 51 0, vI x1, vI x2, vI x3, v4] [vI (0 : Int32)] σ Post := by
  refine WS.br (P := (0 : Int32) = 0) (a := 36) (b := 39) (S' := []) rfl (fun _ => ?_) (fun cc => absurd (by decide) cc)
  refine WS.run (C := []) (pc' := 10) (L' := [vR 51 0, vI x1, vI (x2 + (1 : Int32)), vI x3, v4]) (S' := []) (σ' := σ) 3 rfl trivial ?_
  exact h
set_option maxRecDepth 4000 in
set_option maxHeartbeats 400000 in
theorem b_MD_boxes_44 {d : Nat} {σ : Mem} {Post : Option AV → Mem → Prop} {x1 x2 x3 sx0 : Int32} {v4 : AV} (h : vp_in x3 32 ∧ (∀ σ1 : Mem, σ1 = pI σ 76 0 x3.toNatClampNeg ((6 : Int32) * sx0) → ((x2 = 0 → vp_in x1 8 ∧ vp_in x3 32 ∧ (∀ σ2 : Mem, σ2 = pI σ1 74 0 x3.toNatClampNeg ((gI σ1 69 0 x1.toNatClampNeg) + (4 : Int32)) → (((2 : Int32) ≤ x2 → ((x2 = (2 : Int32) → vp_in x1 8 ∧ vp_in x3 32 ∧ (∀ σ3 : Mem, σ3 = pI σ2 75 0 x3.toNatClampNeg ((gI σ2 70 0 x1.toNatClampNeg) + (4 : Int32)) → MM d M_MD_isFree [vR 51 0, vI x3] σ3 (fun r τ => WS (d + 1) M_MD_boxes 168 [vR 51 0, vI x1, vI x2, vI x3, vI sx0] (r.toList ++ [vI x3, vR 77 0]) τ Post))) ∧ (¬ (x2 = (2 : Int32)) → vp_in x1 8 ∧ vp_in x3 32 ∧ (∀ σ4 : Mem, σ4 = pI σ2 75 0 x3.toNatClampNeg ((gI σ2 70 0 x1.toNatClampNeg) - (14 : Int32)) → MM d M_MD_isFree [vR 51 0, vI x3] σ4 (fun r τ => WS (d + 1) M_MD_boxes 168 [vR 51 0, vI x1, vI x2, vI x3, vI sx0] (r.toList ++ [vI x3, vR 77 0]) τ Post))))) ∧ (¬ ((2 : Int32) ≤ x2) → vp_in x1 8 ∧ vp_in x3 32 ∧ (∀ σ5 : Mem, σ5 = pI σ2 75 0 x3.toNatClampNeg ((gI σ2 70 0 x1.toNatClampNeg) - (5 : Int32)) → MM d M_MD_isFree [vR 51 0, vI x3] σ5 (fun r τ => WS (d + 1) M_MD_boxes 168 [vR 51 0, vI x1, vI x2, vI x3, vI sx0] (r.toList ++ [vI x3, vR 77 0]) τ Post)))))) ∧ (¬ (x2 = 0) → ((x2 = (1 : Int32) → vp_in x1 8 ∧ vp_in x3 32 ∧ (∀ σ6 : Mem, σ6 = pI σ1 74 0 x3.toNatClampNeg (((gI σ1 69 0 x1.toNatClampNeg) - (4 : Int32)) - ((6 : Int32) * sx0)) → (((2 : Int32) ≤ x2 → ((x2 = (2 : Int32) → vp_in x1 8 ∧ vp_in x3 32 ∧ (∀ σ7 : Mem, σ7 = pI σ6 75 0 x3.toNatClampNeg ((gI σ6 70 0 x1.toNatClampNeg) + (4 : Int32)) → MM d M_MD_isFree [vR 51 0, vI x3] σ7 (fun r τ => WS (d + 1) M_MD_boxes 168 [vR 51 0, vI x1, vI x2, vI x3, vI sx0] (r.toList ++ [vI x3, vR 77 0]) τ Post))) ∧ (¬ (x2 = (2 : Int32)) → vp_in x1 8 ∧ vp_in x3 32 ∧ (∀ σ8 : Mem, σ8 = pI σ6 75 0 x3.toNatClampNeg ((gI σ6 70 0 x1.toNatClampNeg) - (14 : Int32)) → MM d M_MD_isFree [vR 51 0, vI x3] σ8 (fun r τ => WS (d + 1) M_MD_boxes 168 [vR 51 0, vI x1, vI x2, vI x3, vI sx0] (r.toList ++ [vI x3, vR 77 0]) τ Post))))) ∧ (¬ ((2 : Int32) ≤ x2) → vp_in x1 8 ∧ vp_in x3 32 ∧ (∀ σ9 : Mem, σ9 = pI σ6 75 0 x3.toNatClampNeg ((gI σ6 70 0 x1.toNatClampNeg) - (5 : Int32)) → MM d M_MD_isFree [vR 51 0, vI x3] σ9 (fun r τ => WS (d + 1) M_MD_boxes 168 [vR 51 0, vI x1, vI x2, vI x3, vI sx0] (r.toList ++ [vI x3, vR 77 0]) τ Post)))))) ∧ (¬ (x2 = (1 : Int32)) → vp_in x1 8 ∧ vp_in x3 32 ∧ (∀ σ10 : Mem, σ10 = pI σ1 74 0 x3.toNatClampNeg ((gI σ1 69 0 x1.toNatClampNeg) - ((3 : Int32) * sx0)) → (((2 : Int32) ≤ x2 → ((x2 = (2 : Int32) → vp_in x1 8 ∧ vp_in x3 32 ∧ (∀ σ11 : Mem, σ11 = pI σ10 75 0 x3.toNatClampNeg ((gI σ10 70 0 x1.toNatClampNeg) + (4 : Int32)) → MM d M_MD_isFree [vR 51 0, vI x3] σ11 (fun r τ => WS (d + 1) M_MD_boxes 168 [vR 51 0, vI x1, vI x2, vI x3, vI sx0] (r.toList ++ [vI x3, vR 77 0]) τ Post))) ∧ (¬ (x2 = (2 : Int32)) → vp_in x1 8 ∧ vp_in x3 32 ∧ (∀ σ12 : Mem, σ12 = pI σ10 75 0 x3.toNatClampNeg ((gI σ10 70 0 x1.toNatClampNeg) - (14 : Int32)) → MM d M_MD_isFree [vR 51 0, vI x3] σ12 (fun r τ => WS (d + 1) M_MD_boxes 168 [vR 51 0, vI x1, vI x2, vI x3, vI sx0] (r.toList ++ [vI x3, vR 77 0]) τ Post))))) ∧ (¬ ((2 : Int32) ≤ x2) → vp_in x1 8 ∧ vp_in x3 32 ∧ (∀ σ13 : Mem, σ13 = pI σ10 75 0 x3.toNatClampNeg ((gI σ10 70 0 x1.toNatClampNeg) - (5 : Int32)) → MM d M_MD_isFree [vR 51 0, vI x3] σ13 (fun r τ => WS (d + 1) M_MD_boxes 168 [vR 51 0, vI x1, vI x2, vI x3, vI sx0] (r.toList ++ [vI x3, vR 77 0]) τ Post))))))))))) : WS (d + 1) M_MD_boxes 44 [vR 51 0, vI x1, vI x2, vI x3, v4] [vI sx0] σ Post := by
  refine WS.run (C := [vp_in x3 32]) (pc' := 57) (L' := [vR 51 0, vI x1, vI x2, vI x3, vI sx0]) (S' := []) (σ' := pI σ 76 0 x3.toNatClampNeg ((6 : Int32) * sx0)) 8 rfl ⟨h.1, trivial⟩ ?_
  obtain ⟨σ1, eσ1⟩ : ∃ z, z = pI σ 76 0 x3.toNatClampNeg ((6 : Int32) * sx0) := ⟨_, rfl⟩
  rw [← eσ1]
  refine WS.run (C := []) (pc' := 63) (L' := [vR 51 0, vI x1, vI x2, vI x3, vI sx0]) (S' := [vI x2, vI x3, vR 74 0]) (σ' := σ1) 4 rfl trivial ?_
  refine WS.br (P := x2 = 0) (a := 66) (b := 77) (S' := [vI x3, vR 74 0]) rfl (fun c3 => ?_) (fun c3 => ?_)
  · refine WS.run (C := [vp_in x1 8, vp_in x3 32]) (pc' := 111) (L' := [vR 51 0, vI x1, vI x2, vI x3, vI sx0]) (S' := []) (σ' := pI σ1 74 0 x3.toNatClampNeg ((gI σ1 69 0 x1.toNatClampNeg) + (4 : Int32))) 8 rfl ⟨((h.2 σ1 eσ1).1 c3).1, ((h.2 σ1 eσ1).1 c3).2.1, trivial⟩ ?_
    obtain ⟨σ2, eσ2⟩ : ∃ z, z = pI σ1 74 0 x3.toNatClampNeg ((gI σ1 69 0 x1.toNatClampNeg) + (4 : Int32)) := ⟨_, rfl⟩
    rw [← eσ2]
    refine WS.run (C := []) (pc' := 118) (L' := [vR 51 0, vI x1, vI x2, vI x3, vI sx0]) (S' := [vI (2 : Int32), vI x2, vI x3, vR 75 0]) (σ' := σ2) 5 rfl trivial ?_
    refine WS.br (P := (2 : Int32) ≤ x2) (a := 132) (b := 121) (S' := [vI x3, vR 75 0]) rfl (fun c4 => ?_) (fun c4 => ?_)
    · refine WS.run (C := []) (pc' := 134) (L' := [vR 51 0, vI x1, vI x2, vI x3, vI sx0]) (S' := [vI (2 : Int32), vI x2, vI x3, vR 75 0]) (σ' := σ2) 2 rfl trivial ?_
      refine WS.br (P := x2 = (2 : Int32)) (a := 137) (b := 148) (S' := [vI x3, vR 75 0]) rfl (fun c5 => ?_) (fun c5 => ?_)
      · refine WS.run (C := [vp_in x1 8, vp_in x3 32]) (pc' := 158) (L' := [vR 51 0, vI x1, vI x2, vI x3, vI sx0]) (S' := []) (σ' := pI σ2 75 0 x3.toNatClampNeg ((gI σ2 70 0 x1.toNatClampNeg) + (4 : Int32))) 8 rfl ⟨(((((h.2 σ1 eσ1).1 c3).2.2 σ2 eσ2).1 c4).1 c5).1, (((((h.2 σ1 eσ1).1 c3).2.2 σ2 eσ2).1 c4).1 c5).2.1, trivial⟩ ?_
        obtain ⟨σ3, eσ3⟩ : ∃ z, z = pI σ2 75 0 x3.toNatClampNeg ((gI σ2 70 0 x1.toNatClampNeg) + (4 : Int32)) := ⟨_, rfl⟩
        rw [← eσ3]
        refine WS.run (C := []) (pc' := 165) (L' := [vR 51 0, vI x1, vI x2, vI x3, vI sx0]) (S' := [vI x3, vR 51 0, vI x3, vR 77 0]) (σ' := σ3) 5 rfl trivial ?_
        refine WS.callV M_MD_isFree (k := 51) (i := 0) (as := [vI x3]) (rest := [vI x3, vR 77 0]) rfl lk_11_219 rfl rfl rfl (Nat.le_of_ble_eq_true rfl) ?_
        exact ((((((h.2 σ1 eσ1).1 c3).2.2 σ2 eσ2).1 c4).1 c5).2.2 σ3 eσ3)
      · refine WS.run (C := [vp_in x1 8, vp_in x3 32]) (pc' := 158) (L' := [vR 51 0, vI x1, vI x2, vI x3, vI sx0]) (S' := []) (σ' := pI σ2 75 0 x3.toNatClampNeg ((gI σ2 70 0 x1.toNatClampNeg) - (14 : Int32))) 7 rfl ⟨(((((h.2 σ1 eσ1).1 c3).2.2 σ2 eσ2).1 c4).2 c5).1, (((((h.2 σ1 eσ1).1 c3).2.2 σ2 eσ2).1 c4).2 c5).2.1, trivial⟩ ?_
        obtain ⟨σ4, eσ4⟩ : ∃ z, z = pI σ2 75 0 x3.toNatClampNeg ((gI σ2 70 0 x1.toNatClampNeg) - (14 : Int32)) := ⟨_, rfl⟩
        rw [← eσ4]
        refine WS.run (C := []) (pc' := 165) (L' := [vR 51 0, vI x1, vI x2, vI x3, vI sx0]) (S' := [vI x3, vR 51 0, vI x3, vR 77 0]) (σ' := σ4) 5 rfl trivial ?_
        refine WS.callV M_MD_isFree (k := 51) (i := 0) (as := [vI x3]) (rest := [vI x3, vR 77 0]) rfl lk_11_219 rfl rfl rfl (Nat.le_of_ble_eq_true rfl) ?_
        exact ((((((h.2 σ1 eσ1).1 c3).2.2 σ2 eσ2).1 c4).2 c5).2.2 σ4 eσ4)
    · refine WS.run (C := [vp_in x1 8, vp_in x3 32]) (pc' := 158) (L' := [vR 51 0, vI x1, vI x2, vI x3, vI sx0]) (S' := []) (σ' := pI σ2 75 0 x3.toNatClampNeg ((gI σ2 70 0 x1.toNatClampNeg) - (5 : Int32))) 8 rfl ⟨((((h.2 σ1 eσ1).1 c3).2.2 σ2 eσ2).2 c4).1, ((((h.2 σ1 eσ1).1 c3).2.2 σ2 eσ2).2 c4).2.1, trivial⟩ ?_
      obtain ⟨σ5, eσ5⟩ : ∃ z, z = pI σ2 75 0 x3.toNatClampNeg ((gI σ2 70 0 x1.toNatClampNeg) - (5 : Int32)) := ⟨_, rfl⟩
      rw [← eσ5]
      refine WS.run (C := []) (pc' := 165) (L' := [vR 51 0, vI x1, vI x2, vI x3, vI sx0]) (S' := [vI x3, vR 51 0, vI x3, vR 77 0]) (σ' := σ5) 5 rfl trivial ?_
      refine WS.callV M_MD_isFree (k := 51) (i := 0) (as := [vI x3]) (rest := [vI x3, vR 77 0]) rfl lk_11_219 rfl rfl rfl (Nat.le_of_ble_eq_true rfl) ?_
      exact (((((h.2 σ1 eσ1).1 c3).2.2 σ2 eσ2).2 c4).2.2 σ5 eσ5)
  · refine WS.run (C := []) (pc' := 79) (L' := [vR 51 0, vI x1, vI x2, vI x3, vI sx0]) (S' := [vI (1 : Int32), vI x2, vI x3, vR 74 0]) (σ' := σ1) 2 rfl trivial ?_
    refine WS.br (P := x2 = (1 : Int32)) (a := 82) (b := 99) (S' := [vI x3, vR 74 0]) rfl (fun c6 => ?_) (fun c6 => ?_)
    · refine WS.run (C := [vp_in x1 8, vp_in x3 32]) (pc' := 111) (L' := [vR 51 0, vI x1, vI x2, vI x3, vI sx0]) (S' := []) (σ' := pI σ1 74 0 x3.toNatClampNeg (((gI σ1 69 0 x1.toNatClampNeg) - (4 : Int32)) - ((6 : Int32) * sx0))) 12 rfl ⟨(((h.2 σ1 eσ1).2 c3).1 c6).1, (((h.2 σ1 eσ1).2 c3).1 c6).2.1, trivial⟩ ?_
      obtain ⟨σ6, eσ6⟩ : ∃ z, z = pI σ1 74 0 x3.toNatClampNeg (((gI σ1 69 0 x1.toNatClampNeg) - (4 : Int32)) - ((6 : Int32) * sx0)) := ⟨_, rfl⟩
      rw [← eσ6]
      refine WS.run (C := []) (pc' := 118) (L' := [vR 51 0, vI x1, vI x2, vI x3, vI sx0]) (S' := [vI (2 : Int32), vI x2, vI x3, vR 75 0]) (σ' := σ6) 5 rfl trivial ?_
      refine WS.br (P := (2 : Int32) ≤ x2) (a := 132) (b := 121) (S' := [vI x3, vR 75 0]) rfl (fun c7 => ?_) (fun c7 => ?_)
      · refine WS.run (C := []) (pc' := 134) (L' := [vR 51 0, vI x1, vI x2, vI x3, vI sx0]) (S' := [vI (2 : Int32), vI x2, vI x3, vR 75 0]) (σ' := σ6) 2 rfl trivial ?_
        refine WS.br (P := x2 = (2 : Int32)) (a := 137) (b := 148) (S' := [vI x3, vR 75 0]) rfl (fun c8 => ?_) (fun c8 => ?_)
        · refine WS.run (C := [vp_in x1 8, vp_in x3 32]) (pc' := 158) (L' := [vR 51 0, vI x1, vI x2, vI x3, vI sx0]) (S' := []) (σ' := pI σ6 75 0 x3.toNatClampNeg ((gI σ6 70 0 x1.toNatClampNeg) + (4 : Int32))) 8 rfl ⟨((((((h.2 σ1 eσ1).2 c3).1 c6).2.2 σ6 eσ6).1 c7).1 c8).1, ((((((h.2 σ1 eσ1).2 c3).1 c6).2.2 σ6 eσ6).1 c7).1 c8).2.1, trivial⟩ ?_
          obtain ⟨σ7, eσ7⟩ : ∃ z, z = pI σ6 75 0 x3.toNatClampNeg ((gI σ6 70 0 x1.toNatClampNeg) + (4 : Int32)) := ⟨_, rfl⟩
          rw [← eσ7]
          refine WS.run (C := []) (pc' := 165) (L' := [vR 51 0, vI x1, vI x2, vI x3, vI sx0]) (S' := [vI x3, vR 51 0, vI x3, vR 77 0]) (σ' := σ7) 5 rfl trivial ?_
          refine WS.callV M_MD_isFree (k := 51) (i := 0) (as := [vI x3]) (rest := [vI x3, vR 77 0]) rfl lk_11_219 rfl rfl rfl (Nat.le_of_ble_eq_true rfl) ?_
          exact (((((((h.2 σ1 eσ1).2 c3).1 c6).2.2 σ6 eσ6).1 c7).1 c8).2.2 σ7 eσ7)
        · refine WS.run (C := [vp_in x1 8, vp_in x3 32]) (pc' := 158) (L' := [vR 51 0, vI x1, vI x2, vI x3, vI sx0]) (S' := []) (σ' := pI σ6 75 0 x3.toNatClampNeg ((gI σ6 70 0 x1.toNatClampNeg) - (14 : Int32))) 7 rfl ⟨((((((h.2 σ1 eσ1).2 c3).1 c6).2.2 σ6 eσ6).1 c7).2 c8).1, ((((((h.2 σ1 eσ1).2 c3).1 c6).2.2 σ6 eσ6).1 c7).2 c8).2.1, trivial⟩ ?_
          obtain ⟨σ8, eσ8⟩ : ∃ z, z = pI σ6 75 0 x3.toNatClampNeg ((gI σ6 70 0 x1.toNatClampNeg) - (14 : Int32)) := ⟨_, rfl⟩
          rw [← eσ8]
          refine WS.run (C := []) (pc' := 165) (L' := [vR 51 0, vI x1, vI x2, vI x3, vI sx0]) (S' := [vI x3, vR 51 0, vI x3, vR 77 0]) (σ' := σ8) 5 rfl trivial ?_
          refine WS.callV M_MD_isFree (k := 51) (i := 0) (as := [vI x3]) (rest := [vI x3, vR 77 0]) rfl lk_11_219 rfl rfl rfl (Nat.le_of_ble_eq_true rfl) ?_
          exact (((((((h.2 σ1 eσ1).2 c3).1 c6).2.2 σ6 eσ6).1 c7).2 c8).2.2 σ8 eσ8)
      · refine WS.run (C := [vp_in x1 8, vp_in x3 32]) (pc' := 158) (L' := [vR 51 0, vI x1, vI x2, vI x3, vI sx0]) (S' := []) (σ' := pI σ6 75 0 x3.toNatClampNeg ((gI σ6 70 0 x1.toNatClampNeg) - (5 : Int32))) 8 rfl ⟨(((((h.2 σ1 eσ1).2 c3).1 c6).2.2 σ6 eσ6).2 c7).1, (((((h.2 σ1 eσ1).2 c3).1 c6).2.2 σ6 eσ6).2 c7).2.1, trivial⟩ ?_
        obtain ⟨σ9, eσ9⟩ : ∃ z, z = pI σ6 75 0 x3.toNatClampNeg ((gI σ6 70 0 x1.toNatClampNeg) - (5 : Int32)) := ⟨_, rfl⟩
        rw [← eσ9]
        refine WS.run (C := []) (pc' := 165) (L' := [vR 51 0, vI x1, vI x2, vI x3, vI sx0]) (S' := [vI x3, vR 51 0, vI x3, vR 77 0]) (σ' := σ9) 5 rfl trivial ?_
        refine WS.callV M_MD_isFree (k := 51) (i := 0) (as := [vI x3]) (rest := [vI x3, vR 77 0]) rfl lk_11_219 rfl rfl rfl (Nat.le_of_ble_eq_true rfl) ?_
        exact ((((((h.2 σ1 eσ1).2 c3).1 c6).2.2 σ6 eσ6).2 c7).2.2 σ9 eσ9)
    · refine WS.run (C := [vp_in x1 8, vp_in x3 32]) (pc' := 111) (L' := [vR 51 0, vI x1, vI x2, vI x3, vI sx0]) (S' := []) (σ' := pI σ1 74 0 x3.toNatClampNeg ((gI σ1 69 0 x1.toNatClampNeg) - ((3 : Int32) * sx0))) 9 rfl ⟨(((h.2 σ1 eσ1).2 c3).2 c6).1, (((h.2 σ1 eσ1).2 c3).2 c6).2.1, trivial⟩ ?_
      obtain ⟨σ10, eσ10⟩ : ∃ z, z = pI σ1 74 0 x3.toNatClampNeg ((gI σ1 69 0 x1.toNatClampNeg) - ((3 : Int32) * sx0)) := ⟨_, rfl⟩
      rw [← eσ10]
      refine WS.run (C := []) (pc' := 118) (L' := [vR 51 0, vI x1, vI x2, vI x3, vI sx0]) (S' := [vI (2 : Int32), vI x2, vI x3, vR 75 0]) (σ' := σ10) 5 rfl trivial ?_
      refine WS.br (P := (2 : Int32) ≤ x2) (a := 132) (b := 121) (S' := [vI x3, vR 75 0]) rfl (fun c9 => ?_) (fun c9 => ?_)
      · refine WS.run (C := []) (pc' := 134) (L' := [vR 51 0, vI x1, vI x2, vI x3, vI sx0]) (S' := [vI (2 : Int32), vI x2, vI x3, vR 75 0]) (σ' := σ10) 2 rfl trivial ?_
        refine WS.br (P := x2 = (2 : Int32)) (a := 137) (b := 148) (S' := [vI x3, vR 75 0]) rfl (fun c10 => ?_) (fun c10 => ?_)
        · refine WS.run (C := [vp_in x1 8, vp_in x3 32]) (pc' := 158) (L' := [vR 51 0, vI x1, vI x2, vI x3, vI sx0]) (S' := []) (σ' := pI σ10 75 0 x3.toNatClampNeg ((gI σ10 70 0 x1.toNatClampNeg) + (4 : Int32))) 8 rfl ⟨((((((h.2 σ1 eσ1).2 c3).2 c6).2.2 σ10 eσ10).1 c9).1 c10).1, ((((((h.2 σ1 eσ1).2 c3).2 c6).2.2 σ10 eσ10).1 c9).1 c10).2.1, trivial⟩ ?_
          obtain ⟨σ11, eσ11⟩ : ∃ z, z = pI σ10 75 0 x3.toNatClampNeg ((gI σ10 70 0 x1.toNatClampNeg) + (4 : Int32)) := ⟨_, rfl⟩
          rw [← eσ11]
          refine WS.run (C := []) (pc' := 165) (L' := [vR 51 0, vI x1, vI x2, vI x3, vI sx0]) (S' := [vI x3, vR 51 0, vI x3, vR 77 0]) (σ' := σ11) 5 rfl trivial ?_
          refine WS.callV M_MD_isFree (k := 51) (i := 0) (as := [vI x3]) (rest := [vI x3, vR 77 0]) rfl lk_11_219 rfl rfl rfl (Nat.le_of_ble_eq_true rfl) ?_
          exact (((((((h.2 σ1 eσ1).2 c3).2 c6).2.2 σ10 eσ10).1 c9).1 c10).2.2 σ11 eσ11)
        · refine WS.run (C := [vp_in x1 8, vp_in x3 32]) (pc' := 158) (L' := [vR 51 0, vI x1, vI x2, vI x3, vI sx0]) (S' := []) (σ' := pI σ10 75 0 x3.toNatClampNeg ((gI σ10 70 0 x1.toNatClampNeg) - (14 : Int32))) 7 rfl ⟨((((((h.2 σ1 eσ1).2 c3).2 c6).2.2 σ10 eσ10).1 c9).2 c10).1, ((((((h.2 σ1 eσ1).2 c3).2 c6).2.2 σ10 eσ10).1 c9).2 c10).2.1, trivial⟩ ?_
          obtain ⟨σ12, eσ12⟩ : ∃ z, z = pI σ10 75 0 x3.toNatClampNeg ((gI σ10 70 0 x1.toNatClampNeg) - (14 : Int32)) := ⟨_, rfl⟩
          rw [← eσ12]
          refine WS.run (C := []) (pc' := 165) (L' := [vR 51 0, vI x1, vI x2, vI x3, vI sx0]) (S' := [vI x3, vR 51 0, vI x3, vR 77 0]) (σ' := σ12) 5 rfl trivial ?_
          refine WS.callV M_MD_isFree (k := 51) (i := 0) (as := [vI x3]) (rest := [vI x3, vR 77 0]) rfl lk_11_219 rfl rfl rfl (Nat.le_of_ble_eq_true rfl) ?_
          exact (((((((h.2 σ1 eσ1).2 c3).2 c6).2.2 σ10 eσ10).1 c9).2 c10).2.2 σ12 eσ12)
      · refine WS.run (C := [vp_in x1 8, vp_in x3 32]) (pc' := 158) (L' := [vR 51 0, vI x1, vI x2, vI x3, vI sx0]) (S' := []) (σ' := pI σ10 75 0 x3.toNatClampNeg ((gI σ10 70 0 x1.toNatClampNeg) - (5 : Int32))) 8 rfl ⟨(((((h.2 σ1 eσ1).2 c3).2 c6).2.2 σ10 eσ10).2 c9).1, (((((h.2 σ1 eσ1).2 c3).2 c6).2.2 σ10 eσ10).2 c9).2.1, trivial⟩ ?_
        obtain ⟨σ13, eσ13⟩ : ∃ z, z = pI σ10 75 0 x3.toNatClampNeg ((gI σ10 70 0 x1.toNatClampNeg) - (5 : Int32)) := ⟨_, rfl⟩
        rw [← eσ13]
        refine WS.run (C := []) (pc' := 165) (L' := [vR 51 0, vI x1, vI x2, vI x3, vI sx0]) (S' := [vI x3, vR 51 0, vI x3, vR 77 0]) (σ' := σ13) 5 rfl trivial ?_
        refine WS.callV M_MD_isFree (k := 51) (i := 0) (as := [vI x3]) (rest := [vI x3, vR 77 0]) rfl lk_11_219 rfl rfl rfl (Nat.le_of_ble_eq_true rfl) ?_
        exact ((((((h.2 σ1 eσ1).2 c3).2 c6).2.2 σ10 eσ10).2 c9).2.2 σ13 eσ13)
set_option maxRecDepth 4000 in
set_option maxHeartbeats 400000 in
theorem b_MD_boxes_168 {d : Nat} {σ : Mem} {Post : Option AV → Mem → Prop} {x1 x2 x3 x4 sx0 sx1 : Int32} (h : vp_in sx1 32 ∧ (sx0 = 0 ∨ sx0 = 1) ∧ (∀ σ1 : Mem, σ1 = pI σ 77 0 sx1.toNatClampNeg sx0 → WS d M_MD_boxes 10 [vR 51 0, vI x1, vI (x2 + (1 : Int32)), vI x3, vI x4] [] σ1 Post)) : WS d M_MD_boxes 168 [vR 51 0, vI x1, vI x2, vI x3, vI x4] [vI sx0, vI sx1, vR 77 0] σ Post := by
  refine WS.run (C := [vp_in sx1 32, sx0 = 0 ∨ sx0 = 1]) (pc' := 169) (L' := [vR 51 0, vI x1, vI x2, vI x3, vI x4]) (S' := []) (σ' := pI σ 77 0 sx1.toNatClampNeg sx0) 1 rfl ⟨h.1, h.2.1, trivial⟩ ?_
  obtain ⟨σ1, eσ1⟩ : ∃ z, z = pI σ 77 0 sx1.toNatClampNeg sx0 := ⟨_, rfl⟩
  rw [← eσ1]
  refine WS.run (C := []) (pc' := 10) (L' := [vR 51 0, vI x1, vI (x2 + (1 : Int32)), vI x3, vI x4]) (S' := []) (σ' := σ1) 2 rfl trivial ?_
  exact (h.2.2 σ1 eσ1)
set_option maxRecDepth 4000 in
set_option maxHeartbeats 400000 in
theorem b_MD_boxes_183 {d : Nat} {σ : Mem} {Post : Option AV → Mem → Prop} {x1 : Int32} {v2 v3 v4 : AV} (h : (((32 : Int32) ≤ x1 → Post none σ) ∧ (¬ ((32 : Int32) ≤ x1) → WS d M_MD_boxes 191 [vR 51 0, vI x1, vI (0 : Int32), v3, v4] [] σ Post))) : WS d M_MD_boxes 183 [vR 51 0, vI x1, v2, v3, v4] [] σ Post := by
  refine WS.run (C := []) (pc' := 186) (L' := [vR 51 0, vI x1, v2, v3, v4]) (S' := [vI (32 : Int32), vI x1]) (σ' := σ) 2 rfl trivial ?_
  refine WS.br (P := (32 : Int32) ≤ x1) (a := 305) (b := 189) (S' := []) rfl (fun c11 => ?_) (fun c11 => ?_)
  · exact WS.vret rfl rfl (h.1 c11)
  · refine WS.run (C := []) (pc' := 191) (L' := [vR 51 0, vI x1, vI (0 : Int32), v3, v4]) (S' := []) (σ' := σ) 2 rfl trivial ?_
    exact (h.2 c11)
set_option maxRecDepth 4000 in
set_option maxHeartbeats 400000 in
theorem b_MD_boxes_191 {d : Nat} {σ : Mem} {Post : Option AV → Mem → Prop} {x1 x2 : Int32} {v3 v4 : AV} (h : (((32 : Int32) ≤ x2 → WS d M_MD_boxes 183 [vR 51 0, vI (x1 + (1 : Int32)), vI x2, v3, v4] [] σ Post) ∧ (¬ ((32 : Int32) ≤ x2) → vp_in x1 32 ∧ vp_in x2 32 ∧ vp_in x2 32 ∧ ((((gI σ 74 0 x2.toNatClampNeg) + (gI σ 76 0 x2.toNatClampNeg)) ≤ (gI σ 74 0 x1.toNatClampNeg) → vp_in (((32 : Int32) * x1) + x2) 1024 ∧ (∀ σ1 : Mem, σ1 = pI σ 78 0 (((32 : Int32) * x1) + x2).toNatClampNeg (0 : Int32) → WS d M_MD_boxes 191 [vR 51 0, vI x1, vI (x2 + (1 : Int32)), v3, v4] [] σ1 Post)) ∧ (¬ (((gI σ 74 0 x2.toNatClampNeg) + (gI σ 76 0 x2.toNatClampNeg)) ≤ (gI σ 74 0 x1.toNatClampNeg)) → vp_in x2 32 ∧ vp_in x1 32 ∧ vp_in x1 32 ∧ ((((gI σ 74 0 x1.toNatClampNeg) + (gI σ 76 0 x1.toNatClampNeg)) ≤ (gI σ 74 0 x2.toNatClampNeg) → vp_in (((32 : Int32) * x1) + x2) 1024 ∧ (∀ σ2 : Mem, σ2 = pI σ 78 0 (((32 : Int32) * x1) + x2).toNatClampNeg (0 : Int32) → WS d M_MD_boxes 191 [vR 51 0, vI x1, vI (x2 + (1 : Int32)), v3, v4] [] σ2 Post)) ∧ (¬ (((gI σ 74 0 x1.toNatClampNeg) + (gI σ 76 0 x1.toNatClampNeg)) ≤ (gI σ 74 0 x2.toNatClampNeg)) → vp_in x1 32 ∧ vp_in x2 32 ∧ ((((gI σ 75 0 x2.toNatClampNeg) + (10 : Int32)) ≤ (gI σ 75 0 x1.toNatClampNeg) → vp_in (((32 : Int32) * x1) + x2) 1024 ∧ (∀ σ3 : Mem, σ3 = pI σ 78 0 (((32 : Int32) * x1) + x2).toNatClampNeg (0 : Int32) → WS d M_MD_boxes 191 [vR 51 0, vI x1, vI (x2 + (1 : Int32)), v3, v4] [] σ3 Post)) ∧ (¬ (((gI σ 75 0 x2.toNatClampNeg) + (10 : Int32)) ≤ (gI σ 75 0 x1.toNatClampNeg)) → vp_in x2 32 ∧ vp_in x1 32 ∧ ((((gI σ 75 0 x1.toNatClampNeg) + (10 : Int32)) ≤ (gI σ 75 0 x2.toNatClampNeg) → vp_in (((32 : Int32) * x1) + x2) 1024 ∧ (∀ σ4 : Mem, σ4 = pI σ 78 0 (((32 : Int32) * x1) + x2).toNatClampNeg (0 : Int32) → WS d M_MD_boxes 191 [vR 51 0, vI x1, vI (x2 + (1 : Int32)), v3, v4] [] σ4 Post)) ∧ (¬ (((gI σ 75 0 x1.toNatClampNeg) + (10 : Int32)) ≤ (gI σ 75 0 x2.toNatClampNeg)) → vp_in (((32 : Int32) * x1) + x2) 1024 ∧ (∀ σ5 : Mem, σ5 = pI σ 78 0 (((32 : Int32) * x1) + x2).toNatClampNeg (1 : Int32) → WS d M_MD_boxes 191 [vR 51 0, vI x1, vI (x2 + (1 : Int32)), v3, v4] [] σ5 Post)))))))))))) : WS d M_MD_boxes 191 [vR 51 0, vI x1, vI x2, v3, v4] [] σ Post := by
  refine WS.run (C := []) (pc' := 194) (L' := [vR 51 0, vI x1, vI x2, v3, v4]) (S' := [vI (32 : Int32), vI x2]) (σ' := σ) 2 rfl trivial ?_
  refine WS.br (P := (32 : Int32) ≤ x2) (a := 299) (b := 197) (S' := []) rfl (fun c12 => ?_) (fun c12 => ?_)
  · refine WS.run (C := []) (pc' := 183) (L' := [vR 51 0, vI (x1 + (1 : Int32)), vI x2, v3, v4]) (S' := []) (σ' := σ) 2 rfl trivial ?_
    exact (h.1 c12)
  · refine WS.run (C := [vp_in x1 32, vp_in x2 32, vp_in x2 32]) (pc' := 226) (L' := [vR 51 0, vI x1, vI x2, v3, v4]) (S' := [vI ((gI σ 74 0 x2.toNatClampNeg) + (gI σ 76 0 x2.toNatClampNeg)), vI (gI σ 74 0 x1.toNatClampNeg), vI (((32 : Int32) * x1) + x2), vR 78 0]) (σ' := σ) 20 rfl ⟨(h.2 c12).1, (h.2 c12).2.1, (h.2 c12).2.2.1, trivial⟩ ?_
    refine WS.br (P := ((gI σ 74 0 x2.toNatClampNeg) + (gI σ 76 0 x2.toNatClampNeg)) ≤ (gI σ 74 0 x1.toNatClampNeg)) (a := 291) (b := 229) (S' := [vI (((32 : Int32) * x1) + x2), vR 78 0]) rfl (fun c13 => ?_) (fun c13 => ?_)
    · refine WS.run (C := [vp_in (((32 : Int32) * x1) + x2) 1024, (0 : Int32) = 0 ∨ (0 : Int32) = 1]) (pc' := 293) (L' := [vR 51 0, vI x1, vI x2, v3, v4]) (S' := []) (σ' := pI σ 78 0 (((32 : Int32) * x1) + x2).toNatClampNeg (0 : Int32)) 2 rfl ⟨((h.2 c12).2.2.2.1 c13).1, (by decide), trivial⟩ ?_
      obtain ⟨σ1, eσ1⟩ : ∃ z, z = pI σ 78 0 (((32 : Int32) * x1) + x2).toNatClampNeg (0 : Int32) := ⟨_, rfl⟩
      rw [← eσ1]
      refine WS.run (C := []) (pc' := 191) (L' := [vR 51 0, vI x1, vI (x2 + (1 : Int32)), v3, v4]) (S' := []) (σ' := σ1) 2 rfl trivial ?_
      exact (((h.2 c12).2.2.2.1 c13).2 σ1 eσ1)
    · refine WS.run (C := [vp_in x2 32, vp_in x1 32, vp_in x1 32]) (pc' := 248) (L' := [vR 51 0, vI x1, vI x2, v3, v4]) (S' := [vI ((gI σ 74 0 x1.toNatClampNeg) + (gI σ 76 0 x1.toNatClampNeg)), vI (gI σ 74 0 x2.toNatClampNeg), vI (((32 : Int32) * x1) + x2), vR 78 0]) (σ' := σ) 13 rfl ⟨((h.2 c12).2.2.2.2 c13).1, ((h.2 c12).2.2.2.2 c13).2.1, ((h.2 c12).2.2.2.2 c13).2.2.1, trivial⟩ ?_
      refine WS.br (P := ((gI σ 74 0 x1.toNatClampNeg) + (gI σ 76 0 x1.toNatClampNeg)) ≤ (gI σ 74 0 x2.toNatClampNeg)) (a := 291) (b := 251) (S' := [vI (((32 : Int32) * x1) + x2), vR 78 0]) rfl (fun c14 => ?_) (fun c14 => ?_)
      · refine WS.run (C := [vp_in (((32 : Int32) * x1) + x2) 1024, (0 : Int32) = 0 ∨ (0 : Int32) = 1]) (pc' := 293) (L' := [vR 51 0, vI x1, vI x2, v3, v4]) (S' := []) (σ' := pI σ 78 0 (((32 : Int32) * x1) + x2).toNatClampNeg (0 : Int32)) 2 rfl ⟨(((h.2 c12).2.2.2.2 c13).2.2.2.1 c14).1, (by decide), trivial⟩ ?_
        obtain ⟨σ2, eσ2⟩ : ∃ z, z = pI σ 78 0 (((32 : Int32) * x1) + x2).toNatClampNeg (0 : Int32) := ⟨_, rfl⟩
        rw [← eσ2]
        refine WS.run (C := []) (pc' := 191) (L' := [vR 51 0, vI x1, vI (x2 + (1 : Int32)), v3, v4]) (S' := []) (σ' := σ2) 2 rfl trivial ?_
        exact ((((h.2 c12).2.2.2.2 c13).2.2.2.1 c14).2 σ2 eσ2)
      · refine WS.run (C := [vp_in x1 32, vp_in x2 32]) (pc' := 266) (L' := [vR 51 0, vI x1, vI x2, v3, v4]) (S' := [vI ((gI σ 75 0 x2.toNatClampNeg) + (10 : Int32)), vI (gI σ 75 0 x1.toNatClampNeg), vI (((32 : Int32) * x1) + x2), vR 78 0]) (σ' := σ) 10 rfl ⟨(((h.2 c12).2.2.2.2 c13).2.2.2.2 c14).1, (((h.2 c12).2.2.2.2 c13).2.2.2.2 c14).2.1, trivial⟩ ?_
        refine WS.br (P := ((gI σ 75 0 x2.toNatClampNeg) + (10 : Int32)) ≤ (gI σ 75 0 x1.toNatClampNeg)) (a := 291) (b := 269) (S' := [vI (((32 : Int32) * x1) + x2), vR 78 0]) rfl (fun c15 => ?_) (fun c15 => ?_)
        · refine WS.run (C := [vp_in (((32 : Int32) * x1) + x2) 1024, (0 : Int32) = 0 ∨ (0 : Int32) = 1]) (pc' := 293) (L' := [vR 51 0, vI x1, vI x2, v3, v4]) (S' := []) (σ' := pI σ 78 0 (((32 : Int32) * x1) + x2).toNatClampNeg (0 : Int32)) 2 rfl ⟨((((h.2 c12).2.2.2.2 c13).2.2.2.2 c14).2.2.1 c15).1, (by decide), trivial⟩ ?_
          obtain ⟨σ3, eσ3⟩ : ∃ z, z = pI σ 78 0 (((32 : Int32) * x1) + x2).toNatClampNeg (0 : Int32) := ⟨_, rfl⟩
          rw [← eσ3]
          refine WS.run (C := []) (pc' := 191) (L' := [vR 51 0, vI x1, vI (x2 + (1 : Int32)), v3, v4]) (S' := []) (σ' := σ3) 2 rfl trivial ?_
          exact (((((h.2 c12).2.2.2.2 c13).2.2.2.2 c14).2.2.1 c15).2 σ3 eσ3)
        · refine WS.run (C := [vp_in x2 32, vp_in x1 32]) (pc' := 284) (L' := [vR 51 0, vI x1, vI x2, v3, v4]) (S' := [vI ((gI σ 75 0 x1.toNatClampNeg) + (10 : Int32)), vI (gI σ 75 0 x2.toNatClampNeg), vI (((32 : Int32) * x1) + x2), vR 78 0]) (σ' := σ) 10 rfl ⟨((((h.2 c12).2.2.2.2 c13).2.2.2.2 c14).2.2.2 c15).1, ((((h.2 c12).2.2.2.2 c13).2.2.2.2 c14).2.2.2 c15).2.1, trivial⟩ ?_
          refine WS.br (P := ((gI σ 75 0 x1.toNatClampNeg) + (10 : Int32)) ≤ (gI σ 75 0 x2.toNatClampNeg)) (a := 291) (b := 287) (S' := [vI (((32 : Int32) * x1) + x2), vR 78 0]) rfl (fun c16 => ?_) (fun c16 => ?_)
          · refine WS.run (C := [vp_in (((32 : Int32) * x1) + x2) 1024, (0 : Int32) = 0 ∨ (0 : Int32) = 1]) (pc' := 293) (L' := [vR 51 0, vI x1, vI x2, v3, v4]) (S' := []) (σ' := pI σ 78 0 (((32 : Int32) * x1) + x2).toNatClampNeg (0 : Int32)) 2 rfl ⟨(((((h.2 c12).2.2.2.2 c13).2.2.2.2 c14).2.2.2 c15).2.2.1 c16).1, (by decide), trivial⟩ ?_
            obtain ⟨σ4, eσ4⟩ : ∃ z, z = pI σ 78 0 (((32 : Int32) * x1) + x2).toNatClampNeg (0 : Int32) := ⟨_, rfl⟩
            rw [← eσ4]
            refine WS.run (C := []) (pc' := 191) (L' := [vR 51 0, vI x1, vI (x2 + (1 : Int32)), v3, v4]) (S' := []) (σ' := σ4) 2 rfl trivial ?_
            exact ((((((h.2 c12).2.2.2.2 c13).2.2.2.2 c14).2.2.2 c15).2.2.1 c16).2 σ4 eσ4)
          · refine WS.run (C := [vp_in (((32 : Int32) * x1) + x2) 1024, (1 : Int32) = 0 ∨ (1 : Int32) = 1]) (pc' := 293) (L' := [vR 51 0, vI x1, vI x2, v3, v4]) (S' := []) (σ' := pI σ 78 0 (((32 : Int32) * x1) + x2).toNatClampNeg (1 : Int32)) 3 rfl ⟨(((((h.2 c12).2.2.2.2 c13).2.2.2.2 c14).2.2.2 c15).2.2.2 c16).1, (by decide), trivial⟩ ?_
            obtain ⟨σ5, eσ5⟩ : ∃ z, z = pI σ 78 0 (((32 : Int32) * x1) + x2).toNatClampNeg (1 : Int32) := ⟨_, rfl⟩
            rw [← eσ5]
            refine WS.run (C := []) (pc' := 191) (L' := [vR 51 0, vI x1, vI (x2 + (1 : Int32)), v3, v4]) (S' := []) (σ' := σ5) 2 rfl trivial ?_
            exact ((((((h.2 c12).2.2.2.2 c13).2.2.2.2 c14).2.2.2 c15).2.2.2 c16).2 σ5 eσ5)
set_option maxRecDepth 4000 in
set_option maxHeartbeats 400000 in
theorem b_MD_mayCome_0 {d : Nat} {σ : Mem} {Post : Option AV → Mem → Prop} {x1 : Int32} (h : vp_in x1 8 ∧ (((gI σ 79 0 x1.toNatClampNeg) = (4 : Int32) → Post (some (vI (1 : Int32))) σ) ∧ (¬ ((gI σ 79 0 x1.toNatClampNeg) = (4 : Int32)) → vp_in x1 8 ∧ vp_in (((4 : Int32) * x1) + (gI σ 79 0 x1.toNatClampNeg)) 32 ∧ (((gI σ 77 0 (((4 : Int32) * x1) + (gI σ 79 0 x1.toNatClampNeg)).toNatClampNeg) = 0 → Post (some (vI (0 : Int32))) σ) ∧ (¬ ((gI σ 77 0 (((4 : Int32) * x1) + (gI σ 79 0 x1.toNatClampNeg)).toNatClampNeg) = 0) → WS d M_MD_mayCome 36 [vR 51 0, vI x1, vI (((4 : Int32) * x1) + (gI σ 79 0 x1.toNatClampNeg)), vI (0 : Int32)] [] σ Post))))) : WS d M_MD_mayCome 0 [vR 51 0, vI x1, vU, vU] [] σ Post := by
  refine WS.run (C := [vp_in x1 8]) (pc' := 7) (L' := [vR 51 0, vI x1, vU, vU]) (S' := [vI (4 : Int32), vI (gI σ 79 0 x1.toNatClampNeg)]) (σ' := σ) 5 rfl ⟨h.1, trivial⟩ ?_
  refine WS.br (P := (gI σ 79 0 x1.toNatClampNeg) = (4 : Int32)) (a := 10) (b := 12) (S' := []) rfl (fun c1 => ?_) (fun c1 => ?_)
  · refine WS.run (C := []) (pc' := 11) (L' := [vR 51 0, vI x1, vU, vU]) (S' := [vI (1 : Int32)]) (σ' := σ) 1 rfl trivial ?_
    exact WS.ret rfl rfl (by decide) rfl (h.2.1 c1)
  · refine WS.run (C := [vp_in x1 8, vp_in (((4 : Int32) * x1) + (gI σ 79 0 x1.toNatClampNeg)) 32]) (pc' := 29) (L' := [vR 51 0, vI x1, vI (((4 : Int32) * x1) + (gI σ 79 0 x1.toNatClampNeg)), vU]) (S' := [vI (gI σ 77 0 (((4 : Int32) * x1) + (gI σ 79 0 x1.toNatClampNeg)).toNatClampNeg)]) (σ' := σ) 13 rfl ⟨(h.2.2 c1).1, (h.2.2 c1).2.1, trivial⟩ ?_
    refine WS.br (P := (gI σ 77 0 (((4 : Int32) * x1) + (gI σ 79 0 x1.toNatClampNeg)).toNatClampNeg) = 0) (a := 32) (b := 34) (S' := []) rfl (fun c2 => ?_) (fun c2 => ?_)
    · refine WS.run (C := []) (pc' := 33) (L' := [vR 51 0, vI x1, vI (((4 : Int32) * x1) + (gI σ 79 0 x1.toNatClampNeg)), vU]) (S' := [vI (0 : Int32)]) (σ' := σ) 1 rfl trivial ?_
      exact WS.ret rfl rfl (by decide) rfl ((h.2.2 c1).2.2.1 c2)
    · refine WS.run (C := []) (pc' := 36) (L' := [vR 51 0, vI x1, vI (((4 : Int32) * x1) + (gI σ 79 0 x1.toNatClampNeg)), vI (0 : Int32)]) (S' := []) (σ' := σ) 2 rfl trivial ?_
      exact ((h.2.2 c1).2.2.2 c2)
set_option maxRecDepth 4000 in
set_option maxHeartbeats 400000 in
theorem b_MD_mayCome_36 {d : Nat} {σ : Mem} {Post : Option AV → Mem → Prop} {x1 x2 x3 : Int32} (h : ((x1 ≤ x3 → Post (some (vI (1 : Int32))) σ) ∧ (¬ (x1 ≤ x3) → vp_in x3 8 ∧ (((4 : Int32) ≤ (gI σ 79 0 x3.toNatClampNeg) → WS d M_MD_mayCome 36 [vR 51 0, vI x1, vI x2, vI (x3 + (1 : Int32))] [] σ Post) ∧ (¬ ((4 : Int32) ≤ (gI σ 79 0 x3.toNatClampNeg)) → vp_in x3 8 ∧ vp_in ((((32 : Int32) * x2) + ((4 : Int32) * x3)) + (gI σ 79 0 x3.toNatClampNeg)) 1024 ∧ (((gI σ 78 0 ((((32 : Int32) * x2) + ((4 : Int32) * x3)) + (gI σ 79 0 x3.toNatClampNeg)).toNatClampNeg) = 0 → WS d M_MD_mayCome 36 [vR 51 0, vI x1, vI x2, vI (x3 + (1 : Int32))] [] σ Post) ∧ (¬ ((gI σ 78 0 ((((32 : Int32) * x2) + ((4 : Int32) * x3)) + (gI σ 79 0 x3.toNatClampNeg)).toNatClampNeg) = 0) → Post (some (vI (0 : Int32))) σ))))))) : WS d M_MD_mayCome 36 [vR 51 0, vI x1, vI x2, vI x3] [] σ Post := by
  refine WS.run (C := []) (pc' := 38) (L' := [vR 51 0, vI x1, vI x2, vI x3]) (S' := [vI x1, vI x3]) (σ' := σ) 2 rfl trivial ?_
  refine WS.br (P := x1 ≤ x3) (a := 82) (b := 41) (S' := []) rfl (fun c3 => ?_) (fun c3 => ?_)
  · refine WS.run (C := []) (pc' := 83) (L' := [vR 51 0, vI x1, vI x2, vI x3]) (S' := [vI (1 : Int32)]) (σ' := σ) 1 rfl trivial ?_
    exact WS.ret rfl rfl (by decide) rfl (h.1 c3)
  · refine WS.run (C := [vp_in x3 8]) (pc' := 48) (L' := [vR 51 0, vI x1, vI x2, vI x3]) (S' := [vI (4 : Int32), vI (gI σ 79 0 x3.toNatClampNeg)]) (σ' := σ) 5 rfl ⟨(h.2 c3).1, trivial⟩ ?_
    refine WS.br (P := (4 : Int32) ≤ (gI σ 79 0 x3.toNatClampNeg)) (a := 76) (b := 51) (S' := []) rfl (fun c4 => ?_) (fun c4 => ?_)
    · refine WS.run (C := []) (pc' := 36) (L' := [vR 51 0, vI x1, vI x2, vI (x3 + (1 : Int32))]) (S' := []) (σ' := σ) 2 rfl trivial ?_
      exact ((h.2 c3).2.1 c4)
    · refine WS.run (C := [vp_in x3 8, vp_in ((((32 : Int32) * x2) + ((4 : Int32) * x3)) + (gI σ 79 0 x3.toNatClampNeg)) 1024]) (pc' := 71) (L' := [vR 51 0, vI x1, vI x2, vI x3]) (S' := [vI (gI σ 78 0 ((((32 : Int32) * x2) + ((4 : Int32) * x3)) + (gI σ 79 0 x3.toNatClampNeg)).toNatClampNeg)]) (σ' := σ) 15 rfl ⟨((h.2 c3).2.2 c4).1, ((h.2 c3).2.2 c4).2.1, trivial⟩ ?_
      refine WS.br (P := (gI σ 78 0 ((((32 : Int32) * x2) + ((4 : Int32) * x3)) + (gI σ 79 0 x3.toNatClampNeg)).toNatClampNeg) = 0) (a := 76) (b := 74) (S' := []) rfl (fun c5 => ?_) (fun c5 => ?_)
      · refine WS.run (C := []) (pc' := 36) (L' := [vR 51 0, vI x1, vI x2, vI (x3 + (1 : Int32))]) (S' := []) (σ' := σ) 2 rfl trivial ?_
        exact (((h.2 c3).2.2 c4).2.2.1 c5)
      · refine WS.run (C := []) (pc' := 75) (L' := [vR 51 0, vI x1, vI x2, vI x3]) (S' := [vI (0 : Int32)]) (σ' := σ) 1 rfl trivial ?_
        exact WS.ret rfl rfl (by decide) rfl (((h.2 c3).2.2 c4).2.2.2 c5)
set_option maxRecDepth 4000 in
set_option maxHeartbeats 400000 in
theorem b_MD_set_0 {d : Nat} {σ : Mem} {Post : Option AV → Mem → Prop}  (h : MM d M_MD_boxes [vR 51 0] σ (fun r τ => WS (d + 1) M_MD_set 4 [vR 51 0, vU, vU, vU, vU, vU, vU] (r.toList ++ []) τ Post)) : WS (d + 1) M_MD_set 0 [vR 51 0, vU, vU, vU, vU, vU, vU] [] σ Post := by
  refine WS.run (C := []) (pc' := 1) (L' := [vR 51 0, vU, vU, vU, vU, vU, vU]) (S' := [vR 51 0]) (σ' := σ) 1 rfl trivial ?_
  refine WS.callV M_MD_boxes (k := 51) (i := 0) (as := []) (rest := []) rfl lk_11_222 rfl rfl rfl (Nat.le_of_ble_eq_true rfl) ?_
  exact h
set_option maxRecDepth 4000 in
set_option maxHeartbeats 400000 in
theorem b_MD_set_4 {d : Nat} {σ : Mem} {Post : Option AV → Mem → Prop}  (h : MM d M_MD_isName [vR 51 0, vI (0 : Int32)] σ (fun r τ => WS (d + 1) M_MD_set 20 [vR 51 0, vI (-1 : Int32), vI (-1 : Int32), vI (0 : Int32), vU, vU, vU] (r.toList ++ [vI (0 : Int32), vR 79 0]) τ Post)) : WS (d + 1) M_MD_set 4 [vR 51 0, vU, vU, vU, vU, vU, vU] [] σ Post := by
  refine WS.run (C := []) (pc' := 17) (L' := [vR 51 0, vI (-1 : Int32), vI (-1 : Int32), vI (0 : Int32), vU, vU, vU]) (S' := [vI (0 : Int32), vR 51 0, vI (0 : Int32), vR 79 0]) (σ' := σ) 11 rfl trivial ?_
  refine WS.callV M_MD_isName (k := 51) (i := 0) (as := [vI (0 : Int32)]) (rest := [vI (0 : Int32), vR 79 0]) rfl lk_11_211 rfl rfl rfl (Nat.le_of_ble_eq_true rfl) ?_
  exact h
set_option maxRecDepth 4000 in
set_option maxHeartbeats 400000 in
theorem b_MD_set_20t {d : Nat} {σ : Mem} {Post : Option AV → Mem → Prop} {x1 x2 x3 sx1 : Int32} (h : vp_in sx1 8 ∧ (∀ σ1 : Mem, σ1 = pI σ 79 0 sx1.toNatClampNeg (-1 : Int32) → WS d M_MD_set 29 [vR 51 0, vI x1, vI x2, vI x3, vU, vU, vU] [] σ1 Post)) : WS d M_MD_set 20 [vR 51 0, vI x1, vI x2, vI x3, vU, vU, vU] [vI (1 : Int32), vI sx1, vR 79 0] σ Post := by
  refine WS.br (P := (1 : Int32) = 0) (a := 27) (b := 23) (S' := [vI sx1, vR 79 0]) rfl (fun cc => absurd cc (by decide)) (fun _ => ?_)
  refine WS.run (C := [vp_in sx1 8]) (pc' := 29) (L' := [vR 51 0, vI x1, vI x2, vI x3, vU, vU, vU]) (S' := []) (σ' := pI σ 79 0 sx1.toNatClampNeg (-1 : Int32)) 3 rfl ⟨h.1, trivial⟩ ?_
  obtain ⟨σ1, eσ1⟩ : ∃ z, z = pI σ 79 0 sx1.toNatClampNeg (-1 : Int32) := ⟨_, rfl⟩
  rw [← eσ1]
  exact (h.2 σ1 eσ1)
set_option maxRecDepth 4000 in
set_option maxHeartbeats 400000 in
theorem b_MD_set_20f {d : Nat} {σ : Mem} {Post : Option AV → Mem → Prop} {x1 x2 x3 sx1 : Int32} (h : vp_in sx1 8 ∧ (∀ σ1 : Mem, σ1 = pI σ 79 0 sx1.toNatClampNeg (3 : Int32) → WS d M_MD_set 29 [vR 51 0, vI x1, vI x2, vI x3, vU, vU, vU] [] σ1 Post)) : WS d M_MD_set 20 [vR 51 0, vI x1, vI x2, vI x3, vU, vU, vU] [vI (0 : Int32), vI sx1, vR 79 0] σ Post := by
  refine WS.br (P := (0 : Int32) = 0) (a := 27) (b := 23) (S' := [vI sx1, vR 79 0]) rfl (fun _ => ?_) (fun cc => absurd (by decide) cc)
  refine WS.run (C := [vp_in sx1 8]) (pc' := 29) (L' := [vR 51 0, vI x1, vI x2, vI x3, vU, vU, vU]) (S' := []) (σ' := pI σ 79 0 sx1.toNatClampNeg (3 : Int32)) 2 rfl ⟨h.1, trivial⟩ ?_
  obtain ⟨σ1, eσ1⟩ : ∃ z, z = pI σ 79 0 sx1.toNatClampNeg (3 : Int32) := ⟨_, rfl⟩
  rw [← eσ1]
  exact (h.2 σ1 eσ1)
set_option maxRecDepth 4000 in
set_option maxHeartbeats 400000 in
theorem b_MD_set_29 {d : Nat} {σ : Mem} {Post : Option AV → Mem → Prop} {x1 x2 x3 : Int32} {v4 v5 v6 : AV} (h : ((x3 < 0 → Post (some (vI x1)) σ) ∧ (¬ (x3 < 0) → vp_in x3 8 ∧ vp_in x3 8 ∧ (∀ σ1 : Mem, σ1 = pI σ 79 0 x3.toNatClampNeg ((gI σ 79 0 x3.toNatClampNeg) + (1 : Int32)) → vp_in x3 8 ∧ (((gI σ1 79 0 x3.toNatClampNeg) ≤ (4 : Int32) → MM d M_MD_mayCome [vR 51 0, vI x3] σ1 (fun r τ => WS (d + 1) M_MD_set 64 [vR 51 0, vI x1, vI x2, vI x3, v4, v5, v6] (r.toList ++ []) τ Post)) ∧ (¬ ((gI σ1 79 0 x3.toNatClampNeg) ≤ (4 : Int32)) → WS (d + 1) M_MD_set 29 [vR 51 0, vI x1, vI x2, vI (x3 + (-1 : Int32)), v4, v5, v6] [] σ1 Post)))))) : WS (d + 1) M_MD_set 29 [vR 51 0, vI x1, vI x2, vI x3, v4, v5, v6] [] σ Post := by
  refine WS.run (C := []) (pc' := 30) (L' := [vR 51 0, vI x1, vI x2, vI x3, v4, v5, v6]) (S' := [vI x3]) (σ' := σ) 1 rfl trivial ?_
  refine WS.br (P := x3 < 0) (a := 225) (b := 33) (S' := []) rfl (fun c1 => ?_) (fun c1 => ?_)
  · refine WS.run (C := []) (pc' := 226) (L' := [vR 51 0, vI x1, vI x2, vI x3, v4, v5, v6]) (S' := [vI x1]) (σ' := σ) 1 rfl trivial ?_
    exact WS.ret rfl rfl (by decide) rfl (h.1 c1)
  · refine WS.run (C := [vp_in x3 8, vp_in x3 8]) (pc' := 43) (L' := [vR 51 0, vI x1, vI x2, vI x3, v4, v5, v6]) (S' := []) (σ' := pI σ 79 0 x3.toNatClampNeg ((gI σ 79 0 x3.toNatClampNeg) + (1 : Int32))) 8 rfl ⟨(h.2 c1).1, (h.2 c1).2.1, trivial⟩ ?_
    obtain ⟨σ1, eσ1⟩ : ∃ z, z = pI σ 79 0 x3.toNatClampNeg ((gI σ 79 0 x3.toNatClampNeg) + (1 : Int32)) := ⟨_, rfl⟩
    rw [← eσ1]
    refine WS.run (C := [vp_in x3 8]) (pc' := 50) (L' := [vR 51 0, vI x1, vI x2, vI x3, v4, v5, v6]) (S' := [vI (4 : Int32), vI (gI σ1 79 0 x3.toNatClampNeg)]) (σ' := σ1) 5 rfl ⟨((h.2 c1).2.2 σ1 eσ1).1, trivial⟩ ?_
    refine WS.br (P := (gI σ1 79 0 x3.toNatClampNeg) ≤ (4 : Int32)) (a := 59) (b := 53) (S' := []) rfl (fun c2 => ?_) (fun c2 => ?_)
    · refine WS.run (C := []) (pc' := 61) (L' := [vR 51 0, vI x1, vI x2, vI x3, v4, v5, v6]) (S' := [vI x3, vR 51 0]) (σ' := σ1) 2 rfl trivial ?_
      refine WS.callV M_MD_mayCome (k := 51) (i := 0) (as := [vI x3]) (rest := []) rfl lk_11_225 rfl rfl rfl (Nat.le_of_ble_eq_true rfl) ?_
      exact (((h.2 c1).2.2 σ1 eσ1).2.1 c2)
    · refine WS.run (C := []) (pc' := 29) (L' := [vR 51 0, vI x1, vI x2, vI (x3 + (-1 : Int32)), v4, v5, v6]) (S' := []) (σ' := σ1) 2 rfl trivial ?_
      exact (((h.2 c1).2.2 σ1 eσ1).2.2 c2)
set_option maxRecDepth 4000 in
set_option maxHeartbeats 400000 in
theorem b_MD_set_64t {d : Nat} {σ : Mem} {Post : Option AV → Mem → Prop} {x1 x2 x3 : Int32} {v4 v5 v6 : AV} (h : (((7 : Int32) ≤ x3 → WS (d + 1) M_MD_set 110 [vR 51 0, vI x1, vI x2, vI x3, vI (0 : Int32), vI (0 : Int32), vI (0 : Int32)] [] σ Post) ∧ (¬ ((7 : Int32) ≤ x3) → MM d M_MD_isName [vR 51 0, vI (x3 + (1 : Int32))] σ (fun r τ => WS (d + 1) M_MD_set 89 [vR 51 0, vI x1, vI x2, vI (x3 + (1 : Int32)), v4, v5, v6] (r.toList ++ [vI (x3 + (1 : Int32)), vR 79 0]) τ Post)))) : WS (d + 1) M_MD_set 64 [vR 51 0, vI x1, vI x2, vI x3, v4, v5, v6] [vI (1 : Int32)] σ Post := by
  refine WS.br (P := (1 : Int32) = 0) (a := 67) (b := 70) (S' := []) rfl (fun cc => absurd cc (by decide)) (fun _ => ?_)
  refine WS.run (C := []) (pc' := 73) (L' := [vR 51 0, vI x1, vI x2, vI x3, v4, v5, v6]) (S' := [vI (7 : Int32), vI x3]) (σ' := σ) 2 rfl trivial ?_
  refine WS.br (P := (7 : Int32) ≤ x3) (a := 101) (b := 76) (S' := []) rfl (fun c3 => ?_) (fun c3 => ?_)
  · refine WS.run (C := []) (pc' := 110) (L' := [vR 51 0, vI x1, vI x2, vI x3, vI (0 : Int32), vI (0 : Int32), vI (0 : Int32)]) (S' := []) (σ' := σ) 6 rfl trivial ?_
    exact (h.1 c3)
  · refine WS.run (C := []) (pc' := 86) (L' := [vR 51 0, vI x1, vI x2, vI (x3 + (1 : Int32)), v4, v5, v6]) (S' := [vI (x3 + (1 : Int32)), vR 51 0, vI (x3 + (1 : Int32)), vR 79 0]) (σ' := σ) 6 rfl trivial ?_
    refine WS.callV M_MD_isName (k := 51) (i := 0) (as := [vI (x3 + (1 : Int32))]) (rest := [vI (x3 + (1 : Int32)), vR 79 0]) rfl lk_11_211 rfl rfl rfl (Nat.le_of_ble_eq_true rfl) ?_
    exact (h.2 c3)
set_option maxRecDepth 4000 in
set_option maxHeartbeats 400000 in
theorem b_MD_set_64f {d : Nat} {σ : Mem} {Post : Option AV → Mem → Prop} {x1 x2 x3 : Int32} {v4 v5 v6 : AV} (h : WS d M_MD_set 29 [vR 51 0, vI x1, vI x2, vI x3, v4, v5, v6] [] σ Post) : WS d M_MD_set 64 [vR 51 0, vI x1, vI x2, vI x3, v4, v5, v6] [vI (0 : Int32)] σ Post := by
  refine WS.br (P := (0 : Int32) = 0) (a := 67) (b := 70) (S' := []) rfl (fun _ => ?_) (fun cc => absurd (by decide) cc)
  refine WS.run (C := []) (pc' := 29) (L' := [vR 51 0, vI x1, vI x2, vI x3, v4, v5, v6]) (S' := []) (σ' := σ) 1 rfl trivial ?_
  exact h
set_option maxRecDepth 4000 in
set_option maxHeartbeats 400000 in
theorem b_MD_set_89t {d : Nat} {σ : Mem} {Post : Option AV → Mem → Prop} {x1 x2 x3 sx1 : Int32} {v4 v5 v6 : AV} (h : vp_in sx1 8 ∧ (∀ σ1 : Mem, σ1 = pI σ 79 0 sx1.toNatClampNeg (-1 : Int32) → WS d M_MD_set 29 [vR 51 0, vI x1, vI x2, vI x3, v4, v5, v6] [] σ1 Post)) : WS d M_MD_set 89 [vR 51 0, vI x1, vI x2, vI x3, v4, v5, v6] [vI (1 : Int32), vI sx1, vR 79 0] σ Post := by
  refine WS.br (P := (1 : Int32) = 0) (a := 96) (b := 92) (S' := [vI sx1, vR 79 0]) rfl (fun cc => absurd cc (by decide)) (fun _ => ?_)
  refine WS.run (C := [vp_in sx1 8]) (pc' := 98) (L' := [vR 51 0, vI x1, vI x2, vI x3, v4, v5, v6]) (S' := []) (σ' := pI σ 79 0 sx1.toNatClampNeg (-1 : Int32)) 3 rfl ⟨h.1, trivial⟩ ?_
  obtain ⟨σ1, eσ1⟩ : ∃ z, z = pI σ 79 0 sx1.toNatClampNeg (-1 : Int32) := ⟨_, rfl⟩
  rw [← eσ1]
  refine WS.run (C := []) (pc' := 29) (L' := [vR 51 0, vI x1, vI x2, vI x3, v4, v5, v6]) (S' := []) (σ' := σ1) 1 rfl trivial ?_
  exact (h.2 σ1 eσ1)
set_option maxRecDepth 4000 in
set_option maxHeartbeats 400000 in
theorem b_MD_set_89f {d : Nat} {σ : Mem} {Post : Option AV → Mem → Prop} {x1 x2 x3 sx1 : Int32} {v4 v5 v6 : AV} (h : vp_in sx1 8 ∧ (∀ σ1 : Mem, σ1 = pI σ 79 0 sx1.toNatClampNeg (3 : Int32) → WS d M_MD_set 29 [vR 51 0, vI x1, vI x2, vI x3, v4, v5, v6] [] σ1 Post)) : WS d M_MD_set 89 [vR 51 0, vI x1, vI x2, vI x3, v4, v5, v6] [vI (0 : Int32), vI sx1, vR 79 0] σ Post := by
  refine WS.br (P := (0 : Int32) = 0) (a := 96) (b := 92) (S' := [vI sx1, vR 79 0]) rfl (fun _ => ?_) (fun cc => absurd (by decide) cc)
  refine WS.run (C := [vp_in sx1 8]) (pc' := 98) (L' := [vR 51 0, vI x1, vI x2, vI x3, v4, v5, v6]) (S' := []) (σ' := pI σ 79 0 sx1.toNatClampNeg (3 : Int32)) 2 rfl ⟨h.1, trivial⟩ ?_
  obtain ⟨σ1, eσ1⟩ : ∃ z, z = pI σ 79 0 sx1.toNatClampNeg (3 : Int32) := ⟨_, rfl⟩
  rw [← eσ1]
  refine WS.run (C := []) (pc' := 29) (L' := [vR 51 0, vI x1, vI x2, vI x3, v4, v5, v6]) (S' := []) (σ' := σ1) 1 rfl trivial ?_
  exact (h.2 σ1 eσ1)
set_option maxRecDepth 4000 in
set_option maxHeartbeats 400000 in
theorem b_MD_set_110 {d : Nat} {σ : Mem} {Post : Option AV → Mem → Prop} {x1 x2 x3 x4 x5 x6 : Int32} (h : (((8 : Int32) ≤ x6 → ((x4 < x1 → WS d M_MD_set 29 [vR 51 0, vI x1, vI x2, vI x3, vI x4, vI x5, vI x6] [] σ Post) ∧ (¬ (x4 < x1) → ((x4 = x1 → ((x2 < x5 → WS d M_MD_set 182 [vR 51 0, vI x4, vI x5, vI x3, vI x4, vI x5, vI (0 : Int32)] [] σ Post) ∧ (¬ (x2 < x5) → WS d M_MD_set 29 [vR 51 0, vI x1, vI x2, vI x3, vI x4, vI x5, vI x6] [] σ Post))) ∧ (¬ (x4 = x1) → WS d M_MD_set 182 [vR 51 0, vI x4, vI x5, vI x3, vI x4, vI x5, vI (0 : Int32)] [] σ Post))))) ∧ (¬ ((8 : Int32) ≤ x6) → vp_in x6 8 ∧ (((gI σ 79 0 x6.toNatClampNeg) = (4 : Int32) → WS d M_MD_set 110 [vR 51 0, vI x1, vI x2, vI x3, vI x4, vI x5, vI (x6 + (1 : Int32))] [] σ Post) ∧ (¬ ((gI σ 79 0 x6.toNatClampNeg) = (4 : Int32)) → vp_in x6 8 ∧ WS d M_MD_set 110 [vR 51 0, vI x1, vI x2, vI x3, vI (x4 + (gI σ 71 0 x6.toNatClampNeg)), vI (x5 + (1 : Int32)), vI (x6 + (1 : Int32))] [] σ Post))))) : WS d M_MD_set 110 [vR 51 0, vI x1, vI x2, vI x3, vI x4, vI x5, vI x6] [] σ Post := by
  refine WS.run (C := []) (pc' := 114) (L' := [vR 51 0, vI x1, vI x2, vI x3, vI x4, vI x5, vI x6]) (S' := [vI (8 : Int32), vI x6]) (σ' := σ) 2 rfl trivial ?_
  refine WS.br (P := (8 : Int32) ≤ x6) (a := 152) (b := 117) (S' := []) rfl (fun c4 => ?_) (fun c4 => ?_)
  · refine WS.run (C := []) (pc' := 155) (L' := [vR 51 0, vI x1, vI x2, vI x3, vI x4, vI x5, vI x6]) (S' := [vI x1, vI x4]) (σ' := σ) 2 rfl trivial ?_
    refine WS.br (P := x4 < x1) (a := 29) (b := 158) (S' := []) rfl (fun c5 => ?_) (fun c5 => ?_)
    · exact ((h.1 c4).1 c5)
    · refine WS.run (C := []) (pc' := 161) (L' := [vR 51 0, vI x1, vI x2, vI x3, vI x4, vI x5, vI x6]) (S' := [vI x1, vI x4]) (σ' := σ) 2 rfl trivial ?_
      refine WS.br (P := x4 = x1) (a := 164) (b := 173) (S' := []) rfl (fun c6 => ?_) (fun c6 => ?_)
      · refine WS.run (C := []) (pc' := 167) (L' := [vR 51 0, vI x1, vI x2, vI x3, vI x4, vI x5, vI x6]) (S' := [vI x2, vI x5]) (σ' := σ) 2 rfl trivial ?_
        refine WS.br (P := x2 < x5) (a := 173) (b := 170) (S' := []) rfl (fun c7 => ?_) (fun c7 => ?_)
        · refine WS.run (C := []) (pc' := 182) (L' := [vR 51 0, vI x4, vI x5, vI x3, vI x4, vI x5, vI (0 : Int32)]) (S' := []) (σ' := σ) 6 rfl trivial ?_
          exact ((((h.1 c4).2 c5).1 c6).1 c7)
        · refine WS.run (C := []) (pc' := 29) (L' := [vR 51 0, vI x1, vI x2, vI x3, vI x4, vI x5, vI x6]) (S' := []) (σ' := σ) 1 rfl trivial ?_
          exact ((((h.1 c4).2 c5).1 c6).2 c7)
      · refine WS.run (C := []) (pc' := 182) (L' := [vR 51 0, vI x4, vI x5, vI x3, vI x4, vI x5, vI (0 : Int32)]) (S' := []) (σ' := σ) 6 rfl trivial ?_
        exact (((h.1 c4).2 c5).2 c6)
  · refine WS.run (C := [vp_in x6 8]) (pc' := 125) (L' := [vR 51 0, vI x1, vI x2, vI x3, vI x4, vI x5, vI x6]) (S' := [vI (4 : Int32), vI (gI σ 79 0 x6.toNatClampNeg)]) (σ' := σ) 5 rfl ⟨(h.2 c4).1, trivial⟩ ?_
    refine WS.br (P := (gI σ 79 0 x6.toNatClampNeg) = (4 : Int32)) (a := 128) (b := 131) (S' := []) rfl (fun c8 => ?_) (fun c8 => ?_)
    · refine WS.run (C := []) (pc' := 110) (L' := [vR 51 0, vI x1, vI x2, vI x3, vI x4, vI x5, vI (x6 + (1 : Int32))]) (S' := []) (σ' := σ) 3 rfl trivial ?_
      exact ((h.2 c4).2.1 c8)
    · refine WS.run (C := [vp_in x6 8]) (pc' := 110) (L' := [vR 51 0, vI x1, vI x2, vI x3, vI (x4 + (gI σ 71 0 x6.toNatClampNeg)), vI (x5 + (1 : Int32)), vI (x6 + (1 : Int32))]) (S' := []) (σ' := σ) 10 rfl ⟨((h.2 c4).2.2 c8).1, trivial⟩ ?_
      exact ((h.2 c4).2.2 c8).2
set_option maxRecDepth 4000 in
set_option maxHeartbeats 400000 in
theorem b_MD_set_182 {d : Nat} {σ : Mem} {Post : Option AV → Mem → Prop} {x1 x2 x3 x4 x5 x6 : Int32} (h : (((8 : Int32) ≤ x6 → WS (d + 1) M_MD_set 29 [vR 51 0, vI x1, vI x2, vI x3, vI x4, vI x5, vI x6] [] σ Post) ∧ (¬ ((8 : Int32) ≤ x6) → MM d M_MD_isName [vR 51 0, vI x6] σ (fun r τ => WS (d + 1) M_MD_set 201 [vR 51 0, vI x1, vI x2, vI x3, vI x4, vI x5, vI x6] (r.toList ++ [vI x6, vR 80 0]) τ Post)))) : WS (d + 1) M_MD_set 182 [vR 51 0, vI x1, vI x2, vI x3, vI x4, vI x5, vI x6] [] σ Post := by
  refine WS.run (C := []) (pc' := 186) (L' := [vR 51 0, vI x1, vI x2, vI x3, vI x4, vI x5, vI x6]) (S' := [vI (8 : Int32), vI x6]) (σ' := σ) 2 rfl trivial ?_
  refine WS.br (P := (8 : Int32) ≤ x6) (a := 222) (b := 189) (S' := []) rfl (fun c9 => ?_) (fun c9 => ?_)
  · refine WS.run (C := []) (pc' := 29) (L' := [vR 51 0, vI x1, vI x2, vI x3, vI x4, vI x5, vI x6]) (S' := []) (σ' := σ) 1 rfl trivial ?_
    exact (h.1 c9)
  · refine WS.run (C := []) (pc' := 198) (L' := [vR 51 0, vI x1, vI x2, vI x3, vI x4, vI x5, vI x6]) (S' := [vI x6, vR 51 0, vI x6, vR 80 0]) (σ' := σ) 5 rfl trivial ?_
    refine WS.callV M_MD_isName (k := 51) (i := 0) (as := [vI x6]) (rest := [vI x6, vR 80 0]) rfl lk_11_211 rfl rfl rfl (Nat.le_of_ble_eq_true rfl) ?_
    exact (h.2 c9)
set_option maxRecDepth 4000 in
set_option maxHeartbeats 400000 in
theorem b_MD_set_201t {d : Nat} {σ : Mem} {Post : Option AV → Mem → Prop} {x1 x2 x3 x4 x5 x6 sx1 : Int32} (h : vp_in x6 8 ∧ vp_in sx1 8 ∧ (∀ σ1 : Mem, σ1 = pI σ 80 0 sx1.toNatClampNeg (gI σ 79 0 x6.toNatClampNeg) → WS d M_MD_set 182 [vR 51 0, vI x1, vI x2, vI x3, vI x4, vI x5, vI (x6 + (1 : Int32))] [] σ1 Post)) : WS d M_MD_set 201 [vR 51 0, vI x1, vI x2, vI x3, vI x4, vI x5, vI x6] [vI (1 : Int32), vI sx1, vR 80 0] σ Post := by
  refine WS.br (P := (1 : Int32) = 0) (a := 214) (b := 204) (S' := [vI sx1, vR 80 0]) rfl (fun cc => absurd cc (by decide)) (fun _ => ?_)
  refine WS.run (C := [vp_in x6 8, vp_in sx1 8]) (pc' := 216) (L' := [vR 51 0, vI x1, vI x2, vI x3, vI x4, vI x5, vI x6]) (S' := []) (σ' := pI σ 80 0 sx1.toNatClampNeg (gI σ 79 0 x6.toNatClampNeg)) 6 rfl ⟨h.1, h.2.1, trivial⟩ ?_
  obtain ⟨σ1, eσ1⟩ : ∃ z, z = pI σ 80 0 sx1.toNatClampNeg (gI σ 79 0 x6.toNatClampNeg) := ⟨_, rfl⟩
  rw [← eσ1]
  refine WS.run (C := []) (pc' := 182) (L' := [vR 51 0, vI x1, vI x2, vI x3, vI x4, vI x5, vI (x6 + (1 : Int32))]) (S' := []) (σ' := σ1) 2 rfl trivial ?_
  exact (h.2.2 σ1 eσ1)
set_option maxRecDepth 4000 in
set_option maxHeartbeats 400000 in
theorem b_MD_set_201f {d : Nat} {σ : Mem} {Post : Option AV → Mem → Prop} {x1 x2 x3 x4 x5 x6 sx1 : Int32} (h : vp_in sx1 8 ∧ (∀ σ1 : Mem, σ1 = pI σ 80 0 sx1.toNatClampNeg (-1 : Int32) → WS d M_MD_set 182 [vR 51 0, vI x1, vI x2, vI x3, vI x4, vI x5, vI (x6 + (1 : Int32))] [] σ1 Post)) : WS d M_MD_set 201 [vR 51 0, vI x1, vI x2, vI x3, vI x4, vI x5, vI x6] [vI (0 : Int32), vI sx1, vR 80 0] σ Post := by
  refine WS.br (P := (0 : Int32) = 0) (a := 214) (b := 204) (S' := [vI sx1, vR 80 0]) rfl (fun _ => ?_) (fun cc => absurd (by decide) cc)
  refine WS.run (C := [vp_in sx1 8]) (pc' := 216) (L' := [vR 51 0, vI x1, vI x2, vI x3, vI x4, vI x5, vI x6]) (S' := []) (σ' := pI σ 80 0 sx1.toNatClampNeg (-1 : Int32)) 2 rfl ⟨h.1, trivial⟩ ?_
  obtain ⟨σ1, eσ1⟩ : ∃ z, z = pI σ 80 0 sx1.toNatClampNeg (-1 : Int32) := ⟨_, rfl⟩
  rw [← eσ1]
  refine WS.run (C := []) (pc' := 182) (L' := [vR 51 0, vI x1, vI x2, vI x3, vI x4, vI x5, vI (x6 + (1 : Int32))]) (S' := []) (σ' := σ1) 2 rfl trivial ?_
  exact (h.2 σ1 eσ1)
set_option maxRecDepth 4000 in
set_option maxHeartbeats 400000 in
theorem b_MD_touch_0 {d : Nat} {σ : Mem} {Post : Option AV → Mem → Prop} {x1 x2 x3 : Int32} (h : MM d M_MD_isIn [vI x1, vI (0 : Int32), vI (7 : Int32)] σ (fun r τ => WS (d + 1) M_MD_touch 7 [vR 51 0, vI x1, vI x2, vI x3] (r.toList ++ []) τ Post)) : WS (d + 1) M_MD_touch 0 [vR 51 0, vI x1, vI x2, vI x3] [] σ Post := by
  refine WS.run (C := []) (pc' := 4) (L' := [vR 51 0, vI x1, vI x2, vI x3]) (S' := [vI (7 : Int32), vI (0 : Int32), vI x1]) (σ' := σ) 3 rfl trivial ?_
  refine WS.callS M_MD_isIn (as := [vI x1, vI (0 : Int32), vI (7 : Int32)]) (rest := []) rfl lk_11_114 rfl rfl (Nat.le_of_ble_eq_true rfl) ?_
  exact h
set_option maxRecDepth 4000 in
set_option maxHeartbeats 400000 in
theorem b_MD_touch_7t {d : Nat} {σ : Mem} {Post : Option AV → Mem → Prop} {x1 x2 x3 : Int32} (h : MM d M_MD_isIn [vI x2, vI (0 : Int32), vI (7 : Int32)] σ (fun r τ => WS (d + 1) M_MD_touch 17 [vR 51 0, vI x1, vI x2, vI x3] (r.toList ++ []) τ Post)) : WS (d + 1) M_MD_touch 7 [vR 51 0, vI x1, vI x2, vI x3] [vI (1 : Int32)] σ Post := by
  refine WS.br (P := (1 : Int32) = 0) (a := 25) (b := 10) (S' := []) rfl (fun cc => absurd cc (by decide)) (fun _ => ?_)
  refine WS.run (C := []) (pc' := 14) (L' := [vR 51 0, vI x1, vI x2, vI x3]) (S' := [vI (7 : Int32), vI (0 : Int32), vI x2]) (σ' := σ) 3 rfl trivial ?_
  refine WS.callS M_MD_isIn (as := [vI x2, vI (0 : Int32), vI (7 : Int32)]) (rest := []) rfl lk_11_114 rfl rfl (Nat.le_of_ble_eq_true rfl) ?_
  exact h
set_option maxRecDepth 4000 in
set_option maxHeartbeats 400000 in
theorem b_MD_touch_7f {d : Nat} {σ : Mem} {Post : Option AV → Mem → Prop} {x1 x2 x3 : Int32} (h : Post (some (vI (0 : Int32))) σ) : WS d M_MD_touch 7 [vR 51 0, vI x1, vI x2, vI x3] [vI (0 : Int32)] σ Post := by
  refine WS.br (P := (0 : Int32) = 0) (a := 25) (b := 10) (S' := []) rfl (fun _ => ?_) (fun cc => absurd (by decide) cc)
  refine WS.run (C := []) (pc' := 26) (L' := [vR 51 0, vI x1, vI x2, vI x3]) (S' := [vI (0 : Int32)]) (σ' := σ) 1 rfl trivial ?_
  exact WS.ret rfl rfl (by decide) rfl h
set_option maxRecDepth 4000 in
set_option maxHeartbeats 400000 in
theorem b_MD_touch_17t {d : Nat} {σ : Mem} {Post : Option AV → Mem → Prop} {x1 x2 x3 : Int32} (h : ((x1 = x2 → Post (some (vI (0 : Int32))) σ) ∧ (¬ (x1 = x2) → vp_in (((8 : Int32) * x1) + x2) 64 ∧ (x3 = 0 ∨ x3 = 1) ∧ (∀ σ1 : Mem, σ1 = pI σ 81 0 (((8 : Int32) * x1) + x2).toNatClampNeg x3 → vp_in (((8 : Int32) * x2) + x1) 64 ∧ (x3 = 0 ∨ x3 = 1) ∧ (∀ σ2 : Mem, σ2 = pI σ1 81 0 (((8 : Int32) * x2) + x1).toNatClampNeg x3 → Post (some (vI (1 : Int32))) σ2))))) : WS d M_MD_touch 17 [vR 51 0, vI x1, vI x2, vI x3] [vI (1 : Int32)] σ Post := by
  refine WS.br (P := (1 : Int32) = 0) (a := 25) (b := 20) (S' := []) rfl (fun cc => absurd cc (by decide)) (fun _ => ?_)
  refine WS.run (C := []) (pc' := 22) (L' := [vR 51 0, vI x1, vI x2, vI x3]) (S' := [vI x2, vI x1]) (σ' := σ) 2 rfl trivial ?_
  refine WS.br (P := x1 = x2) (a := 25) (b := 27) (S' := []) rfl (fun c1 => ?_) (fun c1 => ?_)
  · refine WS.run (C := []) (pc' := 26) (L' := [vR 51 0, vI x1, vI x2, vI x3]) (S' := [vI (0 : Int32)]) (σ' := σ) 1 rfl trivial ?_
    exact WS.ret rfl rfl (by decide) rfl (h.1 c1)
  · refine WS.run (C := [vp_in (((8 : Int32) * x1) + x2) 64, x3 = 0 ∨ x3 = 1]) (pc' := 39) (L' := [vR 51 0, vI x1, vI x2, vI x3]) (S' := []) (σ' := pI σ 81 0 (((8 : Int32) * x1) + x2).toNatClampNeg x3) 9 rfl ⟨(h.2 c1).1, (h.2 c1).2.1, trivial⟩ ?_
    obtain ⟨σ1, eσ1⟩ : ∃ z, z = pI σ 81 0 (((8 : Int32) * x1) + x2).toNatClampNeg x3 := ⟨_, rfl⟩
    rw [← eσ1]
    refine WS.run (C := [vp_in (((8 : Int32) * x2) + x1) 64, x3 = 0 ∨ x3 = 1]) (pc' := 51) (L' := [vR 51 0, vI x1, vI x2, vI x3]) (S' := []) (σ' := pI σ1 81 0 (((8 : Int32) * x2) + x1).toNatClampNeg x3) 9 rfl ⟨((h.2 c1).2.2 σ1 eσ1).1, ((h.2 c1).2.2 σ1 eσ1).2.1, trivial⟩ ?_
    obtain ⟨σ2, eσ2⟩ : ∃ z, z = pI σ1 81 0 (((8 : Int32) * x2) + x1).toNatClampNeg x3 := ⟨_, rfl⟩
    rw [← eσ2]
    refine WS.run (C := []) (pc' := 52) (L' := [vR 51 0, vI x1, vI x2, vI x3]) (S' := [vI (1 : Int32)]) (σ' := σ2) 1 rfl trivial ?_
    exact WS.ret rfl rfl (by decide) rfl (((h.2 c1).2.2 σ1 eσ1).2.2 σ2 eσ2)
set_option maxRecDepth 4000 in
set_option maxHeartbeats 400000 in
theorem b_MD_touch_17f {d : Nat} {σ : Mem} {Post : Option AV → Mem → Prop} {x1 x2 x3 : Int32} (h : Post (some (vI (0 : Int32))) σ) : WS d M_MD_touch 17 [vR 51 0, vI x1, vI x2, vI x3] [vI (0 : Int32)] σ Post := by
  refine WS.br (P := (0 : Int32) = 0) (a := 25) (b := 20) (S' := []) rfl (fun _ => ?_) (fun cc => absurd (by decide) cc)
  refine WS.run (C := []) (pc' := 26) (L' := [vR 51 0, vI x1, vI x2, vI x3]) (S' := [vI (0 : Int32)]) (σ' := σ) 1 rfl trivial ?_
  exact WS.ret rfl rfl (by decide) rfl h
set_option maxRecDepth 4000 in
set_option maxHeartbeats 400000 in
theorem b_MD_apart__0 {d : Nat} {σ : Mem} {Post : Option AV → Mem → Prop} {x1 x2 x3 : Int32} (h : MM d M_MD_isIn [vI x1, vI (0 : Int32), vI (4 : Int32)] σ (fun r τ => WS (d + 1) M_MD_apart_ 6 [vR 51 0, vI x1, vI x2, vI x3] (r.toList ++ []) τ Post)) : WS (d + 1) M_MD_apart_ 0 [vR 51 0, vI x1, vI x2, vI x3] [] σ Post := by
  refine WS.run (C := []) (pc' := 3) (L' := [vR 51 0, vI x1, vI x2, vI x3]) (S' := [vI (4 : Int32), vI (0 : Int32), vI x1]) (σ' := σ) 3 rfl trivial ?_
  refine WS.callS M_MD_isIn (as := [vI x1, vI (0 : Int32), vI (4 : Int32)]) (rest := []) rfl lk_11_114 rfl rfl (Nat.le_of_ble_eq_true rfl) ?_
  exact h
set_option maxRecDepth 4000 in
set_option maxHeartbeats 400000 in
theorem b_MD_apart__6t {d : Nat} {σ : Mem} {Post : Option AV → Mem → Prop} {x1 x2 x3 : Int32} (h : MM d M_MD_isIn [vI x2, vI (0 : Int32), vI (4 : Int32)] σ (fun r τ => WS (d + 1) M_MD_apart_ 15 [vR 51 0, vI x1, vI x2, vI x3] (r.toList ++ []) τ Post)) : WS (d + 1) M_MD_apart_ 6 [vR 51 0, vI x1, vI x2, vI x3] [vI (1 : Int32)] σ Post := by
  refine WS.br (P := (1 : Int32) = 0) (a := 23) (b := 9) (S' := []) rfl (fun cc => absurd cc (by decide)) (fun _ => ?_)
  refine WS.run (C := []) (pc' := 12) (L' := [vR 51 0, vI x1, vI x2, vI x3]) (S' := [vI (4 : Int32), vI (0 : Int32), vI x2]) (σ' := σ) 3 rfl trivial ?_
  refine WS.callS M_MD_isIn (as := [vI x2, vI (0 : Int32), vI (4 : Int32)]) (rest := []) rfl lk_11_114 rfl rfl (Nat.le_of_ble_eq_true rfl) ?_
  exact h
set_option maxRecDepth 4000 in
set_option maxHeartbeats 400000 in
theorem b_MD_apart__6f {d : Nat} {σ : Mem} {Post : Option AV → Mem → Prop} {x1 x2 x3 : Int32} (h : Post (some (vI (0 : Int32))) σ) : WS d M_MD_apart_ 6 [vR 51 0, vI x1, vI x2, vI x3] [vI (0 : Int32)] σ Post := by
  refine WS.br (P := (0 : Int32) = 0) (a := 23) (b := 9) (S' := []) rfl (fun _ => ?_) (fun cc => absurd (by decide) cc)
  refine WS.run (C := []) (pc' := 24) (L' := [vR 51 0, vI x1, vI x2, vI x3]) (S' := [vI (0 : Int32)]) (σ' := σ) 1 rfl trivial ?_
  exact WS.ret rfl rfl (by decide) rfl h
set_option maxRecDepth 4000 in
set_option maxHeartbeats 400000 in
theorem b_MD_apart__15t {d : Nat} {σ : Mem} {Post : Option AV → Mem → Prop} {x1 x2 x3 : Int32} (h : ((x1 = x2 → Post (some (vI (0 : Int32))) σ) ∧ (¬ (x1 = x2) → vp_in (((5 : Int32) * x1) + x2) 25 ∧ (x3 = 0 ∨ x3 = 1) ∧ (∀ σ1 : Mem, σ1 = pI σ 82 0 (((5 : Int32) * x1) + x2).toNatClampNeg x3 → vp_in (((5 : Int32) * x2) + x1) 25 ∧ (x3 = 0 ∨ x3 = 1) ∧ (∀ σ2 : Mem, σ2 = pI σ1 82 0 (((5 : Int32) * x2) + x1).toNatClampNeg x3 → Post (some (vI (1 : Int32))) σ2))))) : WS d M_MD_apart_ 15 [vR 51 0, vI x1, vI x2, vI x3] [vI (1 : Int32)] σ Post := by
  refine WS.br (P := (1 : Int32) = 0) (a := 23) (b := 18) (S' := []) rfl (fun cc => absurd cc (by decide)) (fun _ => ?_)
  refine WS.run (C := []) (pc' := 20) (L' := [vR 51 0, vI x1, vI x2, vI x3]) (S' := [vI x2, vI x1]) (σ' := σ) 2 rfl trivial ?_
  refine WS.br (P := x1 = x2) (a := 23) (b := 25) (S' := []) rfl (fun c1 => ?_) (fun c1 => ?_)
  · refine WS.run (C := []) (pc' := 24) (L' := [vR 51 0, vI x1, vI x2, vI x3]) (S' := [vI (0 : Int32)]) (σ' := σ) 1 rfl trivial ?_
    exact WS.ret rfl rfl (by decide) rfl (h.1 c1)
  · refine WS.run (C := [vp_in (((5 : Int32) * x1) + x2) 25, x3 = 0 ∨ x3 = 1]) (pc' := 36) (L' := [vR 51 0, vI x1, vI x2, vI x3]) (S' := []) (σ' := pI σ 82 0 (((5 : Int32) * x1) + x2).toNatClampNeg x3) 9 rfl ⟨(h.2 c1).1, (h.2 c1).2.1, trivial⟩ ?_
    obtain ⟨σ1, eσ1⟩ : ∃ z, z = pI σ 82 0 (((5 : Int32) * x1) + x2).toNatClampNeg x3 := ⟨_, rfl⟩
    rw [← eσ1]
    refine WS.run (C := [vp_in (((5 : Int32) * x2) + x1) 25, x3 = 0 ∨ x3 = 1]) (pc' := 47) (L' := [vR 51 0, vI x1, vI x2, vI x3]) (S' := []) (σ' := pI σ1 82 0 (((5 : Int32) * x2) + x1).toNatClampNeg x3) 9 rfl ⟨((h.2 c1).2.2 σ1 eσ1).1, ((h.2 c1).2.2 σ1 eσ1).2.1, trivial⟩ ?_
    obtain ⟨σ2, eσ2⟩ : ∃ z, z = pI σ1 82 0 (((5 : Int32) * x2) + x1).toNatClampNeg x3 := ⟨_, rfl⟩
    rw [← eσ2]
    refine WS.run (C := []) (pc' := 48) (L' := [vR 51 0, vI x1, vI x2, vI x3]) (S' := [vI (1 : Int32)]) (σ' := σ2) 1 rfl trivial ?_
    exact WS.ret rfl rfl (by decide) rfl (((h.2 c1).2.2 σ1 eσ1).2.2 σ2 eσ2)
set_option maxRecDepth 4000 in
set_option maxHeartbeats 400000 in
theorem b_MD_apart__15f {d : Nat} {σ : Mem} {Post : Option AV → Mem → Prop} {x1 x2 x3 : Int32} (h : Post (some (vI (0 : Int32))) σ) : WS d M_MD_apart_ 15 [vR 51 0, vI x1, vI x2, vI x3] [vI (0 : Int32)] σ Post := by
  refine WS.br (P := (0 : Int32) = 0) (a := 23) (b := 18) (S' := []) rfl (fun _ => ?_) (fun cc => absurd (by decide) cc)
  refine WS.run (C := []) (pc' := 24) (L' := [vR 51 0, vI x1, vI x2, vI x3]) (S' := [vI (0 : Int32)]) (σ' := σ) 1 rfl trivial ?_
  exact WS.ret rfl rfl (by decide) rfl h
set_option maxRecDepth 4000 in
set_option maxHeartbeats 400000 in
theorem b_MD_mayHave_0 {d : Nat} {σ : Mem} {Post : Option AV → Mem → Prop} {x1 : Int32} (h : WS d M_MD_mayHave 2 [vR 51 0, vI x1, vI (0 : Int32)] [] σ Post) : WS d M_MD_mayHave 0 [vR 51 0, vI x1, vU] [] σ Post := by
  refine WS.run (C := []) (pc' := 2) (L' := [vR 51 0, vI x1, vI (0 : Int32)]) (S' := []) (σ' := σ) 2 rfl trivial ?_
  exact h
set_option maxRecDepth 4000 in
set_option maxHeartbeats 400000 in
theorem b_MD_mayHave_2 {d : Nat} {σ : Mem} {Post : Option AV → Mem → Prop} {x1 x2 : Int32} (h : ((x1 ≤ x2 → Post (some (vI (1 : Int32))) σ) ∧ (¬ (x1 ≤ x2) → vp_in (((8 : Int32) * x1) + x2) 64 ∧ (((gI σ 81 0 (((8 : Int32) * x1) + x2).toNatClampNeg) = 0 → WS d M_MD_mayHave 2 [vR 51 0, vI x1, vI (x2 + (1 : Int32))] [] σ Post) ∧ (¬ ((gI σ 81 0 (((8 : Int32) * x1) + x2).toNatClampNeg) = 0) → vp_in x1 8 ∧ vp_in x2 8 ∧ (((gI σ 83 0 x1.toNatClampNeg) = (gI σ 83 0 x2.toNatClampNeg) → Post (some (vI (0 : Int32))) σ) ∧ (¬ ((gI σ 83 0 x1.toNatClampNeg) = (gI σ 83 0 x2.toNatClampNeg)) → vp_in x1 8 ∧ vp_in x2 8 ∧ vp_in (((5 : Int32) * (gI σ 83 0 x1.toNatClampNeg)) + (gI σ 83 0 x2.toNatClampNeg)) 25 ∧ (((gI σ 82 0 (((5 : Int32) * (gI σ 83 0 x1.toNatClampNeg)) + (gI σ 83 0 x2.toNatClampNeg)).toNatClampNeg) = 0 → Post (some (vI (0 : Int32))) σ) ∧ (¬ ((gI σ 82 0 (((5 : Int32) * (gI σ 83 0 x1.toNatClampNeg)) + (gI σ 83 0 x2.toNatClampNeg)).toNatClampNeg) = 0) → WS d M_MD_mayHave 2 [vR 51 0, vI x1, vI (x2 + (1 : Int32))] [] σ Post))))))))) : WS d M_MD_mayHave 2 [vR 51 0, vI x1, vI x2] [] σ Post := by
  refine WS.run (C := []) (pc' := 4) (L' := [vR 51 0, vI x1, vI x2]) (S' := [vI x1, vI x2]) (σ' := σ) 2 rfl trivial ?_
  refine WS.br (P := x1 ≤ x2) (a := 67) (b := 7) (S' := []) rfl (fun c1 => ?_) (fun c1 => ?_)
  · refine WS.run (C := []) (pc' := 68) (L' := [vR 51 0, vI x1, vI x2]) (S' := [vI (1 : Int32)]) (σ' := σ) 1 rfl trivial ?_
    exact WS.ret rfl rfl (by decide) rfl (h.1 c1)
  · refine WS.run (C := [vp_in (((8 : Int32) * x1) + x2) 64]) (pc' := 18) (L' := [vR 51 0, vI x1, vI x2]) (S' := [vI (gI σ 81 0 (((8 : Int32) * x1) + x2).toNatClampNeg)]) (σ' := σ) 8 rfl ⟨(h.2 c1).1, trivial⟩ ?_
    refine WS.br (P := (gI σ 81 0 (((8 : Int32) * x1) + x2).toNatClampNeg) = 0) (a := 61) (b := 21) (S' := []) rfl (fun c2 => ?_) (fun c2 => ?_)
    · refine WS.run (C := []) (pc' := 2) (L' := [vR 51 0, vI x1, vI (x2 + (1 : Int32))]) (S' := []) (σ' := σ) 2 rfl trivial ?_
      exact ((h.2 c1).2.1 c2)
    · refine WS.run (C := [vp_in x1 8, vp_in x2 8]) (pc' := 33) (L' := [vR 51 0, vI x1, vI x2]) (S' := [vI (gI σ 83 0 x2.toNatClampNeg), vI (gI σ 83 0 x1.toNatClampNeg)]) (σ' := σ) 8 rfl ⟨((h.2 c1).2.2 c2).1, ((h.2 c1).2.2 c2).2.1, trivial⟩ ?_
      refine WS.br (P := (gI σ 83 0 x1.toNatClampNeg) = (gI σ 83 0 x2.toNatClampNeg)) (a := 59) (b := 36) (S' := []) rfl (fun c3 => ?_) (fun c3 => ?_)
      · refine WS.run (C := []) (pc' := 60) (L' := [vR 51 0, vI x1, vI x2]) (S' := [vI (0 : Int32)]) (σ' := σ) 1 rfl trivial ?_
        exact WS.ret rfl rfl (by decide) rfl (((h.2 c1).2.2 c2).2.2.1 c3)
      · refine WS.run (C := [vp_in x1 8, vp_in x2 8, vp_in (((5 : Int32) * (gI σ 83 0 x1.toNatClampNeg)) + (gI σ 83 0 x2.toNatClampNeg)) 25]) (pc' := 56) (L' := [vR 51 0, vI x1, vI x2]) (S' := [vI (gI σ 82 0 (((5 : Int32) * (gI σ 83 0 x1.toNatClampNeg)) + (gI σ 83 0 x2.toNatClampNeg)).toNatClampNeg)]) (σ' := σ) 14 rfl ⟨(((h.2 c1).2.2 c2).2.2.2 c3).1, (((h.2 c1).2.2 c2).2.2.2 c3).2.1, (((h.2 c1).2.2 c2).2.2.2 c3).2.2.1, trivial⟩ ?_
        refine WS.br (P := (gI σ 82 0 (((5 : Int32) * (gI σ 83 0 x1.toNatClampNeg)) + (gI σ 83 0 x2.toNatClampNeg)).toNatClampNeg) = 0) (a := 59) (b := 61) (S' := []) rfl (fun c4 => ?_) (fun c4 => ?_)
        · refine WS.run (C := []) (pc' := 60) (L' := [vR 51 0, vI x1, vI x2]) (S' := [vI (0 : Int32)]) (σ' := σ) 1 rfl trivial ?_
          exact WS.ret rfl rfl (by decide) rfl ((((h.2 c1).2.2 c2).2.2.2 c3).2.2.2.1 c4)
        · refine WS.run (C := []) (pc' := 2) (L' := [vR 51 0, vI x1, vI (x2 + (1 : Int32))]) (S' := []) (σ' := σ) 2 rfl trivial ?_
          exact ((((h.2 c1).2.2 c2).2.2.2 c3).2.2.2.2 c4)
set_option maxRecDepth 4000 in
set_option maxHeartbeats 400000 in
theorem b_MD_lay_0 {d : Nat} {σ : Mem} {Post : Option AV → Mem → Prop} {x1 : Int32} (h : MM d M_MD_isIn [vI x1, vI (0 : Int32), vI (8 : Int32)] σ (fun r τ => WS (d + 1) M_MD_lay 7 [vR 51 0, vI x1, vU, vU, vU, vU] (r.toList ++ []) τ Post)) : WS (d + 1) M_MD_lay 0 [vR 51 0, vI x1, vU, vU, vU, vU] [] σ Post := by
  refine WS.run (C := []) (pc' := 4) (L' := [vR 51 0, vI x1, vU, vU, vU, vU]) (S' := [vI (8 : Int32), vI (0 : Int32), vI x1]) (σ' := σ) 3 rfl trivial ?_
  refine WS.callS M_MD_isIn (as := [vI x1, vI (0 : Int32), vI (8 : Int32)]) (rest := []) rfl lk_11_114 rfl rfl (Nat.le_of_ble_eq_true rfl) ?_
  exact h
set_option maxRecDepth 4000 in
set_option maxHeartbeats 400000 in
theorem b_MD_lay_7t {d : Nat} {σ : Mem} {Post : Option AV → Mem → Prop} {x1 : Int32} (h : ((x1 = 0 → vp_in (0 : Int32) 8 ∧ (∀ σ1 : Mem, σ1 = pI σ 83 0 (0 : Int32).toNatClampNeg (-1 : Int32) → WS d M_MD_lay 32 [vR 51 0, vI x1, vI (0 : Int32), vI (0 : Int32), vU, vU] [] σ1 Post)) ∧ (¬ (x1 = 0) → vp_in (0 : Int32) 8 ∧ (∀ σ2 : Mem, σ2 = pI σ 83 0 (0 : Int32).toNatClampNeg (-1 : Int32) → WS d M_MD_lay 32 [vR 51 0, vI x1, vI (100 : Int32), vI (0 : Int32), vU, vU] [] σ2 Post)))) : WS d M_MD_lay 7 [vR 51 0, vI x1, vU, vU, vU, vU] [vI (1 : Int32)] σ Post := by
  refine WS.br (P := (1 : Int32) = 0) (a := 10) (b := 12) (S' := []) rfl (fun cc => absurd cc (by decide)) (fun _ => ?_)
  refine WS.run (C := []) (pc' := 13) (L' := [vR 51 0, vI x1, vU, vU, vU, vU]) (S' := [vI x1]) (σ' := σ) 1 rfl trivial ?_
  refine WS.br (P := x1 = 0) (a := 16) (b := 20) (S' := []) rfl (fun c1 => ?_) (fun c1 => ?_)
  · refine WS.run (C := [vp_in (0 : Int32) 8]) (pc' := 32) (L' := [vR 51 0, vI x1, vI (0 : Int32), vI (0 : Int32), vU, vU]) (S' := []) (σ' := pI σ 83 0 (0 : Int32).toNatClampNeg (-1 : Int32)) 10 rfl ⟨(h.1 c1).1, trivial⟩ ?_
    obtain ⟨σ1, eσ1⟩ : ∃ z, z = pI σ 83 0 (0 : Int32).toNatClampNeg (-1 : Int32) := ⟨_, rfl⟩
    rw [← eσ1]
    exact ((h.1 c1).2 σ1 eσ1)
  · refine WS.run (C := [vp_in (0 : Int32) 8]) (pc' := 32) (L' := [vR 51 0, vI x1, vI (100 : Int32), vI (0 : Int32), vU, vU]) (S' := []) (σ' := pI σ 83 0 (0 : Int32).toNatClampNeg (-1 : Int32)) 9 rfl ⟨(h.2 c1).1, trivial⟩ ?_
    obtain ⟨σ2, eσ2⟩ : ∃ z, z = pI σ 83 0 (0 : Int32).toNatClampNeg (-1 : Int32) := ⟨_, rfl⟩
    rw [← eσ2]
    exact ((h.2 c1).2 σ2 eσ2)
set_option maxRecDepth 4000 in
set_option maxHeartbeats 400000 in
theorem b_MD_lay_7f {d : Nat} {σ : Mem} {Post : Option AV → Mem → Prop} {x1 : Int32} (h : Post (some (vI (-1 : Int32))) σ) : WS d M_MD_lay 7 [vR 51 0, vI x1, vU, vU, vU, vU] [vI (0 : Int32)] σ Post := by
  refine WS.br (P := (0 : Int32) = 0) (a := 10) (b := 12) (S' := []) rfl (fun _ => ?_) (fun cc => absurd (by decide) cc)
  refine WS.run (C := []) (pc' := 11) (L' := [vR 51 0, vI x1, vU, vU, vU, vU]) (S' := [vI (-1 : Int32)]) (σ' := σ) 1 rfl trivial ?_
  exact WS.ret rfl rfl (by decide) rfl h
set_option maxRecDepth 4000 in
set_option maxHeartbeats 400000 in
theorem b_MD_lay_32 {d : Nat} {σ : Mem} {Post : Option AV → Mem → Prop} {x1 x2 x3 : Int32} {v4 v5 : AV} (h : ((x3 < 0 → ((x2 = (100 : Int32) → Post (some (vI (-2 : Int32))) σ) ∧ (¬ (x2 = (100 : Int32)) → (∀ σ1 : Mem, σ1 = pI σ 51 0 35 x1 → Post (some (vI x2)) σ1)))) ∧ (¬ (x3 < 0) → ((x1 ≤ 0 → ((x2 = (100 : Int32) → Post (some (vI (-2 : Int32))) σ) ∧ (¬ (x2 = (100 : Int32)) → (∀ σ2 : Mem, σ2 = pI σ 51 0 35 x1 → Post (some (vI x2)) σ2)))) ∧ (¬ (x1 ≤ 0) → vp_in x3 8 ∧ vp_in x3 8 ∧ (∀ σ3 : Mem, σ3 = pI σ 83 0 x3.toNatClampNeg ((gI σ 83 0 x3.toNatClampNeg) + (1 : Int32)) → vp_in x3 8 ∧ (((gI σ3 83 0 x3.toNatClampNeg) = (5 : Int32) → WS (d + 1) M_MD_lay 32 [vR 51 0, vI x1, vI x2, vI (x3 + (-1 : Int32)), v4, v5] [] σ3 Post) ∧ (¬ ((gI σ3 83 0 x3.toNatClampNeg) = (5 : Int32)) → MM d M_MD_mayHave [vR 51 0, vI x3] σ3 (fun r τ => WS (d + 1) M_MD_lay 71 [vR 51 0, vI x1, vI x2, vI x3, v4, v5] (r.toList ++ []) τ Post))))))))) : WS (d + 1) M_MD_lay 32 [vR 51 0, vI x1, vI x2, vI x3, v4, v5] [] σ Post := by
  refine WS.run (C := []) (pc' := 33) (L' := [vR 51 0, vI x1, vI x2, vI x3, v4, v5]) (S' := [vI x3]) (σ' := σ) 1 rfl trivial ?_
  refine WS.br (P := x3 < 0) (a := 179) (b := 36) (S' := []) rfl (fun c2 => ?_) (fun c2 => ?_)
  · refine WS.run (C := []) (pc' := 182) (L' := [vR 51 0, vI x1, vI x2, vI x3, v4, v5]) (S' := [vI (100 : Int32), vI x2]) (σ' := σ) 2 rfl trivial ?_
    refine WS.br (P := x2 = (100 : Int32)) (a := 185) (b := 188) (S' := []) rfl (fun c3 => ?_) (fun c3 => ?_)
    · refine WS.run (C := []) (pc' := 187) (L' := [vR 51 0, vI x1, vI x2, vI x3, v4, v5]) (S' := [vI (-2 : Int32)]) (σ' := σ) 1 rfl trivial ?_
      exact WS.ret rfl rfl (by decide) rfl ((h.1 c2).1 c3)
    · refine WS.run (C := []) (pc' := 193) (L' := [vR 51 0, vI x1, vI x2, vI x3, v4, v5]) (S' := []) (σ' := pI σ 51 0 35 x1) 3 rfl trivial ?_
      obtain ⟨σ1, eσ1⟩ : ∃ z, z = pI σ 51 0 35 x1 := ⟨_, rfl⟩
      rw [← eσ1]
      refine WS.run (C := []) (pc' := 194) (L' := [vR 51 0, vI x1, vI x2, vI x3, v4, v5]) (S' := [vI x2]) (σ' := σ1) 1 rfl trivial ?_
      exact WS.ret rfl rfl (by decide) rfl (((h.1 c2).2 c3) σ1 eσ1)
  · refine WS.run (C := []) (pc' := 37) (L' := [vR 51 0, vI x1, vI x2, vI x3, v4, v5]) (S' := [vI x1]) (σ' := σ) 1 rfl trivial ?_
    refine WS.br (P := x1 ≤ 0) (a := 179) (b := 40) (S' := []) rfl (fun c4 => ?_) (fun c4 => ?_)
    · refine WS.run (C := []) (pc' := 182) (L' := [vR 51 0, vI x1, vI x2, vI x3, v4, v5]) (S' := [vI (100 : Int32), vI x2]) (σ' := σ) 2 rfl trivial ?_
      refine WS.br (P := x2 = (100 : Int32)) (a := 185) (b := 188) (S' := []) rfl (fun c5 => ?_) (fun c5 => ?_)
      · refine WS.run (C := []) (pc' := 187) (L' := [vR 51 0, vI x1, vI x2, vI x3, v4, v5]) (S' := [vI (-2 : Int32)]) (σ' := σ) 1 rfl trivial ?_
        exact WS.ret rfl rfl (by decide) rfl (((h.2 c2).1 c4).1 c5)
      · refine WS.run (C := []) (pc' := 193) (L' := [vR 51 0, vI x1, vI x2, vI x3, v4, v5]) (S' := []) (σ' := pI σ 51 0 35 x1) 3 rfl trivial ?_
        obtain ⟨σ2, eσ2⟩ : ∃ z, z = pI σ 51 0 35 x1 := ⟨_, rfl⟩
        rw [← eσ2]
        refine WS.run (C := []) (pc' := 194) (L' := [vR 51 0, vI x1, vI x2, vI x3, v4, v5]) (S' := [vI x2]) (σ' := σ2) 1 rfl trivial ?_
        exact WS.ret rfl rfl (by decide) rfl ((((h.2 c2).1 c4).2 c5) σ2 eσ2)
    · refine WS.run (C := [vp_in x3 8, vp_in x3 8]) (pc' := 50) (L' := [vR 51 0, vI x1, vI x2, vI x3, v4, v5]) (S' := []) (σ' := pI σ 83 0 x3.toNatClampNeg ((gI σ 83 0 x3.toNatClampNeg) + (1 : Int32))) 8 rfl ⟨((h.2 c2).2 c4).1, ((h.2 c2).2 c4).2.1, trivial⟩ ?_
      obtain ⟨σ3, eσ3⟩ : ∃ z, z = pI σ 83 0 x3.toNatClampNeg ((gI σ 83 0 x3.toNatClampNeg) + (1 : Int32)) := ⟨_, rfl⟩
      rw [← eσ3]
      refine WS.run (C := [vp_in x3 8]) (pc' := 57) (L' := [vR 51 0, vI x1, vI x2, vI x3, v4, v5]) (S' := [vI (5 : Int32), vI (gI σ3 83 0 x3.toNatClampNeg)]) (σ' := σ3) 5 rfl ⟨(((h.2 c2).2 c4).2.2 σ3 eσ3).1, trivial⟩ ?_
      refine WS.br (P := (gI σ3 83 0 x3.toNatClampNeg) = (5 : Int32)) (a := 60) (b := 66) (S' := []) rfl (fun c6 => ?_) (fun c6 => ?_)
      · refine WS.run (C := []) (pc' := 32) (L' := [vR 51 0, vI x1, vI x2, vI (x3 + (-1 : Int32)), v4, v5]) (S' := []) (σ' := σ3) 2 rfl trivial ?_
        exact ((((h.2 c2).2 c4).2.2 σ3 eσ3).2.1 c6)
      · refine WS.run (C := []) (pc' := 68) (L' := [vR 51 0, vI x1, vI x2, vI x3, v4, v5]) (S' := [vI x3, vR 51 0]) (σ' := σ3) 2 rfl trivial ?_
        refine WS.callV M_MD_mayHave (k := 51) (i := 0) (as := [vI x3]) (rest := []) rfl lk_11_228 rfl rfl rfl (Nat.le_of_ble_eq_true rfl) ?_
        exact ((((h.2 c2).2 c4).2.2 σ3 eσ3).2.2 c6)
set_option maxRecDepth 4000 in
set_option maxHeartbeats 400000 in
theorem b_MD_lay_71t {d : Nat} {σ : Mem} {Post : Option AV → Mem → Prop} {x1 x2 x3 : Int32} {v4 v5 : AV} (h : (((x1 - (1 : Int32)) ≤ x3 → WS d M_MD_lay 103 [vR 51 0, vI x1, vI x2, vI x3, vI (0 : Int32), vI (0 : Int32)] [] σ Post) ∧ (¬ ((x1 - (1 : Int32)) ≤ x3) → vp_in (x3 + (1 : Int32)) 8 ∧ (∀ σ1 : Mem, σ1 = pI σ 83 0 (x3 + (1 : Int32)).toNatClampNeg (-1 : Int32) → WS d M_MD_lay 32 [vR 51 0, vI x1, vI x2, vI (x3 + (1 : Int32)), v4, v5] [] σ1 Post)))) : WS d M_MD_lay 71 [vR 51 0, vI x1, vI x2, vI x3, v4, v5] [vI (1 : Int32)] σ Post := by
  refine WS.br (P := (1 : Int32) = 0) (a := 74) (b := 77) (S' := []) rfl (fun cc => absurd cc (by decide)) (fun _ => ?_)
  refine WS.run (C := []) (pc' := 81) (L' := [vR 51 0, vI x1, vI x2, vI x3, v4, v5]) (S' := [vI (x1 - (1 : Int32)), vI x3]) (σ' := σ) 4 rfl trivial ?_
  refine WS.br (P := (x1 - (1 : Int32)) ≤ x3) (a := 97) (b := 84) (S' := []) rfl (fun c7 => ?_) (fun c7 => ?_)
  · refine WS.run (C := []) (pc' := 103) (L' := [vR 51 0, vI x1, vI x2, vI x3, vI (0 : Int32), vI (0 : Int32)]) (S' := []) (σ' := σ) 4 rfl trivial ?_
    exact (h.1 c7)
  · refine WS.run (C := [vp_in (x3 + (1 : Int32)) 8]) (pc' := 94) (L' := [vR 51 0, vI x1, vI x2, vI (x3 + (1 : Int32)), v4, v5]) (S' := []) (σ' := pI σ 83 0 (x3 + (1 : Int32)).toNatClampNeg (-1 : Int32)) 6 rfl ⟨(h.2 c7).1, trivial⟩ ?_
    obtain ⟨σ1, eσ1⟩ : ∃ z, z = pI σ 83 0 (x3 + (1 : Int32)).toNatClampNeg (-1 : Int32) := ⟨_, rfl⟩
    rw [← eσ1]
    refine WS.run (C := []) (pc' := 32) (L' := [vR 51 0, vI x1, vI x2, vI (x3 + (1 : Int32)), v4, v5]) (S' := []) (σ' := σ1) 1 rfl trivial ?_
    exact ((h.2 c7).2 σ1 eσ1)
set_option maxRecDepth 4000 in
set_option maxHeartbeats 400000 in
theorem b_MD_lay_71f {d : Nat} {σ : Mem} {Post : Option AV → Mem → Prop} {x1 x2 x3 : Int32} {v4 v5 : AV} (h : WS d M_MD_lay 32 [vR 51 0, vI x1, vI x2, vI x3, v4, v5] [] σ Post) : WS d M_MD_lay 71 [vR 51 0, vI x1, vI x2, vI x3, v4, v5] [vI (0 : Int32)] σ Post := by
  refine WS.br (P := (0 : Int32) = 0) (a := 74) (b := 77) (S' := []) rfl (fun _ => ?_) (fun cc => absurd (by decide) cc)
  refine WS.run (C := []) (pc' := 32) (L' := [vR 51 0, vI x1, vI x2, vI x3, v4, v5]) (S' := []) (σ' := σ) 1 rfl trivial ?_
  exact h
set_option maxRecDepth 4000 in
set_option maxHeartbeats 400000 in
theorem b_MD_lay_103 {d : Nat} {σ : Mem} {Post : Option AV → Mem → Prop} {x1 x2 x3 x4 x5 : Int32} (h : ((x1 ≤ x5 → MM d M_MD_ones [vI x4] σ (fun r τ => WS (d + 1) M_MD_lay 134 [vR 51 0, vI x1, vI x2, vI x3, vI x4, vI x5] (r.toList ++ []) τ Post)) ∧ (¬ (x1 ≤ x5) → vp_in x5 8 ∧ WS (d + 1) M_MD_lay 103 [vR 51 0, vI x1, vI x2, vI x3, vI (x4 ||| ((1 : Int32) <<< ((gI σ 83 0 x5.toNatClampNeg) &&& 31))), vI (x5 + (1 : Int32))] [] σ Post))) : WS (d + 1) M_MD_lay 103 [vR 51 0, vI x1, vI x2, vI x3, vI x4, vI x5] [] σ Post := by
  refine WS.run (C := []) (pc' := 106) (L' := [vR 51 0, vI x1, vI x2, vI x3, vI x4, vI x5]) (S' := [vI x1, vI x5]) (σ' := σ) 2 rfl trivial ?_
  refine WS.br (P := x1 ≤ x5) (a := 129) (b := 109) (S' := []) rfl (fun c8 => ?_) (fun c8 => ?_)
  · refine WS.run (C := []) (pc' := 131) (L' := [vR 51 0, vI x1, vI x2, vI x3, vI x4, vI x5]) (S' := [vI x4]) (σ' := σ) 1 rfl trivial ?_
    refine WS.callS M_MD_ones (as := [vI x4]) (rest := []) rfl lk_11_189 rfl rfl (Nat.le_of_ble_eq_true rfl) ?_
    exact (h.1 c8)
  · refine WS.run (C := [vp_in x5 8]) (pc' := 103) (L' := [vR 51 0, vI x1, vI x2, vI x3, vI (x4 ||| ((1 : Int32) <<< ((gI σ 83 0 x5.toNatClampNeg) &&& 31))), vI (x5 + (1 : Int32))]) (S' := []) (σ' := σ) 11 rfl ⟨(h.2 c8).1, trivial⟩ ?_
    exact (h.2 c8).2
set_option maxRecDepth 4000 in
set_option maxHeartbeats 400000 in
theorem b_MD_lay_134 {d : Nat} {σ : Mem} {Post : Option AV → Mem → Prop} {x1 x2 x3 x4 x5 sx0 : Int32} (h : ((sx0 < x2 → MM d M_MD_ones [vI x4] σ (fun r τ => WS (d + 1) M_MD_lay 146 [vR 51 0, vI x1, vI x2, vI x3, vI x4, vI x5] (r.toList ++ []) τ Post)) ∧ (¬ (sx0 < x2) → WS (d + 1) M_MD_lay 32 [vR 51 0, vI x1, vI x2, vI x3, vI x4, vI x5] [] σ Post))) : WS (d + 1) M_MD_lay 134 [vR 51 0, vI x1, vI x2, vI x3, vI x4, vI x5] [vI sx0] σ Post := by
  refine WS.run (C := []) (pc' := 135) (L' := [vR 51 0, vI x1, vI x2, vI x3, vI x4, vI x5]) (S' := [vI x2, vI sx0]) (σ' := σ) 1 rfl trivial ?_
  refine WS.br (P := sx0 < x2) (a := 141) (b := 138) (S' := []) rfl (fun c9 => ?_) (fun c9 => ?_)
  · refine WS.run (C := []) (pc' := 143) (L' := [vR 51 0, vI x1, vI x2, vI x3, vI x4, vI x5]) (S' := [vI x4]) (σ' := σ) 1 rfl trivial ?_
    refine WS.callS M_MD_ones (as := [vI x4]) (rest := []) rfl lk_11_189 rfl rfl (Nat.le_of_ble_eq_true rfl) ?_
    exact (h.1 c9)
  · refine WS.run (C := []) (pc' := 32) (L' := [vR 51 0, vI x1, vI x2, vI x3, vI x4, vI x5]) (S' := []) (σ' := σ) 1 rfl trivial ?_
    exact (h.2 c9)
set_option maxRecDepth 4000 in
set_option maxHeartbeats 400000 in
theorem b_MD_lay_146 {d : Nat} {σ : Mem} {Post : Option AV → Mem → Prop} {x1 x2 x3 x4 x5 sx0 : Int32} (h : WS d M_MD_lay 150 [vR 51 0, vI x1, vI sx0, vI x3, vI x4, vI (0 : Int32)] [] σ Post) : WS d M_MD_lay 146 [vR 51 0, vI x1, vI x2, vI x3, vI x4, vI x5] [vI sx0] σ Post := by
  refine WS.run (C := []) (pc' := 150) (L' := [vR 51 0, vI x1, vI sx0, vI x3, vI x4, vI (0 : Int32)]) (S' := []) (σ' := σ) 3 rfl trivial ?_
  exact h
set_option maxRecDepth 4000 in
set_option maxHeartbeats 400000 in
theorem b_MD_lay_150 {d : Nat} {σ : Mem} {Post : Option AV → Mem → Prop} {x1 x2 x3 x4 x5 : Int32} (h : ((x1 ≤ x5 → WS d M_MD_lay 32 [vR 51 0, vI x1, vI x2, vI x3, vI x4, vI x5] [] σ Post) ∧ (¬ (x1 ≤ x5) → vp_in x5 8 ∧ vp_in x5 8 ∧ (∀ σ1 : Mem, σ1 = pI σ 84 0 x5.toNatClampNeg (gI σ 83 0 x5.toNatClampNeg) → WS d M_MD_lay 150 [vR 51 0, vI x1, vI x2, vI x3, vI x4, vI (x5 + (1 : Int32))] [] σ1 Post)))) : WS d M_MD_lay 150 [vR 51 0, vI x1, vI x2, vI x3, vI x4, vI x5] [] σ Post := by
  refine WS.run (C := []) (pc' := 153) (L' := [vR 51 0, vI x1, vI x2, vI x3, vI x4, vI x5]) (S' := [vI x1, vI x5]) (σ' := σ) 2 rfl trivial ?_
  refine WS.br (P := x1 ≤ x5) (a := 176) (b := 156) (S' := []) rfl (fun c10 => ?_) (fun c10 => ?_)
  · refine WS.run (C := []) (pc' := 32) (L' := [vR 51 0, vI x1, vI x2, vI x3, vI x4, vI x5]) (S' := []) (σ' := σ) 1 rfl trivial ?_
    exact (h.1 c10)
  · refine WS.run (C := [vp_in x5 8, vp_in x5 8]) (pc' := 170) (L' := [vR 51 0, vI x1, vI x2, vI x3, vI x4, vI x5]) (S' := []) (σ' := pI σ 84 0 x5.toNatClampNeg (gI σ 83 0 x5.toNatClampNeg)) 8 rfl ⟨(h.2 c10).1, (h.2 c10).2.1, trivial⟩ ?_
    obtain ⟨σ1, eσ1⟩ : ∃ z, z = pI σ 84 0 x5.toNatClampNeg (gI σ 83 0 x5.toNatClampNeg) := ⟨_, rfl⟩
    rw [← eσ1]
    refine WS.run (C := []) (pc' := 150) (L' := [vR 51 0, vI x1, vI x2, vI x3, vI x4, vI (x5 + (1 : Int32))]) (S' := []) (σ' := σ1) 2 rfl trivial ?_
    exact ((h.2 c10).2.2 σ1 eσ1)
