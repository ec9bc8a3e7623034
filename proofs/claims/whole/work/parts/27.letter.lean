/-! contracts: letter, clear, texture -/
set_option maxRecDepth 4000 in
set_option maxHeartbeats 400000 in
theorem c_clear22 {d : Nat} {σ : Mem} {Post : Option AV → Mem → Prop} {i : Nat} (h : Post none (pI σ 22 i 1 0)) : MM d M_Word_clear [vR 22 i] σ Post := by
  refine MM.of ok_Word_clear rfl ?_
  show WS _ M_Word_clear 0 [vR 22 i] [] σ _
  refine WS.run (C := []) (pc' := 5) (L' := [vR 22 i]) (S' := []) (σ' := pI σ 22 i 1 (0 : Int32)) 3 rfl trivial ?_
  exact WS.vret rfl rfl h
set_option maxRecDepth 4000 in
set_option maxHeartbeats 400000 in
theorem c_clear8 {d : Nat} {σ : Mem} {Post : Option AV → Mem → Prop} {i : Nat} (h : Post none (pI σ 8 i 1 0)) : MM d M_Word_clear [vR 8 i] σ Post := by
  refine MM.of ok_Word_clear rfl ?_
  show WS _ M_Word_clear 0 [vR 8 i] [] σ _
  refine WS.run (C := []) (pc' := 5) (L' := [vR 8 i]) (S' := []) (σ' := pI σ 8 i 1 (0 : Int32)) 3 rfl trivial ?_
  exact WS.vret rfl rfl h
set_option maxRecDepth 4000 in
set_option maxHeartbeats 400000 in
theorem c_clear31 {d : Nat} {σ : Mem} {Post : Option AV → Mem → Prop} {i : Nat} (h : Post none (pI σ 31 i 1 0)) : MM d M_Word_clear [vR 31 i] σ Post := by
  refine MM.of ok_Word_clear rfl ?_
  show WS _ M_Word_clear 0 [vR 31 i] [] σ _
  refine WS.run (C := []) (pc' := 5) (L' := [vR 31 i]) (S' := []) (σ' := pI σ 31 i 1 (0 : Int32)) 3 rfl trivial ?_
  exact WS.vret rfl rfl h
set_option maxRecDepth 4000 in
set_option maxHeartbeats 400000 in
theorem c_TMletter {d : Nat} {σ : Mem} {Post : Option AV → Mem → Prop} {l : Nat} {c : Int32} (hl : gI σ 22 0 1 = nI l) (hn : l ≤ 12) (h1 : letO c l → Post (some (vI (nI (l + 1)))) (pI (pI σ 23 0 l c) 22 0 1 (nI (l + 1)))) (h0 : ¬ letO c l → Post (some (vI (-1))) σ) : MM (d + 1) M_TM_letter [vR 0 0, vI c] σ Post := by
  refine MM.of ok_TM_letter rfl ?_
  show WS _ M_TM_letter 0 [vR 0 0, vI c] [] σ _
  refine WS.run (C := []) (pc' := 3) (L' := [vR 0 0, vI c]) (S' := [vI (97 : Int32), vI c]) (σ' := σ) 2 rfl trivial ?_
  refine WS.br (P := c < (97 : Int32)) (a := 24) (b := 6) (S' := []) rfl (fun c1 => ?_) (fun c1 => ?_)
  · refine WS.run (C := []) (pc' := 25) (L' := [vR 0 0, vI c]) (S' := [vI (-1 : Int32)]) (σ' := σ) 1 rfl trivial ?_
    exact WS.ret rfl rfl (by decide) rfl (h0 (by unfold letO; simp only [hl, t_lt, t_le, t_97, t_122, t_12] at *; omega))
  · refine WS.run (C := []) (pc' := 9) (L' := [vR 0 0, vI c]) (S' := [vI (122 : Int32), vI c]) (σ' := σ) 2 rfl trivial ?_
    refine WS.br (P := (122 : Int32) < c) (a := 24) (b := 12) (S' := []) rfl (fun c2 => ?_) (fun c2 => ?_)
    · refine WS.run (C := []) (pc' := 25) (L' := [vR 0 0, vI c]) (S' := [vI (-1 : Int32)]) (σ' := σ) 1 rfl trivial ?_
      exact WS.ret rfl rfl (by decide) rfl (h0 (by unfold letO; simp only [hl, t_lt, t_le, t_97, t_122, t_12] at *; omega))
    · refine WS.run (C := []) (pc' := 21) (L' := [vR 0 0, vI c]) (S' := [vI (12 : Int32), vI (gI σ 22 0 1)]) (σ' := σ) 4 rfl trivial ?_
      refine WS.br (P := (gI σ 22 0 1) < (12 : Int32)) (a := 26) (b := 24) (S' := []) rfl (fun c3 => ?_) (fun c3 => ?_)
      · refine WS.run (C := []) (pc' := 31) (L' := [vR 0 0, vI c]) (S' := [vI c, vR 22 0]) (σ' := σ) 3 rfl trivial ?_
        refine WS.callV M_Word_append (k := 22) (i := 0) (as := [vI c]) (rest := []) rfl lk_10_136 rfl rfl rfl (Nat.le_of_ble_eq_true rfl) ?_
        have hl12 : l < 12 := by
          have z := c3
          rw [hl, t_lt, nI_t (by omega), t_12] at z
          omega
        refine c_append22 hl (by omega) (fun _ => ?_) (fun z => absurd hl12 z)
        show WS _ M_TM_letter 34 [vR 0 0, vI c] [] (pI (pI σ 23 0 l c) 22 0 1 (nI (l + 1))) _
        refine WS.run (C := []) (pc' := 41) (L' := [vR 0 0, vI c]) (S' := [vI (gI (pI (pI σ 23 0 l c) 22 0 1 (nI (l + 1))) 22 0 1)]) (σ' := (pI (pI σ 23 0 l c) 22 0 1 (nI (l + 1)))) 3 rfl trivial ?_
        exact WS.ret rfl rfl (by decide) rfl (by rw [gI_pI, if_pos ⟨rfl, rfl, rfl⟩]; exact h1 ⟨by simp only [t_lt, t_97] at *; omega, by simp only [t_lt, t_122] at *; omega, hl12⟩)
      · refine WS.run (C := []) (pc' := 25) (L' := [vR 0 0, vI c]) (S' := [vI (-1 : Int32)]) (σ' := σ) 1 rfl trivial ?_
        exact WS.ret rfl rfl (by decide) rfl (h0 (by unfold letO; simp only [hl, t_lt, t_le, t_97, t_122, t_12] at *; rw [nI_t (by omega)] at *; omega))
set_option maxRecDepth 4000 in
set_option maxHeartbeats 400000 in
theorem c_Mletter {d : Nat} {σ : Mem} {Post : Option AV → Mem → Prop} {l : Nat} {c : Int32} (hl : gI σ 51 0 15 = nI l) (hn : l ≤ 12) (h1 : letO c l → Post (some (vI (nI (l + 1)))) (pI (pI σ 63 0 l c) 51 0 15 (nI l + 1))) (h0 : ¬ letO c l → Post (some (vI (-1))) σ) : MM d M_MD_letter [vR 51 0, vI c] σ Post := by
  have e_l : (nI l).toNatClampNeg = l := cl_n (by omega)
  have hl2 : gI (pI σ 63 0 l c) 51 0 15 = nI l := by rw [gI_pI, if_neg (by omega)]; exact hl
  have hl12 : ¬ nI l = 12 → l < 12 := by
    intro z
    rw [t_eq, nI_t (by omega), t_12] at z
    omega
  refine MM.of ok_MD_letter rfl ?_
  show WS _ M_MD_letter 0 [vR 51 0, vI c] [] σ _
  refine WS.run (C := []) (pc' := 3) (L' := [vR 51 0, vI c]) (S' := [vI (97 : Int32), vI c]) (σ' := σ) 2 rfl trivial ?_
  refine WS.br (P := c < (97 : Int32)) (a := 21) (b := 6) (S' := []) rfl (fun c1 => ?_) (fun c1 => ?_)
  · refine WS.run (C := []) (pc' := 22) (L' := [vR 51 0, vI c]) (S' := [vI (-1 : Int32)]) (σ' := σ) 1 rfl trivial ?_
    exact WS.ret rfl rfl (by decide) rfl (h0 (by unfold letO; simp only [t_lt, t_97, t_122] at *; omega))
  · refine WS.run (C := []) (pc' := 9) (L' := [vR 51 0, vI c]) (S' := [vI (122 : Int32), vI c]) (σ' := σ) 2 rfl trivial ?_
    refine WS.br (P := (122 : Int32) < c) (a := 21) (b := 12) (S' := []) rfl (fun c2 => ?_) (fun c2 => ?_)
    · refine WS.run (C := []) (pc' := 22) (L' := [vR 51 0, vI c]) (S' := [vI (-1 : Int32)]) (σ' := σ) 1 rfl trivial ?_
      exact WS.ret rfl rfl (by decide) rfl (h0 (by unfold letO; simp only [t_lt, t_97, t_122] at *; omega))
    · refine WS.run (C := []) (pc' := 18) (L' := [vR 51 0, vI c]) (S' := [vI (12 : Int32), vI (gI σ 51 0 15)]) (σ' := σ) 3 rfl trivial ?_
      simp only [hl, e_l]
      refine WS.br (P := (nI l) = (12 : Int32)) (a := 21) (b := 23) (S' := []) rfl (fun c3 => ?_) (fun c3 => ?_)
      · refine WS.run (C := []) (pc' := 22) (L' := [vR 51 0, vI c]) (S' := [vI (-1 : Int32)]) (σ' := σ) 1 rfl trivial ?_
        exact WS.ret rfl rfl (by decide) rfl (h0 (by unfold letO; have z := c3; rw [t_eq, nI_t (by omega), t_12] at z; omega))
      · refine WS.run (C := [vp_in (gI σ 51 0 15) 12]) (pc' := 33) (L' := [vR 51 0, vI c]) (S' := []) (σ' := pI σ 63 0 (gI σ 51 0 15).toNatClampNeg c) 6 rfl ⟨(by rw [hl]; exact vp_n (hl12 c3) (by omega)), trivial⟩ ?_
        simp only [hl, e_l]
        refine WS.run (C := []) (pc' := 43) (L' := [vR 51 0, vI c]) (S' := []) (σ' := pI (pI σ 63 0 l c) 51 0 15 (gI (pI σ 63 0 l c) 51 0 15 + (1 : Int32))) 6 rfl trivial ?_
        refine WS.run (C := []) (pc' := 47) (L' := [vR 51 0, vI c]) (S' := [vI (gI (pI (pI σ 63 0 l c) 51 0 15 (gI (pI σ 63 0 l c) 51 0 15 + (1 : Int32))) 51 0 15)]) (σ' := pI (pI σ 63 0 l c) 51 0 15 (gI (pI σ 63 0 l c) 51 0 15 + (1 : Int32))) 2 rfl trivial ?_
        exact WS.ret rfl rfl (by decide) rfl (by rw [gI_pI, if_pos ⟨rfl, rfl, rfl⟩, hl2, nI_1]; have y := h1 ⟨by simp only [t_lt, t_97] at *; omega, by simp only [t_lt, t_122] at *; omega, hl12 c3⟩; rw [nI_1] at y; exact y)
