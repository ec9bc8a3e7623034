/-! contracts: letters, spot, texture -/
theorem t_7 : (7 : Int32).toInt = 7 := by decide
theorem t_97 : (97 : Int32).toInt = 97 := by decide
theorem t_122 : (122 : Int32).toInt = 122 := by decide
theorem t_12 : (12 : Int32).toInt = 12 := by decide
set_option maxRecDepth 4000 in
set_option maxHeartbeats 400000 in
theorem c_TMspot {d : Nat} {σ : Mem} {Post : Option AV → Mem → Prop} {v : Int32} (h1 : ∀ j : Nat, j < 8 → v = nI j → Post (some (vI (gI σ 44 0 j))) σ) (h0 : (∀ j : Nat, j < 8 → v ≠ nI j) → Post (some (vI (-1))) σ) : MM (d + 1) M_TM_spot [vR 0 0, vI v] σ Post := by
  refine MM.of ok_TM_spot rfl ?_
  show WS _ M_TM_spot 0 [vR 0 0, vI v] [] σ _
  refine WS.run (C := []) (pc' := 3) (L' := [vR 0 0, vI v]) (S' := [vI (7 : Int32), vI v]) (σ' := σ) 2 rfl trivial ?_
  refine WS.callS M_TM_inRange (as := [vI v, vI (7 : Int32)]) (rest := []) rfl lk_10_71 rfl rfl (Nat.le_of_ble_eq_true rfl) ?_
  refine c_inRange (fun q1a q1b => ?_) (fun q1 => ?_)
  · obtain ⟨j, hj, rfl⟩ := t_nat (x := v) (n := 7) (by first | omega | (simp only [t_0] at *; omega)) (by first | omega | (simp only [t_7] at *; omega)) (by omega)
    have e_j : (nI j).toNatClampNeg = j := cl_n (by omega)
    show WS _ M_TM_spot 6 [vR 0 0, vI (nI j)] [vI (1 : Int32)] σ _
    refine WS.br (P := (1 : Int32) = 0) (a := 21) (b := 9) (S' := []) rfl (fun cc => absurd cc (by decide)) (fun _ => ?_)
    refine WS.run (C := [vp_in (nI j) 8]) (pc' := 22) (L' := [vR 0 0, vI (nI j)]) (S' := [vI (gI σ 44 0 (nI j).toNatClampNeg)]) (σ' := σ) 6 rfl ⟨(vp_n (by omega) (by omega)), trivial⟩ ?_
    simp only [e_j]
    exact WS.ret rfl rfl (by decide) rfl (h1 j (by omega) rfl)
  · show WS _ M_TM_spot 6 [vR 0 0, vI v] [vI (0 : Int32)] σ _
    refine WS.br (P := (0 : Int32) = 0) (a := 21) (b := 9) (S' := []) rfl (fun _ => ?_) (fun cc => absurd (by decide) cc)
    refine WS.run (C := []) (pc' := 22) (L' := [vR 0 0, vI v]) (S' := [vI (-1 : Int32)]) (σ' := σ) 1 rfl trivial ?_
    exact WS.ret rfl rfl (by decide) rfl (h0 (fun i hi e => q1 (by rw [e, nI_t (by omega), t_7]; omega)))
set_option maxRecDepth 4000 in
set_option maxHeartbeats 400000 in
theorem c_Mspot {d : Nat} {σ : Mem} {Post : Option AV → Mem → Prop} {v : Int32} (h1 : ∀ j : Nat, j < 8 → v = nI j → Post (some (vI (gI σ 80 0 j))) σ) (h0 : (∀ j : Nat, j < 8 → v ≠ nI j) → Post (some (vI (-1))) σ) : MM (d + 1) M_MD_spot [vR 51 0, vI v] σ Post := by
  refine MM.of ok_MD_spot rfl ?_
  show WS _ M_MD_spot 0 [vR 51 0, vI v] [] σ _
  refine WS.run (C := []) (pc' := 4) (L' := [vR 51 0, vI v]) (S' := [vI (7 : Int32), vI (0 : Int32), vI v]) (σ' := σ) 3 rfl trivial ?_
  refine WS.callS M_MD_isIn (as := [vI v, vI (0 : Int32), vI (7 : Int32)]) (rest := []) rfl lk_11_114 rfl rfl (Nat.le_of_ble_eq_true rfl) ?_
  refine c_MisIn (fun q1a q1b => ?_) (fun q1 => ?_)
  · obtain ⟨j, hj, rfl⟩ := t_nat (x := v) (n := 7) (by first | omega | (simp only [t_0] at *; omega)) (by first | omega | (simp only [t_7] at *; omega)) (by omega)
    have e_j : (nI j).toNatClampNeg = j := cl_n (by omega)
    show WS _ M_MD_spot 7 [vR 51 0, vI (nI j)] [vI (1 : Int32)] σ _
    refine WS.br (P := (1 : Int32) = 0) (a := 19) (b := 10) (S' := []) rfl (fun cc => absurd cc (by decide)) (fun _ => ?_)
    refine WS.run (C := [vp_in (nI j) 8]) (pc' := 20) (L' := [vR 51 0, vI (nI j)]) (S' := [vI (gI σ 80 0 (nI j).toNatClampNeg)]) (σ' := σ) 5 rfl ⟨(vp_n (by omega) (by omega)), trivial⟩ ?_
    simp only [e_j]
    exact WS.ret rfl rfl (by decide) rfl (h1 j (by omega) rfl)
  · show WS _ M_MD_spot 7 [vR 51 0, vI v] [vI (0 : Int32)] σ _
    refine WS.br (P := (0 : Int32) = 0) (a := 19) (b := 10) (S' := []) rfl (fun _ => ?_) (fun cc => absurd (by decide) cc)
    refine WS.run (C := []) (pc' := 20) (L' := [vR 51 0, vI v]) (S' := [vI (-1 : Int32)]) (σ' := σ) 1 rfl trivial ?_
    exact WS.ret rfl rfl (by decide) rfl (h0 (fun i hi e => q1 (by rw [e, nI_t (by omega), t_0, t_7]; omega)))
def letO (c : Int32) (l : Nat) : Prop := 97 ≤ c.toInt ∧ c.toInt ≤ 122 ∧ l < 12
theorem of12 : Int32.ofNat 12 = nI 12 := rfl
theorem of4 : Int32.ofNat 4 = nI 4 := rfl
set_option maxRecDepth 4000 in
set_option maxHeartbeats 400000 in
theorem c_append22 {d : Nat} {σ : Mem} {Post : Option AV → Mem → Prop} {i l : Nat} {c : Int32} (hl : gI σ 22 i 1 = nI l) (hn : l ≤ 12) (h1 : l < 12 → Post none (pI (pI σ 23 i l c) 22 i 1 (nI (l + 1)))) (h0 : ¬ l < 12 → Post none σ) : MM d M_Word_append [vR 22 i, vI c] σ Post := by
  have e_l : (nI l).toNatClampNeg = l := cl_n (by omega)
  have hl2 : gI (pI σ 23 i l c) 22 i 1 = nI l := by rw [gI_pI, if_neg (by omega)]; exact hl
  refine MM.of ok_Word_append rfl ?_
  show WS _ M_Word_append 0 [vR 22 i, vI c] [] σ _
  refine WS.run (C := []) (pc' := 9) (L' := [vR 22 i, vI c]) (S' := [vI (Int32.ofNat 12), vI (gI σ 22 i 1)]) (σ' := σ) 5 rfl trivial ?_
  simp only [hl, e_l]
  refine WS.br (P := (Int32.ofNat 12) ≤ (nI l)) (a := 32) (b := 12) (S' := []) rfl (fun c1 => ?_) (fun c1 => ?_)
  · exact WS.vret rfl rfl (h0 (by simp only [of12, of4, t_le] at c1; rw [nI_t (by omega), nI_t (by omega)] at c1; omega))
  · refine WS.run (C := [vp_in (gI σ 22 i 1) 12]) (pc' := 22) (L' := [vR 22 i, vI c]) (S' := []) (σ' := pI σ 23 i (gI σ 22 i 1).toNatClampNeg c) 6 rfl ⟨(by rw [hl]; exact vp_n (by simp only [of12, of4, t_le] at c1; rw [nI_t (by omega), nI_t (by omega)] at c1; omega) (by omega)), trivial⟩ ?_
    simp only [hl, e_l]
    refine WS.run (C := []) (pc' := 32) (L' := [vR 22 i, vI c]) (S' := []) (σ' := pI (pI σ 23 i l c) 22 i 1 (gI (pI σ 23 i l c) 22 i 1 + (1 : Int32))) 6 rfl trivial ?_
    exact WS.vret rfl rfl (by simp only [of12, of4, t_le] at c1; rw [nI_t (by omega), nI_t (by omega)] at c1; rw [hl2, nI_1]; exact h1 (by omega))
set_option maxRecDepth 4000 in
set_option maxHeartbeats 400000 in
theorem c_append8 {d : Nat} {σ : Mem} {Post : Option AV → Mem → Prop} {i l : Nat} {c : Int32} (hl : gI σ 8 i 1 = nI l) (hn : l ≤ 12) (h1 : l < 12 → Post none (pI (pI σ 9 i l c) 8 i 1 (nI (l + 1)))) (h0 : ¬ l < 12 → Post none σ) : MM d M_Word_append [vR 8 i, vI c] σ Post := by
  have e_l : (nI l).toNatClampNeg = l := cl_n (by omega)
  have hl2 : gI (pI σ 9 i l c) 8 i 1 = nI l := by rw [gI_pI, if_neg (by omega)]; exact hl
  refine MM.of ok_Word_append rfl ?_
  show WS _ M_Word_append 0 [vR 8 i, vI c] [] σ _
  refine WS.run (C := []) (pc' := 9) (L' := [vR 8 i, vI c]) (S' := [vI (Int32.ofNat 12), vI (gI σ 8 i 1)]) (σ' := σ) 5 rfl trivial ?_
  simp only [hl, e_l]
  refine WS.br (P := (Int32.ofNat 12) ≤ (nI l)) (a := 32) (b := 12) (S' := []) rfl (fun c1 => ?_) (fun c1 => ?_)
  · exact WS.vret rfl rfl (h0 (by simp only [of12, of4, t_le] at c1; rw [nI_t (by omega), nI_t (by omega)] at c1; omega))
  · refine WS.run (C := [vp_in (gI σ 8 i 1) 12]) (pc' := 22) (L' := [vR 8 i, vI c]) (S' := []) (σ' := pI σ 9 i (gI σ 8 i 1).toNatClampNeg c) 6 rfl ⟨(by rw [hl]; exact vp_n (by simp only [of12, of4, t_le] at c1; rw [nI_t (by omega), nI_t (by omega)] at c1; omega) (by omega)), trivial⟩ ?_
    simp only [hl, e_l]
    refine WS.run (C := []) (pc' := 32) (L' := [vR 8 i, vI c]) (S' := []) (σ' := pI (pI σ 9 i l c) 8 i 1 (gI (pI σ 9 i l c) 8 i 1 + (1 : Int32))) 6 rfl trivial ?_
    exact WS.vret rfl rfl (by simp only [of12, of4, t_le] at c1; rw [nI_t (by omega), nI_t (by omega)] at c1; rw [hl2, nI_1]; exact h1 (by omega))
set_option maxRecDepth 4000 in
set_option maxHeartbeats 400000 in
theorem c_append31 {d : Nat} {σ : Mem} {Post : Option AV → Mem → Prop} {i l : Nat} {c : Int32} (hl : gI σ 31 i 1 = nI l) (hn : l ≤ 4) (h1 : l < 4 → Post none (pI (pI σ 32 i l c) 31 i 1 (nI (l + 1)))) (h0 : ¬ l < 4 → Post none σ) : MM d M_Word_append [vR 31 i, vI c] σ Post := by
  have e_l : (nI l).toNatClampNeg = l := cl_n (by omega)
  have hl2 : gI (pI σ 32 i l c) 31 i 1 = nI l := by rw [gI_pI, if_neg (by omega)]; exact hl
  refine MM.of ok_Word_append rfl ?_
  show WS _ M_Word_append 0 [vR 31 i, vI c] [] σ _
  refine WS.run (C := []) (pc' := 9) (L' := [vR 31 i, vI c]) (S' := [vI (Int32.ofNat 4), vI (gI σ 31 i 1)]) (σ' := σ) 5 rfl trivial ?_
  simp only [hl, e_l]
  refine WS.br (P := (Int32.ofNat 4) ≤ (nI l)) (a := 32) (b := 12) (S' := []) rfl (fun c1 => ?_) (fun c1 => ?_)
  · exact WS.vret rfl rfl (h0 (by simp only [of12, of4, t_le] at c1; rw [nI_t (by omega), nI_t (by omega)] at c1; omega))
  · refine WS.run (C := [vp_in (gI σ 31 i 1) 4]) (pc' := 22) (L' := [vR 31 i, vI c]) (S' := []) (σ' := pI σ 32 i (gI σ 31 i 1).toNatClampNeg c) 6 rfl ⟨(by rw [hl]; exact vp_n (by simp only [of12, of4, t_le] at c1; rw [nI_t (by omega), nI_t (by omega)] at c1; omega) (by omega)), trivial⟩ ?_
    simp only [hl, e_l]
    refine WS.run (C := []) (pc' := 32) (L' := [vR 31 i, vI c]) (S' := []) (σ' := pI (pI σ 32 i l c) 31 i 1 (gI (pI σ 32 i l c) 31 i 1 + (1 : Int32))) 6 rfl trivial ?_
    exact WS.vret rfl rfl (by simp only [of12, of4, t_le] at c1; rw [nI_t (by omega), nI_t (by omega)] at c1; rw [hl2, nI_1]; exact h1 (by omega))
