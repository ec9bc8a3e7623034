/-! contracts: texture -/
theorem l_m1 {x : Int32} {l : Nat} (h : x = nI l) (hl : l ≤ 1000) : (x - 1).toInt = (l : Int) - 1 := by
  rw [h, t_sub] <;> rw [nI_t (by omega), t_1] <;> omega
set_option maxRecDepth 4000 in
set_option maxHeartbeats 400000 in
theorem c_TMtexture {d : Nat} {σ : Mem} {Post : Option AV → Mem → Prop} {v : Int32} {l : Nat} (hl : gI σ 45 0 5 = nI l) (hn : l ≤ 8) (h1 : ∀ j : Nat, j < l → v = nI j → Post (some (vI (gI σ 49 0 j))) σ) (h0 : (∀ j : Nat, j < l → v ≠ nI j) → Post (some (vI (-1))) σ) : MM (d + 1) M_TM_texture [vR 0 0, vI v] σ Post := by
  refine MM.of ok_TM_texture rfl ?_
  show WS _ M_TM_texture 0 [vR 0 0, vI v] [] σ _
  refine WS.run (C := []) (pc' := 10) (L' := [vR 0 0, vI v]) (S' := [vI (gI σ 45 0 5 - (1 : Int32)), vI v]) (σ' := σ) 6 rfl trivial ?_
  refine WS.callS M_TM_inRange (as := [vI v, vI (gI σ 45 0 5 - (1 : Int32))]) (rest := []) rfl lk_10_71 rfl rfl (Nat.le_of_ble_eq_true rfl) ?_
  refine c_inRange (fun q1a q1b => ?_) (fun q1 => ?_)
  · rw [l_m1 hl (by omega)] at q1b
    obtain ⟨j, hj, rfl⟩ := t_nat (x := v) (n := l) (by omega) (by omega) (by omega)
    have e_j : (nI j).toNatClampNeg = j := cl_n (by omega)
    rw [nI_t (by omega)] at q1b
    show WS _ M_TM_texture 13 [vR 0 0, vI (nI j)] [vI (1 : Int32)] σ _
    refine WS.br (P := (1 : Int32) = 0) (a := 28) (b := 16) (S' := []) rfl (fun cc => absurd cc (by decide)) (fun _ => ?_)
    refine WS.run (C := [vp_in (nI j) 8]) (pc' := 29) (L' := [vR 0 0, vI (nI j)]) (S' := [vI (gI σ 49 0 (nI j).toNatClampNeg)]) (σ' := σ) 6 rfl ⟨(vp_n (by omega) (by omega)), trivial⟩ ?_
    simp only [e_j]
    exact WS.ret rfl rfl (by decide) rfl (h1 j (by omega) rfl)
  · rw [l_m1 hl (by omega)] at q1
    show WS _ M_TM_texture 13 [vR 0 0, vI v] [vI (0 : Int32)] σ _
    refine WS.br (P := (0 : Int32) = 0) (a := 28) (b := 16) (S' := []) rfl (fun _ => ?_) (fun cc => absurd (by decide) cc)
    refine WS.run (C := []) (pc' := 29) (L' := [vR 0 0, vI v]) (S' := [vI (-1 : Int32)]) (σ' := σ) 1 rfl trivial ?_
    exact WS.ret rfl rfl (by decide) rfl (h0 (fun i hi e => q1 (by rw [e, nI_t (by omega)]; omega)))
