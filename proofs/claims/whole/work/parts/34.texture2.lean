/-! contracts: texture of the model -/
set_option maxRecDepth 4000 in
set_option maxHeartbeats 400000 in
theorem c_Mtexture {d : Nat} {σ : Mem} {Post : Option AV → Mem → Prop} {v : Int32} {l : Nat} (hl : gI σ 51 0 35 = nI l) (hn : l ≤ 8) (h1 : ∀ j : Nat, j < l → v = nI j → Post (some (vI (gI σ 84 0 j))) σ) (h0 : (∀ j : Nat, j < l → v ≠ nI j) → Post (some (vI (-1))) σ) : MM d M_MD_texture [vR 51 0, vI v] σ Post := by
  by_cases hin : 0 ≤ v.toInt ∧ v.toInt < (l : Int)
  · obtain ⟨j, hj, rfl⟩ := t_nat (x := v) (n := l) hin.1 (by omega) (by omega)
    rw [nI_t (by omega)] at hin
    have e_j : (nI j).toNatClampNeg = j := cl_n (by omega)
    refine MM.of ok_MD_texture rfl ?_
    show WS _ M_MD_texture 0 [vR 51 0, vI (nI j)] [] σ _
    refine WS.run (C := []) (pc' := 1) (L' := [vR 51 0, vI (nI j)]) (S' := [vI (nI j)]) (σ' := σ) 1 rfl trivial ?_
    refine WS.br (P := (nI j) < 0) (a := 21) (b := 4) (S' := []) rfl (fun cc => absurd cc (by rw [t_lt, nI_t (by omega), t_0]; omega)) (fun _ => ?_)
    refine WS.run (C := []) (pc' := 9) (L' := [vR 51 0, vI (nI j)]) (S' := [vI (gI σ 51 0 35), vI (nI j)]) (σ' := σ) 3 rfl trivial ?_
    refine WS.br (P := (gI σ 51 0 35) ≤ (nI j)) (a := 21) (b := 12) (S' := []) rfl (fun cc => absurd cc (by rw [hl, t_le, nI_t (by omega), nI_t (by omega)]; omega)) (fun _ => ?_)
    refine WS.run (C := [vp_in (nI j) 8]) (pc' := 22) (L' := [vR 51 0, vI (nI j)]) (S' := [vI (gI σ 84 0 (nI j).toNatClampNeg)]) (σ' := σ) 5 rfl ⟨(vp_n (by omega) (by omega)), trivial⟩ ?_
    simp only [e_j]
    exact WS.ret rfl rfl (by decide) rfl (h1 j (by omega) rfl)
  · refine MM.of ok_MD_texture rfl ?_
    show WS _ M_MD_texture 0 [vR 51 0, vI v] [] σ _
    refine WS.run (C := []) (pc' := 1) (L' := [vR 51 0, vI v]) (S' := [vI v]) (σ' := σ) 1 rfl trivial ?_
    refine WS.br (P := v < 0) (a := 21) (b := 4) (S' := []) rfl (fun c1 => ?_) (fun c1 => ?_)
    · refine WS.run (C := []) (pc' := 22) (L' := [vR 51 0, vI v]) (S' := [vI (-1 : Int32)]) (σ' := σ) 1 rfl trivial ?_
      exact WS.ret rfl rfl (by decide) rfl (h0 (fun i hi e => hin (by rw [e, nI_t (by omega)]; omega)))
    · refine WS.run (C := []) (pc' := 9) (L' := [vR 51 0, vI v]) (S' := [vI (gI σ 51 0 35), vI v]) (σ' := σ) 3 rfl trivial ?_
      refine WS.br (P := (gI σ 51 0 35) ≤ v) (a := 21) (b := 12) (S' := []) rfl (fun c2 => ?_) (fun c2 => ?_)
      · refine WS.run (C := []) (pc' := 22) (L' := [vR 51 0, vI v]) (S' := [vI (-1 : Int32)]) (σ' := σ) 1 rfl trivial ?_
        exact WS.ret rfl rfl (by decide) rfl (h0 (fun i hi e => hin (by rw [e, nI_t (by omega)]; omega)))
      · refine WS.run (C := [vp_in v 8]) (pc' := 22) (L' := [vR 51 0, vI v]) (S' := [vI (gI σ 84 0 v.toNatClampNeg)]) (σ' := σ) 5 rfl ⟨(by exfalso; have q := c1; have q2 := c2; rw [t_lt, t_0] at q; rw [hl, t_le, nI_t (by omega)] at q2; omega), trivial⟩ ?_
        exact WS.ret rfl rfl (by decide) rfl (by exfalso; have q := c1; have q2 := c2; rw [t_lt, t_0] at q; rw [hl, t_le, nI_t (by omega)] at q2; omega)
