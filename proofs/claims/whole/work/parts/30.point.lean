/-! contracts: point of the class -/
def poiO (σ : Mem) (v x y : Int32) (j : Nat) : Prop := j < 12 ∧ v = nI j ∧ co x.toInt ∧ co y.toInt ∧ takO σ j (ctW σ j) x y
set_option maxRecDepth 4000 in
set_option maxHeartbeats 400000 in
theorem c_TMpoint {d : Nat} {σ : Mem} {Post : Option AV → Mem → Prop} {v x y : Int32} (hv : AllV σ) (h1 : ∀ (j : Nat) (τ : Mem), poiO σ v x y j → AddW σ τ j (ctW σ j) x y → Post (some (vI (nI (ctW σ j + 1)))) τ) (h0 : (∀ j : Nat, ¬ poiO σ v x y j) → Post (some (vI (-1))) σ) : MM (d + 2) M_TM_point [vR 0 0, vI v, vI x, vI y] σ Post := by
  refine MM.of ok_TM_point rfl ?_
  show WS _ M_TM_point 0 [vR 0 0, vI v, vI x, vI y] [] σ _
  refine WS.run (C := []) (pc' := 3) (L' := [vR 0 0, vI v, vI x, vI y]) (S' := [vI (11 : Int32), vI v]) (σ' := σ) 2 rfl trivial ?_
  refine WS.callS M_TM_inRange (as := [vI v, vI (11 : Int32)]) (rest := []) rfl lk_10_71 rfl rfl (Nat.le_of_ble_eq_true rfl) ?_
  refine c_inRange (fun q1a q1b => ?_) (fun q1 => ?_)
  · obtain ⟨j, hj, rfl⟩ := t_nat (x := v) (n := 11) (by omega) (by first | omega | (simp only [t_11] at *; omega)) (by omega)
    have e_j : (nI j).toNatClampNeg = j := cl_n (by omega)
    have hvj := hv j (by omega)
    have hcj := hvj.2.2.1
    show WS _ M_TM_point 6 [vR 0 0, vI (nI j), vI x, vI y] [vI (1 : Int32)] σ _
    refine WS.br (P := (1 : Int32) = 0) (a := 31) (b := 9) (S' := []) rfl (fun cc => absurd cc (by decide)) (fun _ => ?_)
    refine WS.run (C := []) (pc' := 11) (L' := [vR 0 0, vI (nI j), vI x, vI y]) (S' := [vI y, vI x]) (σ' := σ) 2 rfl trivial ?_
    refine WS.callS M_TM_isPlace (as := [vI x, vI y]) (rest := []) rfl lk_10_79 rfl rfl (Nat.le_of_ble_eq_true rfl) ?_
    refine c_isPlace  (fun q2a q2b => ?_) (fun q2 => ?_)
    · show WS _ M_TM_point 14 [vR 0 0, vI (nI j), vI x, vI y] [vI (1 : Int32)] σ _
      refine WS.br (P := (1 : Int32) = 0) (a := 31) (b := 17) (S' := []) rfl (fun cc => absurd cc (by decide)) (fun _ => ?_)
      refine WS.run (C := [vp_in (nI j) 12]) (pc' := 25) (L' := [vR 0 0, vI (nI j), vI x, vI y]) (S' := [vI y, vI x, vR 2 ((nI j).toNatClampNeg)]) (σ' := σ) 6 rfl ⟨(vp_n (by omega) (by omega)), trivial⟩ ?_
      simp only [e_j]
      refine WS.callV M_Way_takes (k := 2) (i := j) (as := [vI x, vI y]) (rest := []) rfl lk_10_82 rfl rfl rfl (Nat.le_of_ble_eq_true rfl) ?_
      refine c_takes hvj.1 hcj (fun q3 => ?_) (fun q3 => ?_)
      · show WS _ M_TM_point 28 [vR 0 0, vI (nI j), vI x, vI y] [vI (1 : Int32)] σ _
        refine WS.br (P := (1 : Int32) = 0) (a := 31) (b := 33) (S' := []) rfl (fun cc => absurd cc (by decide)) (fun _ => ?_)
        refine WS.run (C := [vp_in (nI j) 12]) (pc' := 41) (L' := [vR 0 0, vI (nI j), vI x, vI y]) (S' := [vI y, vI x, vR 2 ((nI j).toNatClampNeg)]) (σ' := σ) 6 rfl ⟨(vp_n (by omega) (by omega)), trivial⟩ ?_
        simp only [e_j]
        refine WS.callV M_Way_add (k := 2) (i := j) (as := [vI x, vI y]) (rest := []) rfl lk_10_85 rfl rfl rfl (Nat.le_of_ble_eq_true rfl) ?_
        refine c_add hvj.1 q3.2.1 (fun τ4 e4 => ?_)
        show WS _ M_TM_point 44 [vR 0 0, vI (nI j), vI x, vI y] [] τ4 _
        refine WS.run (C := [vp_in (nI j) 12]) (pc' := 53) (L' := [vR 0 0, vI (nI j), vI x, vI y]) (S' := [vI (gI τ4 2 ((nI j).toNatClampNeg) 3)]) (σ' := τ4) 5 rfl ⟨(vp_n (by omega) (by omega)), trivial⟩ ?_
        simp only [e_j]
        exact WS.ret rfl rfl (by decide) rfl (by rw [e4.2.2.2.1]; exact h1 j _ ⟨by omega, rfl, q2a, q2b, q3⟩ e4)
      · show WS _ M_TM_point 28 [vR 0 0, vI (nI j), vI x, vI y] [vI (0 : Int32)] σ _
        refine WS.br (P := (0 : Int32) = 0) (a := 31) (b := 33) (S' := []) rfl (fun _ => ?_) (fun cc => absurd (by decide) cc)
        refine WS.run (C := []) (pc' := 32) (L' := [vR 0 0, vI (nI j), vI x, vI y]) (S' := [vI (-1 : Int32)]) (σ' := σ) 1 rfl trivial ?_
        exact WS.ret rfl rfl (by decide) rfl (h0 (fun i z => by obtain rfl : i = j := (nI_eq (by have := z.1; omega) (by omega)).mp z.2.1.symm; exact q3 z.2.2.2.2))
    · show WS _ M_TM_point 14 [vR 0 0, vI (nI j), vI x, vI y] [vI (0 : Int32)] σ _
      refine WS.br (P := (0 : Int32) = 0) (a := 31) (b := 17) (S' := []) rfl (fun _ => ?_) (fun cc => absurd (by decide) cc)
      refine WS.run (C := []) (pc' := 32) (L' := [vR 0 0, vI (nI j), vI x, vI y]) (S' := [vI (-1 : Int32)]) (σ' := σ) 1 rfl trivial ?_
      exact WS.ret rfl rfl (by decide) rfl (h0 (fun i z => q2 ⟨z.2.2.1, z.2.2.2.1⟩))
  · show WS _ M_TM_point 6 [vR 0 0, vI v, vI x, vI y] [vI (0 : Int32)] σ _
    refine WS.br (P := (0 : Int32) = 0) (a := 31) (b := 9) (S' := []) rfl (fun _ => ?_) (fun cc => absurd (by decide) cc)
    refine WS.run (C := []) (pc' := 32) (L' := [vR 0 0, vI v, vI x, vI y]) (S' := [vI (-1 : Int32)]) (σ' := σ) 1 rfl trivial ?_
    exact WS.ret rfl rfl (by decide) rfl (h0 (fun i z => q1 (by rw [z.2.1, nI_t (by have := z.1; omega), t_11]; have := z.1; omega)))
