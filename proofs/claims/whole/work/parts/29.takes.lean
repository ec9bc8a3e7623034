/-! contracts: takes -/
def takO (σ : Mem) (w c : Nat) (x y : Int32) : Prop := gI σ 2 w 7 ≠ 0 ∧ c < 20 ∧ (c = 0 ∨ gI σ 3 w (c - 1) ≠ x ∨ gI σ 4 w (c - 1) ≠ y)
theorem t_20 : (20 : Int32).toInt = 20 := by decide
set_option maxRecDepth 4000 in
set_option maxHeartbeats 400000 in
theorem c_takes {d : Nat} {σ : Mem} {Post : Option AV → Mem → Prop} {w c : Nat} {x y : Int32} (hc : gI σ 2 w 3 = nI c) (hn : c ≤ 20) (h1 : takO σ w c x y → Post (some (vI 1)) σ) (h0 : ¬ takO σ w c x y → Post (some (vI 0)) σ) : MM d M_Way_takes [vR 2 w, vI x, vI y] σ Post := by
  rcases c with _ | e
  · refine MM.of ok_Way_takes rfl ?_
    show WS _ M_Way_takes 0 [vR 2 w, vI x, vI y] [] σ _
    refine WS.run (C := []) (pc' := 4) (L' := [vR 2 w, vI x, vI y]) (S' := [vI (gI σ 2 w 7)]) (σ' := σ) 2 rfl trivial ?_
    refine WS.br (P := (gI σ 2 w 7) = 0) (a := 16) (b := 7) (S' := []) rfl (fun c1 => ?_) (fun c1 => ?_)
    · refine WS.run (C := []) (pc' := 17) (L' := [vR 2 w, vI x, vI y]) (S' := [vI (0 : Int32)]) (σ' := σ) 1 rfl trivial ?_
      exact WS.ret rfl rfl (by decide) rfl (h0 (fun z => z.1 c1))
    · refine WS.run (C := []) (pc' := 13) (L' := [vR 2 w, vI x, vI y]) (S' := [vI (20 : Int32), vI (gI σ 2 w 3)]) (σ' := σ) 3 rfl trivial ?_
      simp only [hc]
      refine WS.br (P := (nI 0) < (20 : Int32)) (a := 18) (b := 16) (S' := []) rfl (fun _ => ?_) (fun cc => absurd (by decide) cc)
      refine WS.run (C := []) (pc' := 22) (L' := [vR 2 w, vI x, vI y]) (S' := [vI (gI σ 2 w 3)]) (σ' := σ) 2 rfl trivial ?_
      simp only [hc]
      refine WS.br (P := (nI 0) = 0) (a := 55) (b := 25) (S' := []) rfl (fun _ => ?_) (fun cc => absurd (by decide) cc)
      refine WS.run (C := []) (pc' := 60) (L' := [vR 2 w, vI x, vI y]) (S' := [vI (1 : Int32)]) (σ' := σ) 2 rfl trivial ?_
      exact WS.ret rfl rfl (by decide) rfl (h1 ⟨c1, by omega, Or.inl rfl⟩)
  · have e_e : (nI e).toNatClampNeg = e := cl_n (by omega)
    refine MM.of ok_Way_takes rfl ?_
    show WS _ M_Way_takes 0 [vR 2 w, vI x, vI y] [] σ _
    refine WS.run (C := []) (pc' := 4) (L' := [vR 2 w, vI x, vI y]) (S' := [vI (gI σ 2 w 7)]) (σ' := σ) 2 rfl trivial ?_
    refine WS.br (P := (gI σ 2 w 7) = 0) (a := 16) (b := 7) (S' := []) rfl (fun c2 => ?_) (fun c2 => ?_)
    · refine WS.run (C := []) (pc' := 17) (L' := [vR 2 w, vI x, vI y]) (S' := [vI (0 : Int32)]) (σ' := σ) 1 rfl trivial ?_
      exact WS.ret rfl rfl (by decide) rfl (h0 (fun z => z.1 c2))
    · refine WS.run (C := []) (pc' := 13) (L' := [vR 2 w, vI x, vI y]) (S' := [vI (20 : Int32), vI (gI σ 2 w 3)]) (σ' := σ) 3 rfl trivial ?_
      simp only [hc, nI_pred, e_e]
      refine WS.br (P := (nI (e + 1)) < (20 : Int32)) (a := 18) (b := 16) (S' := []) rfl (fun c3 => ?_) (fun c3 => ?_)
      · refine WS.run (C := []) (pc' := 22) (L' := [vR 2 w, vI x, vI y]) (S' := [vI (gI σ 2 w 3)]) (σ' := σ) 2 rfl trivial ?_
        simp only [hc, nI_pred, e_e]
        refine WS.br (P := (nI (e + 1)) = 0) (a := 55) (b := 25) (S' := []) rfl (fun cc => absurd cc (nI_ne0 (by omega) (by omega))) (fun _ => ?_)
        refine WS.run (C := [vp_in (gI σ 2 w 3 - (1 : Int32)) 20]) (pc' := 37) (L' := [vR 2 w, vI x, vI y]) (S' := [vI x, vI (gI σ 3 w (gI σ 2 w 3 - (1 : Int32)).toNatClampNeg)]) (σ' := σ) 8 rfl ⟨(by rw [hc, nI_pred]; exact vp_n (by omega) (by omega)), trivial⟩ ?_
        simp only [hc, nI_pred, e_e]
        refine WS.br (P := (gI σ 3 w e) = x) (a := 40) (b := 55) (S' := []) rfl (fun c4 => ?_) (fun c4 => ?_)
        · refine WS.run (C := [vp_in (gI σ 2 w 3 - (1 : Int32)) 20]) (pc' := 52) (L' := [vR 2 w, vI x, vI y]) (S' := [vI y, vI (gI σ 4 w (gI σ 2 w 3 - (1 : Int32)).toNatClampNeg)]) (σ' := σ) 8 rfl ⟨(by rw [hc, nI_pred]; exact vp_n (by omega) (by omega)), trivial⟩ ?_
          simp only [hc, nI_pred, e_e]
          refine WS.br (P := (gI σ 4 w e) = y) (a := 59) (b := 55) (S' := []) rfl (fun c5 => ?_) (fun c5 => ?_)
          · refine WS.run (C := []) (pc' := 60) (L' := [vR 2 w, vI x, vI y]) (S' := [vI (0 : Int32)]) (σ' := σ) 1 rfl trivial ?_
            exact WS.ret rfl rfl (by decide) rfl (h0 (fun z => z.2.2.elim (fun q => by omega) (fun q => q.elim (fun q => q c4) (fun q => q c5))))
          · refine WS.run (C := []) (pc' := 60) (L' := [vR 2 w, vI x, vI y]) (S' := [vI (1 : Int32)]) (σ' := σ) 2 rfl trivial ?_
            exact WS.ret rfl rfl (by decide) rfl (h1 ⟨c2, (by have q := c3; rw [t_lt, nI_t (by omega), t_20] at q; omega), Or.inr (Or.inr c5)⟩)
        · refine WS.run (C := []) (pc' := 60) (L' := [vR 2 w, vI x, vI y]) (S' := [vI (1 : Int32)]) (σ' := σ) 2 rfl trivial ?_
          exact WS.ret rfl rfl (by decide) rfl (h1 ⟨c2, (by have q := c3; rw [t_lt, nI_t (by omega), t_20] at q; omega), Or.inr (Or.inl c4)⟩)
      · refine WS.run (C := []) (pc' := 17) (L' := [vR 2 w, vI x, vI y]) (S' := [vI (0 : Int32)]) (σ' := σ) 1 rfl trivial ?_
        exact WS.ret rfl rfl (by decide) rfl (h0 (fun z => by have q := c3; rw [t_lt, nI_t (by omega), t_20] at q; have := z.2.1; omega))
