/-! contracts: lines, the rest -/
set_option maxRecDepth 4000 in
set_option maxHeartbeats 400000 in
theorem c_hasEnd {d : Nat} {σ : Mem} {Post : Option AV → Mem → Prop} {x y : Int32} {k : Nat} (hk : isLn k) (h1 : endZ (lnC σ k) x.toInt y.toInt → Post (some (vI 1)) σ) (h0 : ¬ endZ (lnC σ k) x.toInt y.toInt → Post (some (vI 0)) σ) : MM d M_Line_hasEnd [vR k 0, vI x, vI y] σ Post := by
  rcases hk with rfl | rfl | rfl
  · refine MM.of ok_Line_hasEnd rfl ?_
    show WS _ M_Line_hasEnd 0 [vR 11 0, vI x, vI y] [] σ _
    refine WS.run (C := []) (pc' := 5) (L' := [vR 11 0, vI x, vI y]) (S' := [vI x, vI (gI σ 11 0 0)]) (σ' := σ) 3 rfl trivial ?_
    refine WS.br (P := (gI σ 11 0 0) = x) (a := 8) (b := 16) (S' := []) rfl (fun c1 => ?_) (fun c1 => ?_)
    · refine WS.run (C := []) (pc' := 13) (L' := [vR 11 0, vI x, vI y]) (S' := [vI y, vI (gI σ 11 0 1)]) (σ' := σ) 3 rfl trivial ?_
      refine WS.br (P := (gI σ 11 0 1) = y) (a := 32) (b := 16) (S' := []) rfl (fun c2 => ?_) (fun c2 => ?_)
      · refine WS.run (C := []) (pc' := 37) (L' := [vR 11 0, vI x, vI y]) (S' := [vI (1 : Int32)]) (σ' := σ) 2 rfl trivial ?_
        exact WS.ret rfl rfl (by decide) rfl (by simp only [t_eq] at *; exact h1 (by unfold endZ lnC; dsimp only; omega))
      · refine WS.run (C := []) (pc' := 21) (L' := [vR 11 0, vI x, vI y]) (S' := [vI x, vI (gI σ 11 0 2)]) (σ' := σ) 3 rfl trivial ?_
        refine WS.br (P := (gI σ 11 0 2) = x) (a := 24) (b := 36) (S' := []) rfl (fun c3 => ?_) (fun c3 => ?_)
        · refine WS.run (C := []) (pc' := 29) (L' := [vR 11 0, vI x, vI y]) (S' := [vI y, vI (gI σ 11 0 3)]) (σ' := σ) 3 rfl trivial ?_
          refine WS.br (P := (gI σ 11 0 3) = y) (a := 32) (b := 36) (S' := []) rfl (fun c4 => ?_) (fun c4 => ?_)
          · refine WS.run (C := []) (pc' := 37) (L' := [vR 11 0, vI x, vI y]) (S' := [vI (1 : Int32)]) (σ' := σ) 2 rfl trivial ?_
            exact WS.ret rfl rfl (by decide) rfl (by simp only [t_eq] at *; exact h1 (by unfold endZ lnC; dsimp only; omega))
          · refine WS.run (C := []) (pc' := 37) (L' := [vR 11 0, vI x, vI y]) (S' := [vI (0 : Int32)]) (σ' := σ) 1 rfl trivial ?_
            exact WS.ret rfl rfl (by decide) rfl (by simp only [t_eq] at *; exact h0 (by unfold endZ lnC; dsimp only; omega))
        · refine WS.run (C := []) (pc' := 37) (L' := [vR 11 0, vI x, vI y]) (S' := [vI (0 : Int32)]) (σ' := σ) 1 rfl trivial ?_
          exact WS.ret rfl rfl (by decide) rfl (by simp only [t_eq] at *; exact h0 (by unfold endZ lnC; dsimp only; omega))
    · refine WS.run (C := []) (pc' := 21) (L' := [vR 11 0, vI x, vI y]) (S' := [vI x, vI (gI σ 11 0 2)]) (σ' := σ) 3 rfl trivial ?_
      refine WS.br (P := (gI σ 11 0 2) = x) (a := 24) (b := 36) (S' := []) rfl (fun c5 => ?_) (fun c5 => ?_)
      · refine WS.run (C := []) (pc' := 29) (L' := [vR 11 0, vI x, vI y]) (S' := [vI y, vI (gI σ 11 0 3)]) (σ' := σ) 3 rfl trivial ?_
        refine WS.br (P := (gI σ 11 0 3) = y) (a := 32) (b := 36) (S' := []) rfl (fun c6 => ?_) (fun c6 => ?_)
        · refine WS.run (C := []) (pc' := 37) (L' := [vR 11 0, vI x, vI y]) (S' := [vI (1 : Int32)]) (σ' := σ) 2 rfl trivial ?_
          exact WS.ret rfl rfl (by decide) rfl (by simp only [t_eq] at *; exact h1 (by unfold endZ lnC; dsimp only; omega))
        · refine WS.run (C := []) (pc' := 37) (L' := [vR 11 0, vI x, vI y]) (S' := [vI (0 : Int32)]) (σ' := σ) 1 rfl trivial ?_
          exact WS.ret rfl rfl (by decide) rfl (by simp only [t_eq] at *; exact h0 (by unfold endZ lnC; dsimp only; omega))
      · refine WS.run (C := []) (pc' := 37) (L' := [vR 11 0, vI x, vI y]) (S' := [vI (0 : Int32)]) (σ' := σ) 1 rfl trivial ?_
        exact WS.ret rfl rfl (by decide) rfl (by simp only [t_eq] at *; exact h0 (by unfold endZ lnC; dsimp only; omega))
  · refine MM.of ok_Line_hasEnd rfl ?_
    show WS _ M_Line_hasEnd 0 [vR 12 0, vI x, vI y] [] σ _
    refine WS.run (C := []) (pc' := 5) (L' := [vR 12 0, vI x, vI y]) (S' := [vI x, vI (gI σ 12 0 0)]) (σ' := σ) 3 rfl trivial ?_
    refine WS.br (P := (gI σ 12 0 0) = x) (a := 8) (b := 16) (S' := []) rfl (fun c1 => ?_) (fun c1 => ?_)
    · refine WS.run (C := []) (pc' := 13) (L' := [vR 12 0, vI x, vI y]) (S' := [vI y, vI (gI σ 12 0 1)]) (σ' := σ) 3 rfl trivial ?_
      refine WS.br (P := (gI σ 12 0 1) = y) (a := 32) (b := 16) (S' := []) rfl (fun c2 => ?_) (fun c2 => ?_)
      · refine WS.run (C := []) (pc' := 37) (L' := [vR 12 0, vI x, vI y]) (S' := [vI (1 : Int32)]) (σ' := σ) 2 rfl trivial ?_
        exact WS.ret rfl rfl (by decide) rfl (by simp only [t_eq] at *; exact h1 (by unfold endZ lnC; dsimp only; omega))
      · refine WS.run (C := []) (pc' := 21) (L' := [vR 12 0, vI x, vI y]) (S' := [vI x, vI (gI σ 12 0 2)]) (σ' := σ) 3 rfl trivial ?_
        refine WS.br (P := (gI σ 12 0 2) = x) (a := 24) (b := 36) (S' := []) rfl (fun c3 => ?_) (fun c3 => ?_)
        · refine WS.run (C := []) (pc' := 29) (L' := [vR 12 0, vI x, vI y]) (S' := [vI y, vI (gI σ 12 0 3)]) (σ' := σ) 3 rfl trivial ?_
          refine WS.br (P := (gI σ 12 0 3) = y) (a := 32) (b := 36) (S' := []) rfl (fun c4 => ?_) (fun c4 => ?_)
          · refine WS.run (C := []) (pc' := 37) (L' := [vR 12 0, vI x, vI y]) (S' := [vI (1 : Int32)]) (σ' := σ) 2 rfl trivial ?_
            exact WS.ret rfl rfl (by decide) rfl (by simp only [t_eq] at *; exact h1 (by unfold endZ lnC; dsimp only; omega))
          · refine WS.run (C := []) (pc' := 37) (L' := [vR 12 0, vI x, vI y]) (S' := [vI (0 : Int32)]) (σ' := σ) 1 rfl trivial ?_
            exact WS.ret rfl rfl (by decide) rfl (by simp only [t_eq] at *; exact h0 (by unfold endZ lnC; dsimp only; omega))
        · refine WS.run (C := []) (pc' := 37) (L' := [vR 12 0, vI x, vI y]) (S' := [vI (0 : Int32)]) (σ' := σ) 1 rfl trivial ?_
          exact WS.ret rfl rfl (by decide) rfl (by simp only [t_eq] at *; exact h0 (by unfold endZ lnC; dsimp only; omega))
    · refine WS.run (C := []) (pc' := 21) (L' := [vR 12 0, vI x, vI y]) (S' := [vI x, vI (gI σ 12 0 2)]) (σ' := σ) 3 rfl trivial ?_
      refine WS.br (P := (gI σ 12 0 2) = x) (a := 24) (b := 36) (S' := []) rfl (fun c5 => ?_) (fun c5 => ?_)
      · refine WS.run (C := []) (pc' := 29) (L' := [vR 12 0, vI x, vI y]) (S' := [vI y, vI (gI σ 12 0 3)]) (σ' := σ) 3 rfl trivial ?_
        refine WS.br (P := (gI σ 12 0 3) = y) (a := 32) (b := 36) (S' := []) rfl (fun c6 => ?_) (fun c6 => ?_)
        · refine WS.run (C := []) (pc' := 37) (L' := [vR 12 0, vI x, vI y]) (S' := [vI (1 : Int32)]) (σ' := σ) 2 rfl trivial ?_
          exact WS.ret rfl rfl (by decide) rfl (by simp only [t_eq] at *; exact h1 (by unfold endZ lnC; dsimp only; omega))
        · refine WS.run (C := []) (pc' := 37) (L' := [vR 12 0, vI x, vI y]) (S' := [vI (0 : Int32)]) (σ' := σ) 1 rfl trivial ?_
          exact WS.ret rfl rfl (by decide) rfl (by simp only [t_eq] at *; exact h0 (by unfold endZ lnC; dsimp only; omega))
      · refine WS.run (C := []) (pc' := 37) (L' := [vR 12 0, vI x, vI y]) (S' := [vI (0 : Int32)]) (σ' := σ) 1 rfl trivial ?_
        exact WS.ret rfl rfl (by decide) rfl (by simp only [t_eq] at *; exact h0 (by unfold endZ lnC; dsimp only; omega))
  · refine MM.of ok_Line_hasEnd rfl ?_
    show WS _ M_Line_hasEnd 0 [vR 40 0, vI x, vI y] [] σ _
    refine WS.run (C := []) (pc' := 5) (L' := [vR 40 0, vI x, vI y]) (S' := [vI x, vI (gI σ 40 0 0)]) (σ' := σ) 3 rfl trivial ?_
    refine WS.br (P := (gI σ 40 0 0) = x) (a := 8) (b := 16) (S' := []) rfl (fun c1 => ?_) (fun c1 => ?_)
    · refine WS.run (C := []) (pc' := 13) (L' := [vR 40 0, vI x, vI y]) (S' := [vI y, vI (gI σ 40 0 1)]) (σ' := σ) 3 rfl trivial ?_
      refine WS.br (P := (gI σ 40 0 1) = y) (a := 32) (b := 16) (S' := []) rfl (fun c2 => ?_) (fun c2 => ?_)
      · refine WS.run (C := []) (pc' := 37) (L' := [vR 40 0, vI x, vI y]) (S' := [vI (1 : Int32)]) (σ' := σ) 2 rfl trivial ?_
        exact WS.ret rfl rfl (by decide) rfl (by simp only [t_eq] at *; exact h1 (by unfold endZ lnC; dsimp only; omega))
      · refine WS.run (C := []) (pc' := 21) (L' := [vR 40 0, vI x, vI y]) (S' := [vI x, vI (gI σ 40 0 2)]) (σ' := σ) 3 rfl trivial ?_
        refine WS.br (P := (gI σ 40 0 2) = x) (a := 24) (b := 36) (S' := []) rfl (fun c3 => ?_) (fun c3 => ?_)
        · refine WS.run (C := []) (pc' := 29) (L' := [vR 40 0, vI x, vI y]) (S' := [vI y, vI (gI σ 40 0 3)]) (σ' := σ) 3 rfl trivial ?_
          refine WS.br (P := (gI σ 40 0 3) = y) (a := 32) (b := 36) (S' := []) rfl (fun c4 => ?_) (fun c4 => ?_)
          · refine WS.run (C := []) (pc' := 37) (L' := [vR 40 0, vI x, vI y]) (S' := [vI (1 : Int32)]) (σ' := σ) 2 rfl trivial ?_
            exact WS.ret rfl rfl (by decide) rfl (by simp only [t_eq] at *; exact h1 (by unfold endZ lnC; dsimp only; omega))
          · refine WS.run (C := []) (pc' := 37) (L' := [vR 40 0, vI x, vI y]) (S' := [vI (0 : Int32)]) (σ' := σ) 1 rfl trivial ?_
            exact WS.ret rfl rfl (by decide) rfl (by simp only [t_eq] at *; exact h0 (by unfold endZ lnC; dsimp only; omega))
        · refine WS.run (C := []) (pc' := 37) (L' := [vR 40 0, vI x, vI y]) (S' := [vI (0 : Int32)]) (σ' := σ) 1 rfl trivial ?_
          exact WS.ret rfl rfl (by decide) rfl (by simp only [t_eq] at *; exact h0 (by unfold endZ lnC; dsimp only; omega))
    · refine WS.run (C := []) (pc' := 21) (L' := [vR 40 0, vI x, vI y]) (S' := [vI x, vI (gI σ 40 0 2)]) (σ' := σ) 3 rfl trivial ?_
      refine WS.br (P := (gI σ 40 0 2) = x) (a := 24) (b := 36) (S' := []) rfl (fun c5 => ?_) (fun c5 => ?_)
      · refine WS.run (C := []) (pc' := 29) (L' := [vR 40 0, vI x, vI y]) (S' := [vI y, vI (gI σ 40 0 3)]) (σ' := σ) 3 rfl trivial ?_
        refine WS.br (P := (gI σ 40 0 3) = y) (a := 32) (b := 36) (S' := []) rfl (fun c6 => ?_) (fun c6 => ?_)
        · refine WS.run (C := []) (pc' := 37) (L' := [vR 40 0, vI x, vI y]) (S' := [vI (1 : Int32)]) (σ' := σ) 2 rfl trivial ?_
          exact WS.ret rfl rfl (by decide) rfl (by simp only [t_eq] at *; exact h1 (by unfold endZ lnC; dsimp only; omega))
        · refine WS.run (C := []) (pc' := 37) (L' := [vR 40 0, vI x, vI y]) (S' := [vI (0 : Int32)]) (σ' := σ) 1 rfl trivial ?_
          exact WS.ret rfl rfl (by decide) rfl (by simp only [t_eq] at *; exact h0 (by unfold endZ lnC; dsimp only; omega))
      · refine WS.run (C := []) (pc' := 37) (L' := [vR 40 0, vI x, vI y]) (S' := [vI (0 : Int32)]) (σ' := σ) 1 rfl trivial ?_
        exact WS.ret rfl rfl (by decide) rfl (by simp only [t_eq] at *; exact h0 (by unfold endZ lnC; dsimp only; omega))
set_option maxRecDepth 4000 in
set_option maxHeartbeats 400000 in
theorem c_areOpposite {d : Nat} {σ : Mem} {Post : Option AV → Mem → Prop} {x y : Int32} (h1 : opp x.toInt y.toInt → Post (some (vI 1)) σ) (h0 : ¬ opp x.toInt y.toInt → Post (some (vI 0)) σ) : MM d M_Line_areOpposite [vI x, vI y] σ Post := by
  refine MM.of ok_Line_areOpposite rfl ?_
  show WS _ M_Line_areOpposite 0 [vI x, vI y] [] σ _
  refine WS.run (C := []) (pc' := 1) (L' := [vI x, vI y]) (S' := [vI x]) (σ' := σ) 1 rfl trivial ?_
  refine WS.br (P := 0 ≤ x) (a := 8) (b := 4) (S' := []) rfl (fun c1 => ?_) (fun c1 => ?_)
  · refine WS.run (C := []) (pc' := 9) (L' := [vI x, vI y]) (S' := [vI x]) (σ' := σ) 1 rfl trivial ?_
    refine WS.br (P := x ≤ 0) (a := 20) (b := 12) (S' := []) rfl (fun c2 => ?_) (fun c2 => ?_)
    · refine WS.run (C := []) (pc' := 21) (L' := [vI x, vI y]) (S' := [vI (0 : Int32)]) (σ' := σ) 1 rfl trivial ?_
      exact WS.ret rfl rfl (by decide) rfl (by simp only [t_lt, t_le, t_0] at *; exact h0 (by unfold opp; omega))
    · refine WS.run (C := []) (pc' := 13) (L' := [vI x, vI y]) (S' := [vI y]) (σ' := σ) 1 rfl trivial ?_
      refine WS.br (P := 0 ≤ y) (a := 20) (b := 16) (S' := []) rfl (fun c3 => ?_) (fun c3 => ?_)
      · refine WS.run (C := []) (pc' := 21) (L' := [vI x, vI y]) (S' := [vI (0 : Int32)]) (σ' := σ) 1 rfl trivial ?_
        exact WS.ret rfl rfl (by decide) rfl (by simp only [t_lt, t_le, t_0] at *; exact h0 (by unfold opp; omega))
      · refine WS.run (C := []) (pc' := 21) (L' := [vI x, vI y]) (S' := [vI (1 : Int32)]) (σ' := σ) 2 rfl trivial ?_
        exact WS.ret rfl rfl (by decide) rfl (by simp only [t_lt, t_le, t_0] at *; exact h1 (by unfold opp; omega))
  · refine WS.run (C := []) (pc' := 5) (L' := [vI x, vI y]) (S' := [vI y]) (σ' := σ) 1 rfl trivial ?_
    refine WS.br (P := 0 < y) (a := 16) (b := 8) (S' := []) rfl (fun c4 => ?_) (fun c4 => ?_)
    · refine WS.run (C := []) (pc' := 21) (L' := [vI x, vI y]) (S' := [vI (1 : Int32)]) (σ' := σ) 2 rfl trivial ?_
      exact WS.ret rfl rfl (by decide) rfl (by simp only [t_lt, t_le, t_0] at *; exact h1 (by unfold opp; omega))
    · refine WS.run (C := []) (pc' := 9) (L' := [vI x, vI y]) (S' := [vI x]) (σ' := σ) 1 rfl trivial ?_
      refine WS.br (P := x ≤ 0) (a := 20) (b := 12) (S' := []) rfl (fun c5 => ?_) (fun c5 => ?_)
      · refine WS.run (C := []) (pc' := 21) (L' := [vI x, vI y]) (S' := [vI (0 : Int32)]) (σ' := σ) 1 rfl trivial ?_
        exact WS.ret rfl rfl (by decide) rfl (by simp only [t_lt, t_le, t_0] at *; exact h0 (by unfold opp; omega))
      · refine WS.run (C := []) (pc' := 13) (L' := [vI x, vI y]) (S' := [vI y]) (σ' := σ) 1 rfl trivial ?_
        refine WS.br (P := 0 ≤ y) (a := 20) (b := 16) (S' := []) rfl (fun c6 => ?_) (fun c6 => ?_)
        · refine WS.run (C := []) (pc' := 21) (L' := [vI x, vI y]) (S' := [vI (0 : Int32)]) (σ' := σ) 1 rfl trivial ?_
          exact WS.ret rfl rfl (by decide) rfl (by simp only [t_lt, t_le, t_0] at *; exact h0 (by unfold opp; omega))
        · refine WS.run (C := []) (pc' := 21) (L' := [vI x, vI y]) (S' := [vI (1 : Int32)]) (σ' := σ) 2 rfl trivial ?_
          exact WS.ret rfl rfl (by decide) rfl (by simp only [t_lt, t_le, t_0] at *; exact h1 (by unfold opp; omega))
set_option maxRecDepth 4000 in
set_option maxHeartbeats 400000 in
theorem c_sharesEnd {d : Nat} {σ : Mem} {Post : Option AV → Mem → Prop} {k k2 : Nat} (hk : (k = 11 ∧ k2 = 12) ∨ (k = 12 ∧ k2 = 11)) (h1 : shareZ (lnC σ k) (lnC σ k2) → Post (some (vI 1)) σ) (h0 : ¬ shareZ (lnC σ k) (lnC σ k2) → Post (some (vI 0)) σ) : MM (d + 1) M_Line_sharesEnd [vR k 0, vR k2 0] σ Post := by
  rcases hk with ⟨rfl, rfl⟩ | ⟨rfl, rfl⟩
  · refine MM.of ok_Line_sharesEnd rfl ?_
    show WS _ M_Line_sharesEnd 0 [vR 11 0, vR 12 0] [] σ _
    refine WS.run (C := []) (pc' := 9) (L' := [vR 11 0, vR 12 0]) (S' := [vI (gI σ 12 0 1), vI (gI σ 12 0 0), vR 11 0]) (σ' := σ) 5 rfl trivial ?_
    refine WS.callV M_Line_hasEnd (k := 11) (i := 0) (as := [vI (gI σ 12 0 0), vI (gI σ 12 0 1)]) (rest := []) rfl lk_3_39 rfl rfl rfl (Nat.le_of_ble_eq_true rfl) ?_
    refine c_hasEnd (Or.inl rfl) (fun q1 => ?_) (fun q1 => ?_)
    · show WS _ M_Line_sharesEnd 12 [vR 11 0, vR 12 0] [vI (1 : Int32)] σ _
      refine WS.br (P := (1 : Int32) = 0) (a := 15) (b := 30) (S' := []) rfl (fun cc => absurd cc (by decide)) (fun _ => ?_)
      refine WS.run (C := []) (pc' := 35) (L' := [vR 11 0, vR 12 0]) (S' := [vI (1 : Int32)]) (σ' := σ) 2 rfl trivial ?_
      exact WS.ret rfl rfl (by decide) rfl (h1 (Or.inl q1))
    · show WS _ M_Line_sharesEnd 12 [vR 11 0, vR 12 0] [vI (0 : Int32)] σ _
      refine WS.br (P := (0 : Int32) = 0) (a := 15) (b := 30) (S' := []) rfl (fun _ => ?_) (fun cc => absurd (by decide) cc)
      refine WS.run (C := []) (pc' := 24) (L' := [vR 11 0, vR 12 0]) (S' := [vI (gI σ 12 0 3), vI (gI σ 12 0 2), vR 11 0]) (σ' := σ) 5 rfl trivial ?_
      refine WS.callV M_Line_hasEnd (k := 11) (i := 0) (as := [vI (gI σ 12 0 2), vI (gI σ 12 0 3)]) (rest := []) rfl lk_3_39 rfl rfl rfl (Nat.le_of_ble_eq_true rfl) ?_
      refine c_hasEnd (Or.inl rfl) (fun q2 => ?_) (fun q2 => ?_)
      · show WS _ M_Line_sharesEnd 27 [vR 11 0, vR 12 0] [vI (1 : Int32)] σ _
        refine WS.br (P := (1 : Int32) = 0) (a := 34) (b := 30) (S' := []) rfl (fun cc => absurd cc (by decide)) (fun _ => ?_)
        refine WS.run (C := []) (pc' := 35) (L' := [vR 11 0, vR 12 0]) (S' := [vI (1 : Int32)]) (σ' := σ) 2 rfl trivial ?_
        exact WS.ret rfl rfl (by decide) rfl (h1 (Or.inr q2))
      · show WS _ M_Line_sharesEnd 27 [vR 11 0, vR 12 0] [vI (0 : Int32)] σ _
        refine WS.br (P := (0 : Int32) = 0) (a := 34) (b := 30) (S' := []) rfl (fun _ => ?_) (fun cc => absurd (by decide) cc)
        refine WS.run (C := []) (pc' := 35) (L' := [vR 11 0, vR 12 0]) (S' := [vI (0 : Int32)]) (σ' := σ) 1 rfl trivial ?_
        exact WS.ret rfl rfl (by decide) rfl (h0 (fun z => z.elim q1 q2))
  · refine MM.of ok_Line_sharesEnd rfl ?_
    show WS _ M_Line_sharesEnd 0 [vR 12 0, vR 11 0] [] σ _
    refine WS.run (C := []) (pc' := 9) (L' := [vR 12 0, vR 11 0]) (S' := [vI (gI σ 11 0 1), vI (gI σ 11 0 0), vR 12 0]) (σ' := σ) 5 rfl trivial ?_
    refine WS.callV M_Line_hasEnd (k := 12) (i := 0) (as := [vI (gI σ 11 0 0), vI (gI σ 11 0 1)]) (rest := []) rfl lk_3_39 rfl rfl rfl (Nat.le_of_ble_eq_true rfl) ?_
    refine c_hasEnd (Or.inr (Or.inl rfl)) (fun q1 => ?_) (fun q1 => ?_)
    · show WS _ M_Line_sharesEnd 12 [vR 12 0, vR 11 0] [vI (1 : Int32)] σ _
      refine WS.br (P := (1 : Int32) = 0) (a := 15) (b := 30) (S' := []) rfl (fun cc => absurd cc (by decide)) (fun _ => ?_)
      refine WS.run (C := []) (pc' := 35) (L' := [vR 12 0, vR 11 0]) (S' := [vI (1 : Int32)]) (σ' := σ) 2 rfl trivial ?_
      exact WS.ret rfl rfl (by decide) rfl (h1 (Or.inl q1))
    · show WS _ M_Line_sharesEnd 12 [vR 12 0, vR 11 0] [vI (0 : Int32)] σ _
      refine WS.br (P := (0 : Int32) = 0) (a := 15) (b := 30) (S' := []) rfl (fun _ => ?_) (fun cc => absurd (by decide) cc)
      refine WS.run (C := []) (pc' := 24) (L' := [vR 12 0, vR 11 0]) (S' := [vI (gI σ 11 0 3), vI (gI σ 11 0 2), vR 12 0]) (σ' := σ) 5 rfl trivial ?_
      refine WS.callV M_Line_hasEnd (k := 12) (i := 0) (as := [vI (gI σ 11 0 2), vI (gI σ 11 0 3)]) (rest := []) rfl lk_3_39 rfl rfl rfl (Nat.le_of_ble_eq_true rfl) ?_
      refine c_hasEnd (Or.inr (Or.inl rfl)) (fun q2 => ?_) (fun q2 => ?_)
      · show WS _ M_Line_sharesEnd 27 [vR 12 0, vR 11 0] [vI (1 : Int32)] σ _
        refine WS.br (P := (1 : Int32) = 0) (a := 34) (b := 30) (S' := []) rfl (fun cc => absurd cc (by decide)) (fun _ => ?_)
        refine WS.run (C := []) (pc' := 35) (L' := [vR 12 0, vR 11 0]) (S' := [vI (1 : Int32)]) (σ' := σ) 2 rfl trivial ?_
        exact WS.ret rfl rfl (by decide) rfl (h1 (Or.inr q2))
      · show WS _ M_Line_sharesEnd 27 [vR 12 0, vR 11 0] [vI (0 : Int32)] σ _
        refine WS.br (P := (0 : Int32) = 0) (a := 34) (b := 30) (S' := []) rfl (fun _ => ?_) (fun cc => absurd (by decide) cc)
        refine WS.run (C := []) (pc' := 35) (L' := [vR 12 0, vR 11 0]) (S' := [vI (0 : Int32)]) (σ' := σ) 1 rfl trivial ?_
        exact WS.ret rfl rfl (by decide) rfl (h0 (fun z => z.elim q1 q2))
set_option maxRecDepth 4000 in
set_option maxHeartbeats 400000 in
theorem c_cuts {d : Nat} {σ : Mem} {Post : Option AV → Mem → Prop} {k k2 : Nat} (hk : (k = 11 ∧ k2 = 12) ∨ (k = 12 ∧ k2 = 11)) (hb : lnB (lnC σ k)) (hb2 : lnB (lnC σ k2)) (h1 : cutZ (lnC σ k) (lnC σ k2) → Post (some (vI 1)) σ) (h0 : ¬ cutZ (lnC σ k) (lnC σ k2) → Post (some (vI 0)) σ) : MM (d + 1) M_Line_cuts [vR k 0, vR k2 0] σ Post := by
  rcases hk with ⟨rfl, rfl⟩ | ⟨rfl, rfl⟩
  · have hb11 := hb
    have hb12 := hb2
    refine MM.of ok_Line_cuts rfl ?_
    show WS _ M_Line_cuts 0 [vR 11 0, vR 12 0] [] σ _
    refine WS.run (C := []) (pc' := 9) (L' := [vR 11 0, vR 12 0]) (S' := [vI (gI σ 12 0 1), vI (gI σ 12 0 0), vR 11 0]) (σ' := σ) 5 rfl trivial ?_
    refine WS.callV M_Line_side (k := 11) (i := 0) (as := [vI (gI σ 12 0 0), vI (gI σ 12 0 1)]) (rest := []) rfl lk_3_36 rfl rfl rfl (Nat.le_of_ble_eq_true rfl) ?_
    refine c_side (Or.inl rfl) hb11 hb12.1 hb12.2.1 (fun r1 e1 => ?_)
    show WS _ M_Line_cuts 12 [vR 11 0, vR 12 0] [vI r1] σ _
    refine WS.run (C := []) (pc' := 21) (L' := [vR 11 0, vR 12 0]) (S' := [vI (gI σ 12 0 3), vI (gI σ 12 0 2), vR 11 0, vI r1]) (σ' := σ) 5 rfl trivial ?_
    refine WS.callV M_Line_side (k := 11) (i := 0) (as := [vI (gI σ 12 0 2), vI (gI σ 12 0 3)]) (rest := [vI r1]) rfl lk_3_36 rfl rfl rfl (Nat.le_of_ble_eq_true rfl) ?_
    refine c_side (Or.inl rfl) hb11 hb12.2.2.1 hb12.2.2.2 (fun r2 e2 => ?_)
    show WS _ M_Line_cuts 24 [vR 11 0, vR 12 0] [vI r2, vI r1] σ _
    refine WS.callS M_Line_areOpposite (as := [vI r1, vI r2]) (rest := []) rfl lk_3_43 rfl rfl (Nat.le_of_ble_eq_true rfl) ?_
    refine c_areOpposite  (fun q3 => ?_) (fun q3 => ?_)
    · show WS _ M_Line_cuts 27 [vR 11 0, vR 12 0] [vI (1 : Int32)] σ _
      refine WS.br (P := (1 : Int32) = 0) (a := 64) (b := 30) (S' := []) rfl (fun cc => absurd cc (by decide)) (fun _ => ?_)
      refine WS.run (C := []) (pc' := 39) (L' := [vR 11 0, vR 12 0]) (S' := [vI (gI σ 11 0 1), vI (gI σ 11 0 0), vR 12 0]) (σ' := σ) 5 rfl trivial ?_
      refine WS.callV M_Line_side (k := 12) (i := 0) (as := [vI (gI σ 11 0 0), vI (gI σ 11 0 1)]) (rest := []) rfl lk_3_36 rfl rfl rfl (Nat.le_of_ble_eq_true rfl) ?_
      refine c_side (Or.inr (Or.inl rfl)) hb12 hb11.1 hb11.2.1 (fun r4 e4 => ?_)
      show WS _ M_Line_cuts 42 [vR 11 0, vR 12 0] [vI r4] σ _
      refine WS.run (C := []) (pc' := 51) (L' := [vR 11 0, vR 12 0]) (S' := [vI (gI σ 11 0 3), vI (gI σ 11 0 2), vR 12 0, vI r4]) (σ' := σ) 5 rfl trivial ?_
      refine WS.callV M_Line_side (k := 12) (i := 0) (as := [vI (gI σ 11 0 2), vI (gI σ 11 0 3)]) (rest := [vI r4]) rfl lk_3_36 rfl rfl rfl (Nat.le_of_ble_eq_true rfl) ?_
      refine c_side (Or.inr (Or.inl rfl)) hb12 hb11.2.2.1 hb11.2.2.2 (fun r5 e5 => ?_)
      show WS _ M_Line_cuts 54 [vR 11 0, vR 12 0] [vI r5, vI r4] σ _
      refine WS.callS M_Line_areOpposite (as := [vI r4, vI r5]) (rest := []) rfl lk_3_43 rfl rfl (Nat.le_of_ble_eq_true rfl) ?_
      refine c_areOpposite  (fun q6 => ?_) (fun q6 => ?_)
      · show WS _ M_Line_cuts 57 [vR 11 0, vR 12 0] [vI (1 : Int32)] σ _
        refine WS.br (P := (1 : Int32) = 0) (a := 64) (b := 60) (S' := []) rfl (fun cc => absurd cc (by decide)) (fun _ => ?_)
        refine WS.run (C := []) (pc' := 65) (L' := [vR 11 0, vR 12 0]) (S' := [vI (1 : Int32)]) (σ' := σ) 2 rfl trivial ?_
        exact WS.ret rfl rfl (by decide) rfl (h1 ⟨by rw [e1, e2] at q3; exact q3, by rw [e4, e5] at q6; exact q6⟩)
      · show WS _ M_Line_cuts 57 [vR 11 0, vR 12 0] [vI (0 : Int32)] σ _
        refine WS.br (P := (0 : Int32) = 0) (a := 64) (b := 60) (S' := []) rfl (fun _ => ?_) (fun cc => absurd (by decide) cc)
        refine WS.run (C := []) (pc' := 65) (L' := [vR 11 0, vR 12 0]) (S' := [vI (0 : Int32)]) (σ' := σ) 1 rfl trivial ?_
        exact WS.ret rfl rfl (by decide) rfl (h0 (fun z => by rw [e4, e5] at q6; exact q6 z.2))
    · show WS _ M_Line_cuts 27 [vR 11 0, vR 12 0] [vI (0 : Int32)] σ _
      refine WS.br (P := (0 : Int32) = 0) (a := 64) (b := 30) (S' := []) rfl (fun _ => ?_) (fun cc => absurd (by decide) cc)
      refine WS.run (C := []) (pc' := 65) (L' := [vR 11 0, vR 12 0]) (S' := [vI (0 : Int32)]) (σ' := σ) 1 rfl trivial ?_
      exact WS.ret rfl rfl (by decide) rfl (h0 (fun z => by rw [e1, e2] at q3; exact q3 z.1))
  · have hb12 := hb
    have hb11 := hb2
    refine MM.of ok_Line_cuts rfl ?_
    show WS _ M_Line_cuts 0 [vR 12 0, vR 11 0] [] σ _
    refine WS.run (C := []) (pc' := 9) (L' := [vR 12 0, vR 11 0]) (S' := [vI (gI σ 11 0 1), vI (gI σ 11 0 0), vR 12 0]) (σ' := σ) 5 rfl trivial ?_
    refine WS.callV M_Line_side (k := 12) (i := 0) (as := [vI (gI σ 11 0 0), vI (gI σ 11 0 1)]) (rest := []) rfl lk_3_36 rfl rfl rfl (Nat.le_of_ble_eq_true rfl) ?_
    refine c_side (Or.inr (Or.inl rfl)) hb12 hb11.1 hb11.2.1 (fun r1 e1 => ?_)
    show WS _ M_Line_cuts 12 [vR 12 0, vR 11 0] [vI r1] σ _
    refine WS.run (C := []) (pc' := 21) (L' := [vR 12 0, vR 11 0]) (S' := [vI (gI σ 11 0 3), vI (gI σ 11 0 2), vR 12 0, vI r1]) (σ' := σ) 5 rfl trivial ?_
    refine WS.callV M_Line_side (k := 12) (i := 0) (as := [vI (gI σ 11 0 2), vI (gI σ 11 0 3)]) (rest := [vI r1]) rfl lk_3_36 rfl rfl rfl (Nat.le_of_ble_eq_true rfl) ?_
    refine c_side (Or.inr (Or.inl rfl)) hb12 hb11.2.2.1 hb11.2.2.2 (fun r2 e2 => ?_)
    show WS _ M_Line_cuts 24 [vR 12 0, vR 11 0] [vI r2, vI r1] σ _
    refine WS.callS M_Line_areOpposite (as := [vI r1, vI r2]) (rest := []) rfl lk_3_43 rfl rfl (Nat.le_of_ble_eq_true rfl) ?_
    refine c_areOpposite  (fun q3 => ?_) (fun q3 => ?_)
    · show WS _ M_Line_cuts 27 [vR 12 0, vR 11 0] [vI (1 : Int32)] σ _
      refine WS.br (P := (1 : Int32) = 0) (a := 64) (b := 30) (S' := []) rfl (fun cc => absurd cc (by decide)) (fun _ => ?_)
      refine WS.run (C := []) (pc' := 39) (L' := [vR 12 0, vR 11 0]) (S' := [vI (gI σ 12 0 1), vI (gI σ 12 0 0), vR 11 0]) (σ' := σ) 5 rfl trivial ?_
      refine WS.callV M_Line_side (k := 11) (i := 0) (as := [vI (gI σ 12 0 0), vI (gI σ 12 0 1)]) (rest := []) rfl lk_3_36 rfl rfl rfl (Nat.le_of_ble_eq_true rfl) ?_
      refine c_side (Or.inl rfl) hb11 hb12.1 hb12.2.1 (fun r4 e4 => ?_)
      show WS _ M_Line_cuts 42 [vR 12 0, vR 11 0] [vI r4] σ _
      refine WS.run (C := []) (pc' := 51) (L' := [vR 12 0, vR 11 0]) (S' := [vI (gI σ 12 0 3), vI (gI σ 12 0 2), vR 11 0, vI r4]) (σ' := σ) 5 rfl trivial ?_
      refine WS.callV M_Line_side (k := 11) (i := 0) (as := [vI (gI σ 12 0 2), vI (gI σ 12 0 3)]) (rest := [vI r4]) rfl lk_3_36 rfl rfl rfl (Nat.le_of_ble_eq_true rfl) ?_
      refine c_side (Or.inl rfl) hb11 hb12.2.2.1 hb12.2.2.2 (fun r5 e5 => ?_)
      show WS _ M_Line_cuts 54 [vR 12 0, vR 11 0] [vI r5, vI r4] σ _
      refine WS.callS M_Line_areOpposite (as := [vI r4, vI r5]) (rest := []) rfl lk_3_43 rfl rfl (Nat.le_of_ble_eq_true rfl) ?_
      refine c_areOpposite  (fun q6 => ?_) (fun q6 => ?_)
      · show WS _ M_Line_cuts 57 [vR 12 0, vR 11 0] [vI (1 : Int32)] σ _
        refine WS.br (P := (1 : Int32) = 0) (a := 64) (b := 60) (S' := []) rfl (fun cc => absurd cc (by decide)) (fun _ => ?_)
        refine WS.run (C := []) (pc' := 65) (L' := [vR 12 0, vR 11 0]) (S' := [vI (1 : Int32)]) (σ' := σ) 2 rfl trivial ?_
        exact WS.ret rfl rfl (by decide) rfl (h1 ⟨by rw [e1, e2] at q3; exact q3, by rw [e4, e5] at q6; exact q6⟩)
      · show WS _ M_Line_cuts 57 [vR 12 0, vR 11 0] [vI (0 : Int32)] σ _
        refine WS.br (P := (0 : Int32) = 0) (a := 64) (b := 60) (S' := []) rfl (fun _ => ?_) (fun cc => absurd (by decide) cc)
        refine WS.run (C := []) (pc' := 65) (L' := [vR 12 0, vR 11 0]) (S' := [vI (0 : Int32)]) (σ' := σ) 1 rfl trivial ?_
        exact WS.ret rfl rfl (by decide) rfl (h0 (fun z => by rw [e4, e5] at q6; exact q6 z.2))
    · show WS _ M_Line_cuts 27 [vR 12 0, vR 11 0] [vI (0 : Int32)] σ _
      refine WS.br (P := (0 : Int32) = 0) (a := 64) (b := 30) (S' := []) rfl (fun _ => ?_) (fun cc => absurd (by decide) cc)
      refine WS.run (C := []) (pc' := 65) (L' := [vR 12 0, vR 11 0]) (S' := [vI (0 : Int32)]) (σ' := σ) 1 rfl trivial ?_
      exact WS.ret rfl rfl (by decide) rfl (h0 (fun z => by rw [e1, e2] at q3; exact q3 z.1))
theorem sq64 {t : Int32} (ht : 0 ≤ t.toInt ∧ t.toInt ≤ 100) : (t.toInt64 * t.toInt64).toInt = t.toInt * t.toInt ∧ 0 ≤ t.toInt * t.toInt ∧ t.toInt * t.toInt ≤ 10000 := by
  have h := mul_bd (a := t.toInt) (b := t.toInt) (A := 100) (B := 100) (by omega) (by omega) (by omega) (by omega) (by omega) (by omega)
  have h2 := sq_nn t.toInt
  refine ⟨?_, h2, by omega⟩
  rw [j_mul, j_of] <;> rw [j_of] <;> omega
theorem cm_1 {l : Ln} {x y : Int} {r1 r9 t : Int32} (ht : 0 ≤ t.toInt ∧ t.toInt ≤ 100) (e1 : r1.toInt = alL l x y) (c : ¬ 0 < r1) (e9 : r9.toInt = dd x y l.1 l.2.1) : r9.toInt64.toInt - (t.toInt64 * t.toInt64).toInt = cmL l x y t.toInt := by
  rw [t_lt, t_0, e1] at c
  unfold cmL cmS
  rw [if_pos (by unfold alL at c; omega), j_of, (sq64 ht).1, e9]
theorem cm_2 {l : Ln} {x y : Int} {r1 r2 r7 t : Int32} (ht : 0 ≤ t.toInt ∧ t.toInt ≤ 100) (e1 : r1.toInt = alL l x y) (e2 : r2.toInt = alL l l.2.2.1 l.2.2.2) (c : 0 < r1) (c2 : ¬ r1 < r2) (e7 : r7.toInt = dd x y l.2.2.1 l.2.2.2) : r7.toInt64.toInt - (t.toInt64 * t.toInt64).toInt = cmL l x y t.toInt := by
  rw [t_lt, t_0, e1] at c
  rw [t_lt, e1, e2] at c2
  unfold alL at c c2
  unfold cmL cmS
  rw [if_neg (by omega), if_pos (by omega), j_of, (sq64 ht).1, e7]
theorem cm_3 {l : Ln} {x y : Int} {r1 r2 r5 t : Int32} (hb : lnB l) (hx : co x) (hy : co y) (ht : 0 ≤ t.toInt ∧ t.toInt ≤ 100) (e1 : r1.toInt = alL l x y) (e2 : r2.toInt = alL l l.2.2.1 l.2.2.2) (c : 0 < r1) (c2 : r1 < r2) (e5 : r5.toInt = sdL l x y) : (r5.toInt64 * r5.toInt64).toInt - ((t.toInt64 * t.toInt64) * r2.toInt64).toInt = cmL l x y t.toInt := by
  rw [t_lt, t_0, e1] at c
  rw [t_lt, e1, e2] at c2
  have b1 := sd_bd hb.1 hb.2.1 hb.2.2.1 hb.2.2.2 hx hy
  have b2 := al_bd hb.1 hb.2.1 hb.2.2.1 hb.2.2.2 hb.2.2.1 hb.2.2.2
  have q := sq64 ht
  have m1 := mul_bd (a := r5.toInt) (b := r5.toInt) (A := 320000) (B := 320000) (by rw [e5]; exact b1.1) (by rw [e5]; exact b1.2) (by rw [e5]; exact b1.1) (by rw [e5]; exact b1.2) (by omega) (by omega)
  have m2 := mul_bd (a := t.toInt * t.toInt) (b := r2.toInt) (A := 10000) (B := 320000) (by omega) (by omega) (by rw [e2]; exact b2.1) (by rw [e2]; exact b2.2) (by omega) (by omega)
  have k1 : (r5.toInt64 * r5.toInt64).toInt = r5.toInt * r5.toInt := by rw [j_mul, j_of] <;> rw [j_of] <;> omega
  have k2 : ((t.toInt64 * t.toInt64) * r2.toInt64).toInt = t.toInt * t.toInt * r2.toInt := by rw [j_mul, q.1, j_of] <;> rw [q.1, j_of] <;> omega
  unfold alL at c c2
  unfold cmL cmS
  rw [if_neg (by omega), if_neg (by omega), k1, k2, e5, e2]
  rfl
theorem t_max (x y : Int32) : (if x < y then y else x).toInt = max x.toInt y.toInt := by
  by_cases h : x < y
  · rw [if_pos h]; rw [t_lt] at h; omega
  · rw [if_neg h]; rw [t_lt] at h; omega
theorem t_min (x y : Int32) : (if y < x then y else x).toInt = min x.toInt y.toInt := by
  by_cases h : y < x
  · rw [if_pos h]; rw [t_lt] at h; omega
  · rw [if_neg h]; rw [t_lt] at h; omega
theorem WS.mmaxT {d : Nat} {M : MI} {pc idx : Nat} {L rest : List AV} {σ : Mem} {Post : Option AV → Mem → Prop} {x y : Int32} (hf : fet M.tab pc = some (.invokestatic idx, 3)) (hlk : Cond.methodLink (cn M.own) idx Lib.Math.max.name ∈ TT) (hw : (rest.map avc).sum ≤ 8) (hk : ∀ r : Int32, r.toInt = max x.toInt y.toInt → WS (d + 1) M (pc + 3) L (vI r :: rest) σ Post) : WS (d + 1) M pc L (vI y :: vI x :: rest) σ Post := WS.mmax hf hlk hw (hk _ (t_max x y))
theorem WS.mminT {d : Nat} {M : MI} {pc idx : Nat} {L rest : List AV} {σ : Mem} {Post : Option AV → Mem → Prop} {x y : Int32} (hf : fet M.tab pc = some (.invokestatic idx, 3)) (hlk : Cond.methodLink (cn M.own) idx Lib.Math.min.name ∈ TT) (hw : (rest.map avc).sum ≤ 8) (hk : ∀ r : Int32, r.toInt = min x.toInt y.toInt → WS (d + 1) M (pc + 3) L (vI r :: rest) σ Post) : WS (d + 1) M pc L (vI y :: vI x :: rest) σ Post := WS.mmin hf hlk hw (hk _ (t_min x y))
theorem sg_p {r : Int32} {z : Int} (e : r.toInt = z.sign) (c : r < 0) : z < 0 := sgn_lt.mp (by rw [t_lt, t_0] at c; omega)
theorem sg_n {r : Int32} {z : Int} (e : r.toInt = z.sign) (c : ¬ r < 0) : ¬ z < 0 := fun q => c (by rw [t_lt, t_0]; have := sgn_lt.mpr q; omega)
theorem sg_p2 {r : Int32} {z : Int} (e : r.toInt = z.sign) (c : ¬ 0 ≤ r) : z < 0 := sg_p e (by rw [t_lt, t_0]; rw [t_le, t_0] at c; omega)
theorem sg_n2 {r : Int32} {z : Int} (e : r.toInt = z.sign) (c : 0 ≤ r) : ¬ z < 0 := sg_n e (by rw [t_lt, t_0]; rw [t_le, t_0] at c; omega)
set_option maxRecDepth 4000 in
set_option maxHeartbeats 400000 in
theorem c_compareMiss {d : Nat} {σ : Mem} {Post : Option AV → Mem → Prop} {t : Int32} {x y : Int32} (hx : co x.toInt) (hy : co y.toInt) {k : Nat} (hk : isLn k) (hb : lnB (lnC σ k)) (ht : 0 ≤ t.toInt ∧ t.toInt ≤ 100) (h : ∀ r : Int32, r.toInt = (cmL (lnC σ k) x.toInt y.toInt t.toInt).sign → Post (some (vI r)) σ) : MM (d + 1) M_Line_compareMiss [vR k 0, vI x, vI y, vI t] σ Post := by
  rcases hk with rfl | rfl | rfl
  · have hb11 := hb
    refine MM.of ok_Line_compareMiss rfl ?_
    show WS _ M_Line_compareMiss 0 [vR 11 0, vI x, vI y, vI t, vU, vU, vU, vU, vU, vU] [] σ _
    refine WS.run (C := []) (pc' := 10) (L' := [vR 11 0, vI x, vI y, vI t, vJ (t.toInt64 * t.toInt64), vU, vU, vU, vU, vU]) (S' := [vI y, vI x, vR 11 0]) (σ' := σ) 9 rfl trivial ?_
    refine WS.callV M_Line_along (k := 11) (i := 0) (as := [vI x, vI y]) (rest := []) rfl lk_3_22 rfl rfl rfl (Nat.le_of_ble_eq_true rfl) ?_
    refine c_along (Or.inl rfl) hb11 hx hy (fun r1 e1 => ?_)
    show WS _ M_Line_compareMiss 13 [vR 11 0, vI x, vI y, vI t, vJ (t.toInt64 * t.toInt64), vU, vU, vU, vU, vU] [vI r1] σ _
    refine WS.run (C := []) (pc' := 24) (L' := [vR 11 0, vI x, vI y, vI t, vJ (t.toInt64 * t.toInt64), vU, vI r1, vU, vU, vU]) (S' := [vI (gI σ 11 0 3), vI (gI σ 11 0 2), vR 11 0]) (σ' := σ) 6 rfl trivial ?_
    refine WS.callV M_Line_along (k := 11) (i := 0) (as := [vI (gI σ 11 0 2), vI (gI σ 11 0 3)]) (rest := []) rfl lk_3_22 rfl rfl rfl (Nat.le_of_ble_eq_true rfl) ?_
    refine c_along (Or.inl rfl) hb11 hb11.2.2.1 hb11.2.2.2 (fun r2 e2 => ?_)
    show WS _ M_Line_compareMiss 27 [vR 11 0, vI x, vI y, vI t, vJ (t.toInt64 * t.toInt64), vU, vI r1, vU, vU, vU] [vI r2] σ _
    refine WS.run (C := []) (pc' := 31) (L' := [vR 11 0, vI x, vI y, vI t, vJ (t.toInt64 * t.toInt64), vU, vI r1, vI r2, vU, vU]) (S' := [vI r1]) (σ' := σ) 2 rfl trivial ?_
    refine WS.br (P := 0 < r1) (a := 54) (b := 34) (S' := []) rfl (fun c3 => ?_) (fun c3 => ?_)
    · refine WS.run (C := []) (pc' := 58) (L' := [vR 11 0, vI x, vI y, vI t, vJ (t.toInt64 * t.toInt64), vU, vI r1, vI r2, vU, vU]) (S' := [vI r2, vI r1]) (σ' := σ) 2 rfl trivial ?_
      refine WS.br (P := r1 < r2) (a := 81) (b := 61) (S' := []) rfl (fun c4 => ?_) (fun c4 => ?_)
      · refine WS.run (C := []) (pc' := 84) (L' := [vR 11 0, vI x, vI y, vI t, vJ (t.toInt64 * t.toInt64), vU, vI r1, vI r2, vU, vU]) (S' := [vI y, vI x, vR 11 0]) (σ' := σ) 3 rfl trivial ?_
        refine WS.callV M_Line_side (k := 11) (i := 0) (as := [vI x, vI y]) (rest := []) rfl lk_3_36 rfl rfl rfl (Nat.le_of_ble_eq_true rfl) ?_
        refine c_side (Or.inl rfl) hb11 hx hy (fun r5 e5 => ?_)
        show WS _ M_Line_compareMiss 87 [vR 11 0, vI x, vI y, vI t, vJ (t.toInt64 * t.toInt64), vU, vI r1, vI r2, vU, vU] [vI r5] σ _
        refine WS.run (C := []) (pc' := 101) (L' := [vR 11 0, vI x, vI y, vI t, vJ (t.toInt64 * t.toInt64), vU, vI r1, vI r2, vJ r5.toInt64, vU]) (S' := [vJ ((t.toInt64 * t.toInt64) * r2.toInt64), vJ (r5.toInt64 * r5.toInt64)]) (σ' := σ) 9 rfl trivial ?_
        refine WS.callS M_JLong_compare (as := [vJ (r5.toInt64 * r5.toInt64), vJ ((t.toInt64 * t.toInt64) * r2.toInt64)]) (rest := []) rfl lk_3_30 rfl rfl (Nat.le_of_ble_eq_true rfl) ?_
        refine c_Jcompare  (fun r6 e6 => ?_)
        show WS _ M_Line_compareMiss 104 [vR 11 0, vI x, vI y, vI t, vJ (t.toInt64 * t.toInt64), vU, vI r1, vI r2, vJ r5.toInt64, vU] [vI r6] σ _
        exact WS.ret rfl rfl (by decide) rfl (h _ (by rw [e6, cm_3 hb hx hy ht e1 e2 c3 c4 e5]))
      · refine WS.run (C := []) (pc' := 71) (L' := [vR 11 0, vI x, vI y, vI t, vJ (t.toInt64 * t.toInt64), vU, vI r1, vI r2, vU, vU]) (S' := [vI (gI σ 11 0 3), vI (gI σ 11 0 2), vI y, vI x]) (σ' := σ) 6 rfl trivial ?_
        refine WS.callS M_Line_squareBetween (as := [vI x, vI y, vI (gI σ 11 0 2), vI (gI σ 11 0 3)]) (rest := []) rfl lk_3_26 rfl rfl (Nat.le_of_ble_eq_true rfl) ?_
        refine c_squareBetween hx hy hb11.2.2.1 hb11.2.2.2 (fun r7 e7 => ?_)
        show WS _ M_Line_compareMiss 74 [vR 11 0, vI x, vI y, vI t, vJ (t.toInt64 * t.toInt64), vU, vI r1, vI r2, vU, vU] [vI r7] σ _
        refine WS.run (C := []) (pc' := 77) (L' := [vR 11 0, vI x, vI y, vI t, vJ (t.toInt64 * t.toInt64), vU, vI r1, vI r2, vU, vU]) (S' := [vJ (t.toInt64 * t.toInt64), vJ r7.toInt64]) (σ' := σ) 2 rfl trivial ?_
        refine WS.callS M_JLong_compare (as := [vJ r7.toInt64, vJ (t.toInt64 * t.toInt64)]) (rest := []) rfl lk_3_30 rfl rfl (Nat.le_of_ble_eq_true rfl) ?_
        refine c_Jcompare  (fun r8 e8 => ?_)
        show WS _ M_Line_compareMiss 80 [vR 11 0, vI x, vI y, vI t, vJ (t.toInt64 * t.toInt64), vU, vI r1, vI r2, vU, vU] [vI r8] σ _
        exact WS.ret rfl rfl (by decide) rfl (h _ (by rw [e8, cm_2 ht e1 e2 c3 c4 e7]))
    · refine WS.run (C := []) (pc' := 44) (L' := [vR 11 0, vI x, vI y, vI t, vJ (t.toInt64 * t.toInt64), vU, vI r1, vI r2, vU, vU]) (S' := [vI (gI σ 11 0 1), vI (gI σ 11 0 0), vI y, vI x]) (σ' := σ) 6 rfl trivial ?_
      refine WS.callS M_Line_squareBetween (as := [vI x, vI y, vI (gI σ 11 0 0), vI (gI σ 11 0 1)]) (rest := []) rfl lk_3_26 rfl rfl (Nat.le_of_ble_eq_true rfl) ?_
      refine c_squareBetween hx hy hb11.1 hb11.2.1 (fun r9 e9 => ?_)
      show WS _ M_Line_compareMiss 47 [vR 11 0, vI x, vI y, vI t, vJ (t.toInt64 * t.toInt64), vU, vI r1, vI r2, vU, vU] [vI r9] σ _
      refine WS.run (C := []) (pc' := 50) (L' := [vR 11 0, vI x, vI y, vI t, vJ (t.toInt64 * t.toInt64), vU, vI r1, vI r2, vU, vU]) (S' := [vJ (t.toInt64 * t.toInt64), vJ r9.toInt64]) (σ' := σ) 2 rfl trivial ?_
      refine WS.callS M_JLong_compare (as := [vJ r9.toInt64, vJ (t.toInt64 * t.toInt64)]) (rest := []) rfl lk_3_30 rfl rfl (Nat.le_of_ble_eq_true rfl) ?_
      refine c_Jcompare  (fun r10 e10 => ?_)
      show WS _ M_Line_compareMiss 53 [vR 11 0, vI x, vI y, vI t, vJ (t.toInt64 * t.toInt64), vU, vI r1, vI r2, vU, vU] [vI r10] σ _
      exact WS.ret rfl rfl (by decide) rfl (h _ (by rw [e10, cm_1 ht e1 c3 e9]))
  · have hb12 := hb
    refine MM.of ok_Line_compareMiss rfl ?_
    show WS _ M_Line_compareMiss 0 [vR 12 0, vI x, vI y, vI t, vU, vU, vU, vU, vU, vU] [] σ _
    refine WS.run (C := []) (pc' := 10) (L' := [vR 12 0, vI x, vI y, vI t, vJ (t.toInt64 * t.toInt64), vU, vU, vU, vU, vU]) (S' := [vI y, vI x, vR 12 0]) (σ' := σ) 9 rfl trivial ?_
    refine WS.callV M_Line_along (k := 12) (i := 0) (as := [vI x, vI y]) (rest := []) rfl lk_3_22 rfl rfl rfl (Nat.le_of_ble_eq_true rfl) ?_
    refine c_along (Or.inr (Or.inl rfl)) hb12 hx hy (fun r1 e1 => ?_)
    show WS _ M_Line_compareMiss 13 [vR 12 0, vI x, vI y, vI t, vJ (t.toInt64 * t.toInt64), vU, vU, vU, vU, vU] [vI r1] σ _
    refine WS.run (C := []) (pc' := 24) (L' := [vR 12 0, vI x, vI y, vI t, vJ (t.toInt64 * t.toInt64), vU, vI r1, vU, vU, vU]) (S' := [vI (gI σ 12 0 3), vI (gI σ 12 0 2), vR 12 0]) (σ' := σ) 6 rfl trivial ?_
    refine WS.callV M_Line_along (k := 12) (i := 0) (as := [vI (gI σ 12 0 2), vI (gI σ 12 0 3)]) (rest := []) rfl lk_3_22 rfl rfl rfl (Nat.le_of_ble_eq_true rfl) ?_
    refine c_along (Or.inr (Or.inl rfl)) hb12 hb12.2.2.1 hb12.2.2.2 (fun r2 e2 => ?_)
    show WS _ M_Line_compareMiss 27 [vR 12 0, vI x, vI y, vI t, vJ (t.toInt64 * t.toInt64), vU, vI r1, vU, vU, vU] [vI r2] σ _
    refine WS.run (C := []) (pc' := 31) (L' := [vR 12 0, vI x, vI y, vI t, vJ (t.toInt64 * t.toInt64), vU, vI r1, vI r2, vU, vU]) (S' := [vI r1]) (σ' := σ) 2 rfl trivial ?_
    refine WS.br (P := 0 < r1) (a := 54) (b := 34) (S' := []) rfl (fun c3 => ?_) (fun c3 => ?_)
    · refine WS.run (C := []) (pc' := 58) (L' := [vR 12 0, vI x, vI y, vI t, vJ (t.toInt64 * t.toInt64), vU, vI r1, vI r2, vU, vU]) (S' := [vI r2, vI r1]) (σ' := σ) 2 rfl trivial ?_
      refine WS.br (P := r1 < r2) (a := 81) (b := 61) (S' := []) rfl (fun c4 => ?_) (fun c4 => ?_)
      · refine WS.run (C := []) (pc' := 84) (L' := [vR 12 0, vI x, vI y, vI t, vJ (t.toInt64 * t.toInt64), vU, vI r1, vI r2, vU, vU]) (S' := [vI y, vI x, vR 12 0]) (σ' := σ) 3 rfl trivial ?_
        refine WS.callV M_Line_side (k := 12) (i := 0) (as := [vI x, vI y]) (rest := []) rfl lk_3_36 rfl rfl rfl (Nat.le_of_ble_eq_true rfl) ?_
        refine c_side (Or.inr (Or.inl rfl)) hb12 hx hy (fun r5 e5 => ?_)
        show WS _ M_Line_compareMiss 87 [vR 12 0, vI x, vI y, vI t, vJ (t.toInt64 * t.toInt64), vU, vI r1, vI r2, vU, vU] [vI r5] σ _
        refine WS.run (C := []) (pc' := 101) (L' := [vR 12 0, vI x, vI y, vI t, vJ (t.toInt64 * t.toInt64), vU, vI r1, vI r2, vJ r5.toInt64, vU]) (S' := [vJ ((t.toInt64 * t.toInt64) * r2.toInt64), vJ (r5.toInt64 * r5.toInt64)]) (σ' := σ) 9 rfl trivial ?_
        refine WS.callS M_JLong_compare (as := [vJ (r5.toInt64 * r5.toInt64), vJ ((t.toInt64 * t.toInt64) * r2.toInt64)]) (rest := []) rfl lk_3_30 rfl rfl (Nat.le_of_ble_eq_true rfl) ?_
        refine c_Jcompare  (fun r6 e6 => ?_)
        show WS _ M_Line_compareMiss 104 [vR 12 0, vI x, vI y, vI t, vJ (t.toInt64 * t.toInt64), vU, vI r1, vI r2, vJ r5.toInt64, vU] [vI r6] σ _
        exact WS.ret rfl rfl (by decide) rfl (h _ (by rw [e6, cm_3 hb hx hy ht e1 e2 c3 c4 e5]))
      · refine WS.run (C := []) (pc' := 71) (L' := [vR 12 0, vI x, vI y, vI t, vJ (t.toInt64 * t.toInt64), vU, vI r1, vI r2, vU, vU]) (S' := [vI (gI σ 12 0 3), vI (gI σ 12 0 2), vI y, vI x]) (σ' := σ) 6 rfl trivial ?_
        refine WS.callS M_Line_squareBetween (as := [vI x, vI y, vI (gI σ 12 0 2), vI (gI σ 12 0 3)]) (rest := []) rfl lk_3_26 rfl rfl (Nat.le_of_ble_eq_true rfl) ?_
        refine c_squareBetween hx hy hb12.2.2.1 hb12.2.2.2 (fun r7 e7 => ?_)
        show WS _ M_Line_compareMiss 74 [vR 12 0, vI x, vI y, vI t, vJ (t.toInt64 * t.toInt64), vU, vI r1, vI r2, vU, vU] [vI r7] σ _
        refine WS.run (C := []) (pc' := 77) (L' := [vR 12 0, vI x, vI y, vI t, vJ (t.toInt64 * t.toInt64), vU, vI r1, vI r2, vU, vU]) (S' := [vJ (t.toInt64 * t.toInt64), vJ r7.toInt64]) (σ' := σ) 2 rfl trivial ?_
        refine WS.callS M_JLong_compare (as := [vJ r7.toInt64, vJ (t.toInt64 * t.toInt64)]) (rest := []) rfl lk_3_30 rfl rfl (Nat.le_of_ble_eq_true rfl) ?_
        refine c_Jcompare  (fun r8 e8 => ?_)
        show WS _ M_Line_compareMiss 80 [vR 12 0, vI x, vI y, vI t, vJ (t.toInt64 * t.toInt64), vU, vI r1, vI r2, vU, vU] [vI r8] σ _
        exact WS.ret rfl rfl (by decide) rfl (h _ (by rw [e8, cm_2 ht e1 e2 c3 c4 e7]))
    · refine WS.run (C := []) (pc' := 44) (L' := [vR 12 0, vI x, vI y, vI t, vJ (t.toInt64 * t.toInt64), vU, vI r1, vI r2, vU, vU]) (S' := [vI (gI σ 12 0 1), vI (gI σ 12 0 0), vI y, vI x]) (σ' := σ) 6 rfl trivial ?_
      refine WS.callS M_Line_squareBetween (as := [vI x, vI y, vI (gI σ 12 0 0), vI (gI σ 12 0 1)]) (rest := []) rfl lk_3_26 rfl rfl (Nat.le_of_ble_eq_true rfl) ?_
      refine c_squareBetween hx hy hb12.1 hb12.2.1 (fun r9 e9 => ?_)
      show WS _ M_Line_compareMiss 47 [vR 12 0, vI x, vI y, vI t, vJ (t.toInt64 * t.toInt64), vU, vI r1, vI r2, vU, vU] [vI r9] σ _
      refine WS.run (C := []) (pc' := 50) (L' := [vR 12 0, vI x, vI y, vI t, vJ (t.toInt64 * t.toInt64), vU, vI r1, vI r2, vU, vU]) (S' := [vJ (t.toInt64 * t.toInt64), vJ r9.toInt64]) (σ' := σ) 2 rfl trivial ?_
      refine WS.callS M_JLong_compare (as := [vJ r9.toInt64, vJ (t.toInt64 * t.toInt64)]) (rest := []) rfl lk_3_30 rfl rfl (Nat.le_of_ble_eq_true rfl) ?_
      refine c_Jcompare  (fun r10 e10 => ?_)
      show WS _ M_Line_compareMiss 53 [vR 12 0, vI x, vI y, vI t, vJ (t.toInt64 * t.toInt64), vU, vI r1, vI r2, vU, vU] [vI r10] σ _
      exact WS.ret rfl rfl (by decide) rfl (h _ (by rw [e10, cm_1 ht e1 c3 e9]))
  · have hb40 := hb
    refine MM.of ok_Line_compareMiss rfl ?_
    show WS _ M_Line_compareMiss 0 [vR 40 0, vI x, vI y, vI t, vU, vU, vU, vU, vU, vU] [] σ _
    refine WS.run (C := []) (pc' := 10) (L' := [vR 40 0, vI x, vI y, vI t, vJ (t.toInt64 * t.toInt64), vU, vU, vU, vU, vU]) (S' := [vI y, vI x, vR 40 0]) (σ' := σ) 9 rfl trivial ?_
    refine WS.callV M_Line_along (k := 40) (i := 0) (as := [vI x, vI y]) (rest := []) rfl lk_3_22 rfl rfl rfl (Nat.le_of_ble_eq_true rfl) ?_
    refine c_along (Or.inr (Or.inr rfl)) hb40 hx hy (fun r1 e1 => ?_)
    show WS _ M_Line_compareMiss 13 [vR 40 0, vI x, vI y, vI t, vJ (t.toInt64 * t.toInt64), vU, vU, vU, vU, vU] [vI r1] σ _
    refine WS.run (C := []) (pc' := 24) (L' := [vR 40 0, vI x, vI y, vI t, vJ (t.toInt64 * t.toInt64), vU, vI r1, vU, vU, vU]) (S' := [vI (gI σ 40 0 3), vI (gI σ 40 0 2), vR 40 0]) (σ' := σ) 6 rfl trivial ?_
    refine WS.callV M_Line_along (k := 40) (i := 0) (as := [vI (gI σ 40 0 2), vI (gI σ 40 0 3)]) (rest := []) rfl lk_3_22 rfl rfl rfl (Nat.le_of_ble_eq_true rfl) ?_
    refine c_along (Or.inr (Or.inr rfl)) hb40 hb40.2.2.1 hb40.2.2.2 (fun r2 e2 => ?_)
    show WS _ M_Line_compareMiss 27 [vR 40 0, vI x, vI y, vI t, vJ (t.toInt64 * t.toInt64), vU, vI r1, vU, vU, vU] [vI r2] σ _
    refine WS.run (C := []) (pc' := 31) (L' := [vR 40 0, vI x, vI y, vI t, vJ (t.toInt64 * t.toInt64), vU, vI r1, vI r2, vU, vU]) (S' := [vI r1]) (σ' := σ) 2 rfl trivial ?_
    refine WS.br (P := 0 < r1) (a := 54) (b := 34) (S' := []) rfl (fun c3 => ?_) (fun c3 => ?_)
    · refine WS.run (C := []) (pc' := 58) (L' := [vR 40 0, vI x, vI y, vI t, vJ (t.toInt64 * t.toInt64), vU, vI r1, vI r2, vU, vU]) (S' := [vI r2, vI r1]) (σ' := σ) 2 rfl trivial ?_
      refine WS.br (P := r1 < r2) (a := 81) (b := 61) (S' := []) rfl (fun c4 => ?_) (fun c4 => ?_)
      · refine WS.run (C := []) (pc' := 84) (L' := [vR 40 0, vI x, vI y, vI t, vJ (t.toInt64 * t.toInt64), vU, vI r1, vI r2, vU, vU]) (S' := [vI y, vI x, vR 40 0]) (σ' := σ) 3 rfl trivial ?_
        refine WS.callV M_Line_side (k := 40) (i := 0) (as := [vI x, vI y]) (rest := []) rfl lk_3_36 rfl rfl rfl (Nat.le_of_ble_eq_true rfl) ?_
        refine c_side (Or.inr (Or.inr rfl)) hb40 hx hy (fun r5 e5 => ?_)
        show WS _ M_Line_compareMiss 87 [vR 40 0, vI x, vI y, vI t, vJ (t.toInt64 * t.toInt64), vU, vI r1, vI r2, vU, vU] [vI r5] σ _
        refine WS.run (C := []) (pc' := 101) (L' := [vR 40 0, vI x, vI y, vI t, vJ (t.toInt64 * t.toInt64), vU, vI r1, vI r2, vJ r5.toInt64, vU]) (S' := [vJ ((t.toInt64 * t.toInt64) * r2.toInt64), vJ (r5.toInt64 * r5.toInt64)]) (σ' := σ) 9 rfl trivial ?_
        refine WS.callS M_JLong_compare (as := [vJ (r5.toInt64 * r5.toInt64), vJ ((t.toInt64 * t.toInt64) * r2.toInt64)]) (rest := []) rfl lk_3_30 rfl rfl (Nat.le_of_ble_eq_true rfl) ?_
        refine c_Jcompare  (fun r6 e6 => ?_)
        show WS _ M_Line_compareMiss 104 [vR 40 0, vI x, vI y, vI t, vJ (t.toInt64 * t.toInt64), vU, vI r1, vI r2, vJ r5.toInt64, vU] [vI r6] σ _
        exact WS.ret rfl rfl (by decide) rfl (h _ (by rw [e6, cm_3 hb hx hy ht e1 e2 c3 c4 e5]))
      · refine WS.run (C := []) (pc' := 71) (L' := [vR 40 0, vI x, vI y, vI t, vJ (t.toInt64 * t.toInt64), vU, vI r1, vI r2, vU, vU]) (S' := [vI (gI σ 40 0 3), vI (gI σ 40 0 2), vI y, vI x]) (σ' := σ) 6 rfl trivial ?_
        refine WS.callS M_Line_squareBetween (as := [vI x, vI y, vI (gI σ 40 0 2), vI (gI σ 40 0 3)]) (rest := []) rfl lk_3_26 rfl rfl (Nat.le_of_ble_eq_true rfl) ?_
        refine c_squareBetween hx hy hb40.2.2.1 hb40.2.2.2 (fun r7 e7 => ?_)
        show WS _ M_Line_compareMiss 74 [vR 40 0, vI x, vI y, vI t, vJ (t.toInt64 * t.toInt64), vU, vI r1, vI r2, vU, vU] [vI r7] σ _
        refine WS.run (C := []) (pc' := 77) (L' := [vR 40 0, vI x, vI y, vI t, vJ (t.toInt64 * t.toInt64), vU, vI r1, vI r2, vU, vU]) (S' := [vJ (t.toInt64 * t.toInt64), vJ r7.toInt64]) (σ' := σ) 2 rfl trivial ?_
        refine WS.callS M_JLong_compare (as := [vJ r7.toInt64, vJ (t.toInt64 * t.toInt64)]) (rest := []) rfl lk_3_30 rfl rfl (Nat.le_of_ble_eq_true rfl) ?_
        refine c_Jcompare  (fun r8 e8 => ?_)
        show WS _ M_Line_compareMiss 80 [vR 40 0, vI x, vI y, vI t, vJ (t.toInt64 * t.toInt64), vU, vI r1, vI r2, vU, vU] [vI r8] σ _
        exact WS.ret rfl rfl (by decide) rfl (h _ (by rw [e8, cm_2 ht e1 e2 c3 c4 e7]))
    · refine WS.run (C := []) (pc' := 44) (L' := [vR 40 0, vI x, vI y, vI t, vJ (t.toInt64 * t.toInt64), vU, vI r1, vI r2, vU, vU]) (S' := [vI (gI σ 40 0 1), vI (gI σ 40 0 0), vI y, vI x]) (σ' := σ) 6 rfl trivial ?_
      refine WS.callS M_Line_squareBetween (as := [vI x, vI y, vI (gI σ 40 0 0), vI (gI σ 40 0 1)]) (rest := []) rfl lk_3_26 rfl rfl (Nat.le_of_ble_eq_true rfl) ?_
      refine c_squareBetween hx hy hb40.1 hb40.2.1 (fun r9 e9 => ?_)
      show WS _ M_Line_compareMiss 47 [vR 40 0, vI x, vI y, vI t, vJ (t.toInt64 * t.toInt64), vU, vI r1, vI r2, vU, vU] [vI r9] σ _
      refine WS.run (C := []) (pc' := 50) (L' := [vR 40 0, vI x, vI y, vI t, vJ (t.toInt64 * t.toInt64), vU, vI r1, vI r2, vU, vU]) (S' := [vJ (t.toInt64 * t.toInt64), vJ r9.toInt64]) (σ' := σ) 2 rfl trivial ?_
      refine WS.callS M_JLong_compare (as := [vJ r9.toInt64, vJ (t.toInt64 * t.toInt64)]) (rest := []) rfl lk_3_30 rfl rfl (Nat.le_of_ble_eq_true rfl) ?_
      refine c_Jcompare  (fun r10 e10 => ?_)
      show WS _ M_Line_compareMiss 53 [vR 40 0, vI x, vI y, vI t, vJ (t.toInt64 * t.toInt64), vU, vI r1, vI r2, vU, vU] [vI r10] σ _
      exact WS.ret rfl rfl (by decide) rfl (h _ (by rw [e10, cm_1 ht e1 c3 e9]))
set_option maxRecDepth 4000 in
set_option maxHeartbeats 400000 in
theorem c_isNearer {d : Nat} {σ : Mem} {Post : Option AV → Mem → Prop} {g : Int32} {k k2 : Nat} (hk : (k = 11 ∧ k2 = 12) ∨ (k = 12 ∧ k2 = 11)) (hb : lnB (lnC σ k)) (hb2 : lnB (lnC σ k2)) (hd2 : 0 ≤ g.toInt ∧ g.toInt ≤ 100) (h1 : nearZ (lnC σ k) (lnC σ k2) g.toInt → Post (some (vI 1)) σ) (h0 : ¬ nearZ (lnC σ k) (lnC σ k2) g.toInt → Post (some (vI 0)) σ) : MM (d + 2) M_Line_isNearer [vR k 0, vR k2 0, vI g] σ Post := by
  rcases hk with ⟨rfl, rfl⟩ | ⟨rfl, rfl⟩
  · have hb11 := hb
    have hb12 := hb2
    refine MM.of ok_Line_isNearer rfl ?_
    show WS _ M_Line_isNearer 0 [vR 11 0, vR 12 0, vI g] [] σ _
    refine WS.run (C := []) (pc' := 1) (L' := [vR 11 0, vR 12 0, vI g]) (S' := [vI g]) (σ' := σ) 1 rfl trivial ?_
    refine WS.br (P := g ≤ 0) (a := 80) (b := 4) (S' := []) rfl (fun c1 => ?_) (fun c1 => ?_)
    · refine WS.run (C := []) (pc' := 81) (L' := [vR 11 0, vR 12 0, vI g]) (S' := [vI (0 : Int32)]) (σ' := σ) 1 rfl trivial ?_
      exact WS.ret rfl rfl (by decide) rfl (h0 (fun z => by simp only [t_le, t_0] at c1; have := z.1; omega))
    · refine WS.run (C := []) (pc' := 6) (L' := [vR 11 0, vR 12 0, vI g]) (S' := [vR 12 0, vR 11 0]) (σ' := σ) 2 rfl trivial ?_
      refine WS.callV M_Line_cuts (k := 11) (i := 0) (as := [vR 12 0]) (rest := []) rfl lk_3_46 rfl rfl rfl (Nat.le_of_ble_eq_true rfl) ?_
      refine c_cuts (Or.inl ⟨rfl, rfl⟩) hb11 hb12 (fun q2 => ?_) (fun q2 => ?_)
      · show WS _ M_Line_isNearer 9 [vR 11 0, vR 12 0, vI g] [vI (1 : Int32)] σ _
        refine WS.br (P := (1 : Int32) = 0) (a := 12) (b := 76) (S' := []) rfl (fun cc => absurd cc (by decide)) (fun _ => ?_)
        refine WS.run (C := []) (pc' := 81) (L' := [vR 11 0, vR 12 0, vI g]) (S' := [vI (1 : Int32)]) (σ' := σ) 2 rfl trivial ?_
        exact WS.ret rfl rfl (by decide) rfl (h1 ⟨(by simp only [t_le, t_0] at c1; omega), Or.inl q2⟩)
      · show WS _ M_Line_isNearer 9 [vR 11 0, vR 12 0, vI g] [vI (0 : Int32)] σ _
        refine WS.br (P := (0 : Int32) = 0) (a := 12) (b := 76) (S' := []) rfl (fun _ => ?_) (fun cc => absurd (by decide) cc)
        refine WS.run (C := []) (pc' := 22) (L' := [vR 11 0, vR 12 0, vI g]) (S' := [vI g, vI (gI σ 12 0 1), vI (gI σ 12 0 0), vR 11 0]) (σ' := σ) 6 rfl trivial ?_
        refine WS.callV M_Line_compareMiss (k := 11) (i := 0) (as := [vI (gI σ 12 0 0), vI (gI σ 12 0 1), vI g]) (rest := []) rfl lk_3_50 rfl rfl rfl (Nat.le_of_ble_eq_true rfl) ?_
        refine c_compareMiss hb12.1 hb12.2.1 (Or.inl rfl) hb11 hd2 (fun r3 e3 => ?_)
        show WS _ M_Line_isNearer 25 [vR 11 0, vR 12 0, vI g] [vI r3] σ _
        refine WS.br (P := r3 < 0) (a := 76) (b := 28) (S' := []) rfl (fun c4 => ?_) (fun c4 => ?_)
        · refine WS.run (C := []) (pc' := 81) (L' := [vR 11 0, vR 12 0, vI g]) (S' := [vI (1 : Int32)]) (σ' := σ) 2 rfl trivial ?_
          exact WS.ret rfl rfl (by decide) rfl (h1 ⟨(by simp only [t_le, t_0] at c1; omega), Or.inr (Or.inl (sg_p e3 c4))⟩)
        · refine WS.run (C := []) (pc' := 38) (L' := [vR 11 0, vR 12 0, vI g]) (S' := [vI g, vI (gI σ 12 0 3), vI (gI σ 12 0 2), vR 11 0]) (σ' := σ) 6 rfl trivial ?_
          refine WS.callV M_Line_compareMiss (k := 11) (i := 0) (as := [vI (gI σ 12 0 2), vI (gI σ 12 0 3), vI g]) (rest := []) rfl lk_3_50 rfl rfl rfl (Nat.le_of_ble_eq_true rfl) ?_
          refine c_compareMiss hb12.2.2.1 hb12.2.2.2 (Or.inl rfl) hb11 hd2 (fun r5 e5 => ?_)
          show WS _ M_Line_isNearer 41 [vR 11 0, vR 12 0, vI g] [vI r5] σ _
          refine WS.br (P := r5 < 0) (a := 76) (b := 44) (S' := []) rfl (fun c6 => ?_) (fun c6 => ?_)
          · refine WS.run (C := []) (pc' := 81) (L' := [vR 11 0, vR 12 0, vI g]) (S' := [vI (1 : Int32)]) (σ' := σ) 2 rfl trivial ?_
            exact WS.ret rfl rfl (by decide) rfl (h1 ⟨(by simp only [t_le, t_0] at c1; omega), Or.inr (Or.inr (Or.inl (sg_p e5 c6)))⟩)
          · refine WS.run (C := []) (pc' := 54) (L' := [vR 11 0, vR 12 0, vI g]) (S' := [vI g, vI (gI σ 11 0 1), vI (gI σ 11 0 0), vR 12 0]) (σ' := σ) 6 rfl trivial ?_
            refine WS.callV M_Line_compareMiss (k := 12) (i := 0) (as := [vI (gI σ 11 0 0), vI (gI σ 11 0 1), vI g]) (rest := []) rfl lk_3_50 rfl rfl rfl (Nat.le_of_ble_eq_true rfl) ?_
            refine c_compareMiss hb11.1 hb11.2.1 (Or.inr (Or.inl rfl)) hb12 hd2 (fun r7 e7 => ?_)
            show WS _ M_Line_isNearer 57 [vR 11 0, vR 12 0, vI g] [vI r7] σ _
            refine WS.br (P := r7 < 0) (a := 76) (b := 60) (S' := []) rfl (fun c8 => ?_) (fun c8 => ?_)
            · refine WS.run (C := []) (pc' := 81) (L' := [vR 11 0, vR 12 0, vI g]) (S' := [vI (1 : Int32)]) (σ' := σ) 2 rfl trivial ?_
              exact WS.ret rfl rfl (by decide) rfl (h1 ⟨(by simp only [t_le, t_0] at c1; omega), Or.inr (Or.inr (Or.inr (Or.inl (sg_p e7 c8))))⟩)
            · refine WS.run (C := []) (pc' := 70) (L' := [vR 11 0, vR 12 0, vI g]) (S' := [vI g, vI (gI σ 11 0 3), vI (gI σ 11 0 2), vR 12 0]) (σ' := σ) 6 rfl trivial ?_
              refine WS.callV M_Line_compareMiss (k := 12) (i := 0) (as := [vI (gI σ 11 0 2), vI (gI σ 11 0 3), vI g]) (rest := []) rfl lk_3_50 rfl rfl rfl (Nat.le_of_ble_eq_true rfl) ?_
              refine c_compareMiss hb11.2.2.1 hb11.2.2.2 (Or.inr (Or.inl rfl)) hb12 hd2 (fun r9 e9 => ?_)
              show WS _ M_Line_isNearer 73 [vR 11 0, vR 12 0, vI g] [vI r9] σ _
              refine WS.br (P := 0 ≤ r9) (a := 80) (b := 76) (S' := []) rfl (fun c10 => ?_) (fun c10 => ?_)
              · refine WS.run (C := []) (pc' := 81) (L' := [vR 11 0, vR 12 0, vI g]) (S' := [vI (0 : Int32)]) (σ' := σ) 1 rfl trivial ?_
                exact WS.ret rfl rfl (by decide) rfl (h0 (fun z => z.2.elim q2 (fun z => z.elim (sg_n e3 c4) (fun z => z.elim (sg_n e5 c6) (fun z => z.elim (sg_n e7 c8) (sg_n2 e9 c10))))))
              · refine WS.run (C := []) (pc' := 81) (L' := [vR 11 0, vR 12 0, vI g]) (S' := [vI (1 : Int32)]) (σ' := σ) 2 rfl trivial ?_
                exact WS.ret rfl rfl (by decide) rfl (h1 ⟨(by simp only [t_le, t_0] at c1; omega), Or.inr (Or.inr (Or.inr (Or.inr (sg_p2 e9 c10))))⟩)
  · have hb12 := hb
    have hb11 := hb2
    refine MM.of ok_Line_isNearer rfl ?_
    show WS _ M_Line_isNearer 0 [vR 12 0, vR 11 0, vI g] [] σ _
    refine WS.run (C := []) (pc' := 1) (L' := [vR 12 0, vR 11 0, vI g]) (S' := [vI g]) (σ' := σ) 1 rfl trivial ?_
    refine WS.br (P := g ≤ 0) (a := 80) (b := 4) (S' := []) rfl (fun c1 => ?_) (fun c1 => ?_)
    · refine WS.run (C := []) (pc' := 81) (L' := [vR 12 0, vR 11 0, vI g]) (S' := [vI (0 : Int32)]) (σ' := σ) 1 rfl trivial ?_
      exact WS.ret rfl rfl (by decide) rfl (h0 (fun z => by simp only [t_le, t_0] at c1; have := z.1; omega))
    · refine WS.run (C := []) (pc' := 6) (L' := [vR 12 0, vR 11 0, vI g]) (S' := [vR 11 0, vR 12 0]) (σ' := σ) 2 rfl trivial ?_
      refine WS.callV M_Line_cuts (k := 12) (i := 0) (as := [vR 11 0]) (rest := []) rfl lk_3_46 rfl rfl rfl (Nat.le_of_ble_eq_true rfl) ?_
      refine c_cuts (Or.inr ⟨rfl, rfl⟩) hb12 hb11 (fun q2 => ?_) (fun q2 => ?_)
      · show WS _ M_Line_isNearer 9 [vR 12 0, vR 11 0, vI g] [vI (1 : Int32)] σ _
        refine WS.br (P := (1 : Int32) = 0) (a := 12) (b := 76) (S' := []) rfl (fun cc => absurd cc (by decide)) (fun _ => ?_)
        refine WS.run (C := []) (pc' := 81) (L' := [vR 12 0, vR 11 0, vI g]) (S' := [vI (1 : Int32)]) (σ' := σ) 2 rfl trivial ?_
        exact WS.ret rfl rfl (by decide) rfl (h1 ⟨(by simp only [t_le, t_0] at c1; omega), Or.inl q2⟩)
      · show WS _ M_Line_isNearer 9 [vR 12 0, vR 11 0, vI g] [vI (0 : Int32)] σ _
        refine WS.br (P := (0 : Int32) = 0) (a := 12) (b := 76) (S' := []) rfl (fun _ => ?_) (fun cc => absurd (by decide) cc)
        refine WS.run (C := []) (pc' := 22) (L' := [vR 12 0, vR 11 0, vI g]) (S' := [vI g, vI (gI σ 11 0 1), vI (gI σ 11 0 0), vR 12 0]) (σ' := σ) 6 rfl trivial ?_
        refine WS.callV M_Line_compareMiss (k := 12) (i := 0) (as := [vI (gI σ 11 0 0), vI (gI σ 11 0 1), vI g]) (rest := []) rfl lk_3_50 rfl rfl rfl (Nat.le_of_ble_eq_true rfl) ?_
        refine c_compareMiss hb11.1 hb11.2.1 (Or.inr (Or.inl rfl)) hb12 hd2 (fun r3 e3 => ?_)
        show WS _ M_Line_isNearer 25 [vR 12 0, vR 11 0, vI g] [vI r3] σ _
        refine WS.br (P := r3 < 0) (a := 76) (b := 28) (S' := []) rfl (fun c4 => ?_) (fun c4 => ?_)
        · refine WS.run (C := []) (pc' := 81) (L' := [vR 12 0, vR 11 0, vI g]) (S' := [vI (1 : Int32)]) (σ' := σ) 2 rfl trivial ?_
          exact WS.ret rfl rfl (by decide) rfl (h1 ⟨(by simp only [t_le, t_0] at c1; omega), Or.inr (Or.inl (sg_p e3 c4))⟩)
        · refine WS.run (C := []) (pc' := 38) (L' := [vR 12 0, vR 11 0, vI g]) (S' := [vI g, vI (gI σ 11 0 3), vI (gI σ 11 0 2), vR 12 0]) (σ' := σ) 6 rfl trivial ?_
          refine WS.callV M_Line_compareMiss (k := 12) (i := 0) (as := [vI (gI σ 11 0 2), vI (gI σ 11 0 3), vI g]) (rest := []) rfl lk_3_50 rfl rfl rfl (Nat.le_of_ble_eq_true rfl) ?_
          refine c_compareMiss hb11.2.2.1 hb11.2.2.2 (Or.inr (Or.inl rfl)) hb12 hd2 (fun r5 e5 => ?_)
          show WS _ M_Line_isNearer 41 [vR 12 0, vR 11 0, vI g] [vI r5] σ _
          refine WS.br (P := r5 < 0) (a := 76) (b := 44) (S' := []) rfl (fun c6 => ?_) (fun c6 => ?_)
          · refine WS.run (C := []) (pc' := 81) (L' := [vR 12 0, vR 11 0, vI g]) (S' := [vI (1 : Int32)]) (σ' := σ) 2 rfl trivial ?_
            exact WS.ret rfl rfl (by decide) rfl (h1 ⟨(by simp only [t_le, t_0] at c1; omega), Or.inr (Or.inr (Or.inl (sg_p e5 c6)))⟩)
          · refine WS.run (C := []) (pc' := 54) (L' := [vR 12 0, vR 11 0, vI g]) (S' := [vI g, vI (gI σ 12 0 1), vI (gI σ 12 0 0), vR 11 0]) (σ' := σ) 6 rfl trivial ?_
            refine WS.callV M_Line_compareMiss (k := 11) (i := 0) (as := [vI (gI σ 12 0 0), vI (gI σ 12 0 1), vI g]) (rest := []) rfl lk_3_50 rfl rfl rfl (Nat.le_of_ble_eq_true rfl) ?_
            refine c_compareMiss hb12.1 hb12.2.1 (Or.inl rfl) hb11 hd2 (fun r7 e7 => ?_)
            show WS _ M_Line_isNearer 57 [vR 12 0, vR 11 0, vI g] [vI r7] σ _
            refine WS.br (P := r7 < 0) (a := 76) (b := 60) (S' := []) rfl (fun c8 => ?_) (fun c8 => ?_)
            · refine WS.run (C := []) (pc' := 81) (L' := [vR 12 0, vR 11 0, vI g]) (S' := [vI (1 : Int32)]) (σ' := σ) 2 rfl trivial ?_
              exact WS.ret rfl rfl (by decide) rfl (h1 ⟨(by simp only [t_le, t_0] at c1; omega), Or.inr (Or.inr (Or.inr (Or.inl (sg_p e7 c8))))⟩)
            · refine WS.run (C := []) (pc' := 70) (L' := [vR 12 0, vR 11 0, vI g]) (S' := [vI g, vI (gI σ 12 0 3), vI (gI σ 12 0 2), vR 11 0]) (σ' := σ) 6 rfl trivial ?_
              refine WS.callV M_Line_compareMiss (k := 11) (i := 0) (as := [vI (gI σ 12 0 2), vI (gI σ 12 0 3), vI g]) (rest := []) rfl lk_3_50 rfl rfl rfl (Nat.le_of_ble_eq_true rfl) ?_
              refine c_compareMiss hb12.2.2.1 hb12.2.2.2 (Or.inl rfl) hb11 hd2 (fun r9 e9 => ?_)
              show WS _ M_Line_isNearer 73 [vR 12 0, vR 11 0, vI g] [vI r9] σ _
              refine WS.br (P := 0 ≤ r9) (a := 80) (b := 76) (S' := []) rfl (fun c10 => ?_) (fun c10 => ?_)
              · refine WS.run (C := []) (pc' := 81) (L' := [vR 12 0, vR 11 0, vI g]) (S' := [vI (0 : Int32)]) (σ' := σ) 1 rfl trivial ?_
                exact WS.ret rfl rfl (by decide) rfl (h0 (fun z => z.2.elim q2 (fun z => z.elim (sg_n e3 c4) (fun z => z.elim (sg_n e5 c6) (fun z => z.elim (sg_n e7 c8) (sg_n2 e9 c10))))))
              · refine WS.run (C := []) (pc' := 81) (L' := [vR 12 0, vR 11 0, vI g]) (S' := [vI (1 : Int32)]) (σ' := σ) 2 rfl trivial ?_
                exact WS.ret rfl rfl (by decide) rfl (h1 ⟨(by simp only [t_le, t_0] at c1; omega), Or.inr (Or.inr (Or.inr (Or.inr (sg_p2 e9 c10))))⟩)
set_option maxRecDepth 4000 in
set_option maxHeartbeats 400000 in
theorem c_overlaps {d : Nat} {σ : Mem} {Post : Option AV → Mem → Prop} {k k2 : Nat} (hk : (k = 11 ∧ k2 = 12) ∨ (k = 12 ∧ k2 = 11)) (hb : lnB (lnC σ k)) (hb2 : lnB (lnC σ k2)) (h1 : overZ (lnC σ k) (lnC σ k2) → Post (some (vI 1)) σ) (h0 : ¬ overZ (lnC σ k) (lnC σ k2) → Post (some (vI 0)) σ) : MM (d + 1) M_Line_overlaps [vR k 0, vR k2 0] σ Post := by
  rcases hk with ⟨rfl, rfl⟩ | ⟨rfl, rfl⟩
  · have hb11 := hb
    have hb12 := hb2
    refine MM.of ok_Line_overlaps rfl ?_
    show WS _ M_Line_overlaps 0 [vR 11 0, vR 12 0, vU, vU] [] σ _
    refine WS.run (C := []) (pc' := 9) (L' := [vR 11 0, vR 12 0, vU, vU]) (S' := [vI (gI σ 12 0 1), vI (gI σ 12 0 0), vR 11 0]) (σ' := σ) 5 rfl trivial ?_
    refine WS.callV M_Line_side (k := 11) (i := 0) (as := [vI (gI σ 12 0 0), vI (gI σ 12 0 1)]) (rest := []) rfl lk_3_36 rfl rfl rfl (Nat.le_of_ble_eq_true rfl) ?_
    refine c_side (Or.inl rfl) hb11 hb12.1 hb12.2.1 (fun r1 e1 => ?_)
    show WS _ M_Line_overlaps 12 [vR 11 0, vR 12 0, vU, vU] [vI r1] σ _
    refine WS.br (P := r1 = 0) (a := 15) (b := 30) (S' := []) rfl (fun c2 => ?_) (fun c2 => ?_)
    · refine WS.run (C := []) (pc' := 24) (L' := [vR 11 0, vR 12 0, vU, vU]) (S' := [vI (gI σ 12 0 3), vI (gI σ 12 0 2), vR 11 0]) (σ' := σ) 5 rfl trivial ?_
      refine WS.callV M_Line_side (k := 11) (i := 0) (as := [vI (gI σ 12 0 2), vI (gI σ 12 0 3)]) (rest := []) rfl lk_3_36 rfl rfl rfl (Nat.le_of_ble_eq_true rfl) ?_
      refine c_side (Or.inl rfl) hb11 hb12.2.2.1 hb12.2.2.2 (fun r3 e3 => ?_)
      show WS _ M_Line_overlaps 27 [vR 11 0, vR 12 0, vU, vU] [vI r3] σ _
      refine WS.br (P := r3 = 0) (a := 32) (b := 30) (S' := []) rfl (fun c4 => ?_) (fun c4 => ?_)
      · refine WS.run (C := []) (pc' := 41) (L' := [vR 11 0, vR 12 0, vU, vU]) (S' := [vI (gI σ 12 0 1), vI (gI σ 12 0 0), vR 11 0]) (σ' := σ) 5 rfl trivial ?_
        refine WS.callV M_Line_along (k := 11) (i := 0) (as := [vI (gI σ 12 0 0), vI (gI σ 12 0 1)]) (rest := []) rfl lk_3_22 rfl rfl rfl (Nat.le_of_ble_eq_true rfl) ?_
        refine c_along (Or.inl rfl) hb11 hb12.1 hb12.2.1 (fun r5 e5 => ?_)
        show WS _ M_Line_overlaps 44 [vR 11 0, vR 12 0, vU, vU] [vI r5] σ _
        refine WS.run (C := []) (pc' := 54) (L' := [vR 11 0, vR 12 0, vI r5, vU]) (S' := [vI (gI σ 12 0 3), vI (gI σ 12 0 2), vR 11 0]) (σ' := σ) 6 rfl trivial ?_
        refine WS.callV M_Line_along (k := 11) (i := 0) (as := [vI (gI σ 12 0 2), vI (gI σ 12 0 3)]) (rest := []) rfl lk_3_22 rfl rfl rfl (Nat.le_of_ble_eq_true rfl) ?_
        refine c_along (Or.inl rfl) hb11 hb12.2.2.1 hb12.2.2.2 (fun r6 e6 => ?_)
        show WS _ M_Line_overlaps 57 [vR 11 0, vR 12 0, vI r5, vU] [vI r6] σ _
        refine WS.run (C := []) (pc' := 61) (L' := [vR 11 0, vR 12 0, vI r5, vI r6]) (S' := [vI r6, vI r5, vI (0 : Int32)]) (σ' := σ) 4 rfl trivial ?_
        refine WS.mminT rfl lkm_3_54 (Nat.le_of_ble_eq_true rfl) (fun r7 e7 => ?_)
        refine WS.mmaxT rfl lkm_3_59 (Nat.le_of_ble_eq_true rfl) (fun r8 e8 => ?_)
        refine WS.run (C := []) (pc' := 76) (L' := [vR 11 0, vR 12 0, vI r5, vI r6]) (S' := [vI (gI σ 11 0 3), vI (gI σ 11 0 2), vR 11 0, vI r8]) (σ' := σ) 5 rfl trivial ?_
        refine WS.callV M_Line_along (k := 11) (i := 0) (as := [vI (gI σ 11 0 2), vI (gI σ 11 0 3)]) (rest := [vI r8]) rfl lk_3_22 rfl rfl rfl (Nat.le_of_ble_eq_true rfl) ?_
        refine c_along (Or.inl rfl) hb11 hb11.2.2.1 hb11.2.2.2 (fun r9 e9 => ?_)
        show WS _ M_Line_overlaps 79 [vR 11 0, vR 12 0, vI r5, vI r6] [vI r9, vI r8] σ _
        refine WS.run (C := []) (pc' := 81) (L' := [vR 11 0, vR 12 0, vI r5, vI r6]) (S' := [vI r6, vI r5, vI r9, vI r8]) (σ' := σ) 2 rfl trivial ?_
        refine WS.mmaxT rfl lkm_3_59 (Nat.le_of_ble_eq_true rfl) (fun r10 e10 => ?_)
        refine WS.mminT rfl lkm_3_54 (Nat.le_of_ble_eq_true rfl) (fun r11 e11 => ?_)
        refine WS.br (P := r11 ≤ r8) (a := 94) (b := 90) (S' := []) rfl (fun c12 => ?_) (fun c12 => ?_)
        · refine WS.run (C := []) (pc' := 95) (L' := [vR 11 0, vR 12 0, vI r5, vI r6]) (S' := [vI (0 : Int32)]) (σ' := σ) 1 rfl trivial ?_
          exact WS.ret rfl rfl (by decide) rfl (by simp only [t_le, t_lt, t_eq, t_0, lnC, sdL, alL, overZ] at *; exact h0 (by omega))
        · refine WS.run (C := []) (pc' := 95) (L' := [vR 11 0, vR 12 0, vI r5, vI r6]) (S' := [vI (1 : Int32)]) (σ' := σ) 2 rfl trivial ?_
          exact WS.ret rfl rfl (by decide) rfl (by simp only [t_le, t_lt, t_eq, t_0, lnC, sdL, alL, overZ] at *; exact h1 (by omega))
      · refine WS.run (C := []) (pc' := 31) (L' := [vR 11 0, vR 12 0, vU, vU]) (S' := [vI (0 : Int32)]) (σ' := σ) 1 rfl trivial ?_
        exact WS.ret rfl rfl (by decide) rfl (by simp only [t_le, t_lt, t_eq, t_0, lnC, sdL, alL, overZ] at *; exact h0 (by omega))
    · refine WS.run (C := []) (pc' := 31) (L' := [vR 11 0, vR 12 0, vU, vU]) (S' := [vI (0 : Int32)]) (σ' := σ) 1 rfl trivial ?_
      exact WS.ret rfl rfl (by decide) rfl (by simp only [t_le, t_lt, t_eq, t_0, lnC, sdL, alL, overZ] at *; exact h0 (by omega))
  · have hb12 := hb
    have hb11 := hb2
    refine MM.of ok_Line_overlaps rfl ?_
    show WS _ M_Line_overlaps 0 [vR 12 0, vR 11 0, vU, vU] [] σ _
    refine WS.run (C := []) (pc' := 9) (L' := [vR 12 0, vR 11 0, vU, vU]) (S' := [vI (gI σ 11 0 1), vI (gI σ 11 0 0), vR 12 0]) (σ' := σ) 5 rfl trivial ?_
    refine WS.callV M_Line_side (k := 12) (i := 0) (as := [vI (gI σ 11 0 0), vI (gI σ 11 0 1)]) (rest := []) rfl lk_3_36 rfl rfl rfl (Nat.le_of_ble_eq_true rfl) ?_
    refine c_side (Or.inr (Or.inl rfl)) hb12 hb11.1 hb11.2.1 (fun r1 e1 => ?_)
    show WS _ M_Line_overlaps 12 [vR 12 0, vR 11 0, vU, vU] [vI r1] σ _
    refine WS.br (P := r1 = 0) (a := 15) (b := 30) (S' := []) rfl (fun c2 => ?_) (fun c2 => ?_)
    · refine WS.run (C := []) (pc' := 24) (L' := [vR 12 0, vR 11 0, vU, vU]) (S' := [vI (gI σ 11 0 3), vI (gI σ 11 0 2), vR 12 0]) (σ' := σ) 5 rfl trivial ?_
      refine WS.callV M_Line_side (k := 12) (i := 0) (as := [vI (gI σ 11 0 2), vI (gI σ 11 0 3)]) (rest := []) rfl lk_3_36 rfl rfl rfl (Nat.le_of_ble_eq_true rfl) ?_
      refine c_side (Or.inr (Or.inl rfl)) hb12 hb11.2.2.1 hb11.2.2.2 (fun r3 e3 => ?_)
      show WS _ M_Line_overlaps 27 [vR 12 0, vR 11 0, vU, vU] [vI r3] σ _
      refine WS.br (P := r3 = 0) (a := 32) (b := 30) (S' := []) rfl (fun c4 => ?_) (fun c4 => ?_)
      · refine WS.run (C := []) (pc' := 41) (L' := [vR 12 0, vR 11 0, vU, vU]) (S' := [vI (gI σ 11 0 1), vI (gI σ 11 0 0), vR 12 0]) (σ' := σ) 5 rfl trivial ?_
        refine WS.callV M_Line_along (k := 12) (i := 0) (as := [vI (gI σ 11 0 0), vI (gI σ 11 0 1)]) (rest := []) rfl lk_3_22 rfl rfl rfl (Nat.le_of_ble_eq_true rfl) ?_
        refine c_along (Or.inr (Or.inl rfl)) hb12 hb11.1 hb11.2.1 (fun r5 e5 => ?_)
        show WS _ M_Line_overlaps 44 [vR 12 0, vR 11 0, vU, vU] [vI r5] σ _
        refine WS.run (C := []) (pc' := 54) (L' := [vR 12 0, vR 11 0, vI r5, vU]) (S' := [vI (gI σ 11 0 3), vI (gI σ 11 0 2), vR 12 0]) (σ' := σ) 6 rfl trivial ?_
        refine WS.callV M_Line_along (k := 12) (i := 0) (as := [vI (gI σ 11 0 2), vI (gI σ 11 0 3)]) (rest := []) rfl lk_3_22 rfl rfl rfl (Nat.le_of_ble_eq_true rfl) ?_
        refine c_along (Or.inr (Or.inl rfl)) hb12 hb11.2.2.1 hb11.2.2.2 (fun r6 e6 => ?_)
        show WS _ M_Line_overlaps 57 [vR 12 0, vR 11 0, vI r5, vU] [vI r6] σ _
        refine WS.run (C := []) (pc' := 61) (L' := [vR 12 0, vR 11 0, vI r5, vI r6]) (S' := [vI r6, vI r5, vI (0 : Int32)]) (σ' := σ) 4 rfl trivial ?_
        refine WS.mminT rfl lkm_3_54 (Nat.le_of_ble_eq_true rfl) (fun r7 e7 => ?_)
        refine WS.mmaxT rfl lkm_3_59 (Nat.le_of_ble_eq_true rfl) (fun r8 e8 => ?_)
        refine WS.run (C := []) (pc' := 76) (L' := [vR 12 0, vR 11 0, vI r5, vI r6]) (S' := [vI (gI σ 12 0 3), vI (gI σ 12 0 2), vR 12 0, vI r8]) (σ' := σ) 5 rfl trivial ?_
        refine WS.callV M_Line_along (k := 12) (i := 0) (as := [vI (gI σ 12 0 2), vI (gI σ 12 0 3)]) (rest := [vI r8]) rfl lk_3_22 rfl rfl rfl (Nat.le_of_ble_eq_true rfl) ?_
        refine c_along (Or.inr (Or.inl rfl)) hb12 hb12.2.2.1 hb12.2.2.2 (fun r9 e9 => ?_)
        show WS _ M_Line_overlaps 79 [vR 12 0, vR 11 0, vI r5, vI r6] [vI r9, vI r8] σ _
        refine WS.run (C := []) (pc' := 81) (L' := [vR 12 0, vR 11 0, vI r5, vI r6]) (S' := [vI r6, vI r5, vI r9, vI r8]) (σ' := σ) 2 rfl trivial ?_
        refine WS.mmaxT rfl lkm_3_59 (Nat.le_of_ble_eq_true rfl) (fun r10 e10 => ?_)
        refine WS.mminT rfl lkm_3_54 (Nat.le_of_ble_eq_true rfl) (fun r11 e11 => ?_)
        refine WS.br (P := r11 ≤ r8) (a := 94) (b := 90) (S' := []) rfl (fun c12 => ?_) (fun c12 => ?_)
        · refine WS.run (C := []) (pc' := 95) (L' := [vR 12 0, vR 11 0, vI r5, vI r6]) (S' := [vI (0 : Int32)]) (σ' := σ) 1 rfl trivial ?_
          exact WS.ret rfl rfl (by decide) rfl (by simp only [t_le, t_lt, t_eq, t_0, lnC, sdL, alL, overZ] at *; exact h0 (by omega))
        · refine WS.run (C := []) (pc' := 95) (L' := [vR 12 0, vR 11 0, vI r5, vI r6]) (S' := [vI (1 : Int32)]) (σ' := σ) 2 rfl trivial ?_
          exact WS.ret rfl rfl (by decide) rfl (by simp only [t_le, t_lt, t_eq, t_0, lnC, sdL, alL, overZ] at *; exact h1 (by omega))
      · refine WS.run (C := []) (pc' := 31) (L' := [vR 12 0, vR 11 0, vU, vU]) (S' := [vI (0 : Int32)]) (σ' := σ) 1 rfl trivial ?_
        exact WS.ret rfl rfl (by decide) rfl (by simp only [t_le, t_lt, t_eq, t_0, lnC, sdL, alL, overZ] at *; exact h0 (by omega))
    · refine WS.run (C := []) (pc' := 31) (L' := [vR 12 0, vR 11 0, vU, vU]) (S' := [vI (0 : Int32)]) (σ' := σ) 1 rfl trivial ?_
      exact WS.ret rfl rfl (by decide) rfl (by simp only [t_le, t_lt, t_eq, t_0, lnC, sdL, alL, overZ] at *; exact h0 (by omega))
set_option maxRecDepth 4000 in
set_option maxHeartbeats 400000 in
theorem c_crosses {d : Nat} {σ : Mem} {Post : Option AV → Mem → Prop} {k k2 : Nat} (hk : (k = 11 ∧ k2 = 12) ∨ (k = 12 ∧ k2 = 11)) (hb : lnB (lnC σ k)) (hb2 : lnB (lnC σ k2)) (h1 : crossZ (lnC σ k) (lnC σ k2) → Post (some (vI 1)) σ) (h0 : ¬ crossZ (lnC σ k) (lnC σ k2) → Post (some (vI 0)) σ) : MM (d + 2) M_Line_crosses [vR k 0, vR k2 0] σ Post := by
  rcases hk with ⟨rfl, rfl⟩ | ⟨rfl, rfl⟩
  · have hb11 := hb
    have hb12 := hb2
    refine MM.of ok_Line_crosses rfl ?_
    show WS _ M_Line_crosses 0 [vR 11 0, vR 12 0] [] σ _
    refine WS.run (C := []) (pc' := 2) (L' := [vR 11 0, vR 12 0]) (S' := [vR 12 0, vR 11 0]) (σ' := σ) 2 rfl trivial ?_
    refine WS.callV M_Line_cuts (k := 11) (i := 0) (as := [vR 12 0]) (rest := []) rfl lk_3_46 rfl rfl rfl (Nat.le_of_ble_eq_true rfl) ?_
    refine c_cuts (Or.inl ⟨rfl, rfl⟩) hb11 hb12 (fun q1 => ?_) (fun q1 => ?_)
    · show WS _ M_Line_crosses 5 [vR 11 0, vR 12 0] [vI (1 : Int32)] σ _
      refine WS.br (P := (1 : Int32) = 0) (a := 8) (b := 16) (S' := []) rfl (fun cc => absurd cc (by decide)) (fun _ => ?_)
      refine WS.run (C := []) (pc' := 21) (L' := [vR 11 0, vR 12 0]) (S' := [vI (1 : Int32)]) (σ' := σ) 2 rfl trivial ?_
      exact WS.ret rfl rfl (by decide) rfl (h1 (Or.inl q1))
    · show WS _ M_Line_crosses 5 [vR 11 0, vR 12 0] [vI (0 : Int32)] σ _
      refine WS.br (P := (0 : Int32) = 0) (a := 8) (b := 16) (S' := []) rfl (fun _ => ?_) (fun cc => absurd (by decide) cc)
      refine WS.run (C := []) (pc' := 10) (L' := [vR 11 0, vR 12 0]) (S' := [vR 12 0, vR 11 0]) (σ' := σ) 2 rfl trivial ?_
      refine WS.callV M_Line_overlaps (k := 11) (i := 0) (as := [vR 12 0]) (rest := []) rfl lk_3_62 rfl rfl rfl (Nat.le_of_ble_eq_true rfl) ?_
      refine c_overlaps (Or.inl ⟨rfl, rfl⟩) hb11 hb12 (fun q2 => ?_) (fun q2 => ?_)
      · show WS _ M_Line_crosses 13 [vR 11 0, vR 12 0] [vI (1 : Int32)] σ _
        refine WS.br (P := (1 : Int32) = 0) (a := 20) (b := 16) (S' := []) rfl (fun cc => absurd cc (by decide)) (fun _ => ?_)
        refine WS.run (C := []) (pc' := 21) (L' := [vR 11 0, vR 12 0]) (S' := [vI (1 : Int32)]) (σ' := σ) 2 rfl trivial ?_
        exact WS.ret rfl rfl (by decide) rfl (h1 (Or.inr q2))
      · show WS _ M_Line_crosses 13 [vR 11 0, vR 12 0] [vI (0 : Int32)] σ _
        refine WS.br (P := (0 : Int32) = 0) (a := 20) (b := 16) (S' := []) rfl (fun _ => ?_) (fun cc => absurd (by decide) cc)
        refine WS.run (C := []) (pc' := 21) (L' := [vR 11 0, vR 12 0]) (S' := [vI (0 : Int32)]) (σ' := σ) 1 rfl trivial ?_
        exact WS.ret rfl rfl (by decide) rfl (h0 (fun z => z.elim q1 q2))
  · have hb12 := hb
    have hb11 := hb2
    refine MM.of ok_Line_crosses rfl ?_
    show WS _ M_Line_crosses 0 [vR 12 0, vR 11 0] [] σ _
    refine WS.run (C := []) (pc' := 2) (L' := [vR 12 0, vR 11 0]) (S' := [vR 11 0, vR 12 0]) (σ' := σ) 2 rfl trivial ?_
    refine WS.callV M_Line_cuts (k := 12) (i := 0) (as := [vR 11 0]) (rest := []) rfl lk_3_46 rfl rfl rfl (Nat.le_of_ble_eq_true rfl) ?_
    refine c_cuts (Or.inr ⟨rfl, rfl⟩) hb12 hb11 (fun q1 => ?_) (fun q1 => ?_)
    · show WS _ M_Line_crosses 5 [vR 12 0, vR 11 0] [vI (1 : Int32)] σ _
      refine WS.br (P := (1 : Int32) = 0) (a := 8) (b := 16) (S' := []) rfl (fun cc => absurd cc (by decide)) (fun _ => ?_)
      refine WS.run (C := []) (pc' := 21) (L' := [vR 12 0, vR 11 0]) (S' := [vI (1 : Int32)]) (σ' := σ) 2 rfl trivial ?_
      exact WS.ret rfl rfl (by decide) rfl (h1 (Or.inl q1))
    · show WS _ M_Line_crosses 5 [vR 12 0, vR 11 0] [vI (0 : Int32)] σ _
      refine WS.br (P := (0 : Int32) = 0) (a := 8) (b := 16) (S' := []) rfl (fun _ => ?_) (fun cc => absurd (by decide) cc)
      refine WS.run (C := []) (pc' := 10) (L' := [vR 12 0, vR 11 0]) (S' := [vR 11 0, vR 12 0]) (σ' := σ) 2 rfl trivial ?_
      refine WS.callV M_Line_overlaps (k := 12) (i := 0) (as := [vR 11 0]) (rest := []) rfl lk_3_62 rfl rfl rfl (Nat.le_of_ble_eq_true rfl) ?_
      refine c_overlaps (Or.inr ⟨rfl, rfl⟩) hb12 hb11 (fun q2 => ?_) (fun q2 => ?_)
      · show WS _ M_Line_crosses 13 [vR 12 0, vR 11 0] [vI (1 : Int32)] σ _
        refine WS.br (P := (1 : Int32) = 0) (a := 20) (b := 16) (S' := []) rfl (fun cc => absurd cc (by decide)) (fun _ => ?_)
        refine WS.run (C := []) (pc' := 21) (L' := [vR 12 0, vR 11 0]) (S' := [vI (1 : Int32)]) (σ' := σ) 2 rfl trivial ?_
        exact WS.ret rfl rfl (by decide) rfl (h1 (Or.inr q2))
      · show WS _ M_Line_crosses 13 [vR 12 0, vR 11 0] [vI (0 : Int32)] σ _
        refine WS.br (P := (0 : Int32) = 0) (a := 20) (b := 16) (S' := []) rfl (fun _ => ?_) (fun cc => absurd (by decide) cc)
        refine WS.run (C := []) (pc' := 21) (L' := [vR 12 0, vR 11 0]) (S' := [vI (0 : Int32)]) (σ' := σ) 1 rfl trivial ?_
        exact WS.ret rfl rfl (by decide) rfl (h0 (fun z => z.elim q1 q2))
/-- a line and what is within a box (the class's way) -/
def entZ (l : Ln) (a b c e : Int) : Prop := ¬ (max l.1 l.2.2.1 ≤ a ∨ c ≤ min l.1 l.2.2.1 ∨ max l.2.1 l.2.2.2 ≤ b ∨ e ≤ min l.2.1 l.2.2.2) ∧ ((l.1 = l.2.2.1 ∧ l.2.1 = l.2.2.2) ∨ ((sdL l a b < 0 ∨ sdL l a e < 0 ∨ sdL l c b < 0 ∨ sdL l c e < 0) ∧ (0 < sdL l a b ∨ 0 < sdL l a e ∨ 0 < sdL l c b ∨ 0 < sdL l c e)))
set_option maxRecDepth 4000 in
set_option maxHeartbeats 400000 in
theorem c_enters {d : Nat} {σ : Mem} {Post : Option AV → Mem → Prop} {a b c e : Int32} (hb : lnB (lnC σ 40)) (ha : co a.toInt) (hb2 : co b.toInt) (hc : co c.toInt) (he : co e.toInt) (h1 : entZ (lnC σ 40) a.toInt b.toInt c.toInt e.toInt → Post (some (vI 1)) σ) (h0 : ¬ entZ (lnC σ 40) a.toInt b.toInt c.toInt e.toInt → Post (some (vI 0)) σ) : MM (d + 1) M_Line_enters [vR 40 0, vI a, vI b, vI c, vI e] σ Post := by
  refine MM.of ok_Line_enters rfl ?_
  show WS _ M_Line_enters 0 [vR 40 0, vI a, vI b, vI c, vI e, vU, vU, vU, vU] [] σ _
  refine WS.run (C := []) (pc' := 8) (L' := [vR 40 0, vI a, vI b, vI c, vI e, vU, vU, vU, vU]) (S' := [vI (gI σ 40 0 2), vI (gI σ 40 0 0)]) (σ' := σ) 4 rfl trivial ?_
  refine WS.mmaxT rfl lkm_3_59 (Nat.le_of_ble_eq_true rfl) (fun r1 e1 => ?_)
  refine WS.run (C := []) (pc' := 12) (L' := [vR 40 0, vI a, vI b, vI c, vI e, vU, vU, vU, vU]) (S' := [vI a, vI r1]) (σ' := σ) 1 rfl trivial ?_
  refine WS.br (P := r1 ≤ a) (a := 61) (b := 15) (S' := []) rfl (fun c2 => ?_) (fun c2 => ?_)
  · refine WS.run (C := []) (pc' := 62) (L' := [vR 40 0, vI a, vI b, vI c, vI e, vU, vU, vU, vU]) (S' := [vI (0 : Int32)]) (σ' := σ) 1 rfl trivial ?_
    exact WS.ret rfl rfl (by decide) rfl (by simp only [t_le, t_lt, t_eq, t_0, lnC, entZ] at *; exact h0 (by omega))
  · refine WS.run (C := []) (pc' := 23) (L' := [vR 40 0, vI a, vI b, vI c, vI e, vU, vU, vU, vU]) (S' := [vI (gI σ 40 0 2), vI (gI σ 40 0 0)]) (σ' := σ) 4 rfl trivial ?_
    refine WS.mminT rfl lkm_3_54 (Nat.le_of_ble_eq_true rfl) (fun r3 e3 => ?_)
    refine WS.run (C := []) (pc' := 27) (L' := [vR 40 0, vI a, vI b, vI c, vI e, vU, vU, vU, vU]) (S' := [vI c, vI r3]) (σ' := σ) 1 rfl trivial ?_
    refine WS.br (P := c ≤ r3) (a := 61) (b := 30) (S' := []) rfl (fun c4 => ?_) (fun c4 => ?_)
    · refine WS.run (C := []) (pc' := 62) (L' := [vR 40 0, vI a, vI b, vI c, vI e, vU, vU, vU, vU]) (S' := [vI (0 : Int32)]) (σ' := σ) 1 rfl trivial ?_
      exact WS.ret rfl rfl (by decide) rfl (by simp only [t_le, t_lt, t_eq, t_0, lnC, entZ] at *; exact h0 (by omega))
    · refine WS.run (C := []) (pc' := 38) (L' := [vR 40 0, vI a, vI b, vI c, vI e, vU, vU, vU, vU]) (S' := [vI (gI σ 40 0 3), vI (gI σ 40 0 1)]) (σ' := σ) 4 rfl trivial ?_
      refine WS.mmaxT rfl lkm_3_59 (Nat.le_of_ble_eq_true rfl) (fun r5 e5 => ?_)
      refine WS.run (C := []) (pc' := 42) (L' := [vR 40 0, vI a, vI b, vI c, vI e, vU, vU, vU, vU]) (S' := [vI b, vI r5]) (σ' := σ) 1 rfl trivial ?_
      refine WS.br (P := r5 ≤ b) (a := 61) (b := 45) (S' := []) rfl (fun c6 => ?_) (fun c6 => ?_)
      · refine WS.run (C := []) (pc' := 62) (L' := [vR 40 0, vI a, vI b, vI c, vI e, vU, vU, vU, vU]) (S' := [vI (0 : Int32)]) (σ' := σ) 1 rfl trivial ?_
        exact WS.ret rfl rfl (by decide) rfl (by simp only [t_le, t_lt, t_eq, t_0, lnC, entZ] at *; exact h0 (by omega))
      · refine WS.run (C := []) (pc' := 53) (L' := [vR 40 0, vI a, vI b, vI c, vI e, vU, vU, vU, vU]) (S' := [vI (gI σ 40 0 3), vI (gI σ 40 0 1)]) (σ' := σ) 4 rfl trivial ?_
        refine WS.mminT rfl lkm_3_54 (Nat.le_of_ble_eq_true rfl) (fun r7 e7 => ?_)
        refine WS.run (C := []) (pc' := 58) (L' := [vR 40 0, vI a, vI b, vI c, vI e, vU, vU, vU, vU]) (S' := [vI e, vI r7]) (σ' := σ) 1 rfl trivial ?_
        refine WS.br (P := r7 < e) (a := 63) (b := 61) (S' := []) rfl (fun c8 => ?_) (fun c8 => ?_)
        · refine WS.run (C := []) (pc' := 71) (L' := [vR 40 0, vI a, vI b, vI c, vI e, vU, vU, vU, vU]) (S' := [vI (gI σ 40 0 2), vI (gI σ 40 0 0)]) (σ' := σ) 4 rfl trivial ?_
          refine WS.br (P := (gI σ 40 0 0) = (gI σ 40 0 2)) (a := 74) (b := 87) (S' := []) rfl (fun c9 => ?_) (fun c9 => ?_)
          · refine WS.run (C := []) (pc' := 82) (L' := [vR 40 0, vI a, vI b, vI c, vI e, vU, vU, vU, vU]) (S' := [vI (gI σ 40 0 3), vI (gI σ 40 0 1)]) (σ' := σ) 4 rfl trivial ?_
            refine WS.br (P := (gI σ 40 0 1) = (gI σ 40 0 3)) (a := 85) (b := 87) (S' := []) rfl (fun c10 => ?_) (fun c10 => ?_)
            · refine WS.run (C := []) (pc' := 86) (L' := [vR 40 0, vI a, vI b, vI c, vI e, vU, vU, vU, vU]) (S' := [vI (1 : Int32)]) (σ' := σ) 1 rfl trivial ?_
              exact WS.ret rfl rfl (by decide) rfl (by simp only [t_le, t_lt, t_eq, t_0, lnC, entZ] at *; exact h1 (by omega))
            · refine WS.run (C := []) (pc' := 90) (L' := [vR 40 0, vI a, vI b, vI c, vI e, vU, vU, vU, vU]) (S' := [vI b, vI a, vR 40 0]) (σ' := σ) 3 rfl trivial ?_
              refine WS.callV M_Line_side (k := 40) (i := 0) (as := [vI a, vI b]) (rest := []) rfl lk_3_36 rfl rfl rfl (Nat.le_of_ble_eq_true rfl) ?_
              refine c_side (Or.inr (Or.inr rfl)) hb ha hb2 (fun r11 e11 => ?_)
              show WS _ M_Line_enters 93 [vR 40 0, vI a, vI b, vI c, vI e, vU, vU, vU, vU] [vI r11] σ _
              refine WS.run (C := []) (pc' := 99) (L' := [vR 40 0, vI a, vI b, vI c, vI e, vI r11, vU, vU, vU]) (S' := [vI e, vI a, vR 40 0]) (σ' := σ) 4 rfl trivial ?_
              refine WS.callV M_Line_side (k := 40) (i := 0) (as := [vI a, vI e]) (rest := []) rfl lk_3_36 rfl rfl rfl (Nat.le_of_ble_eq_true rfl) ?_
              refine c_side (Or.inr (Or.inr rfl)) hb ha he (fun r12 e12 => ?_)
              show WS _ M_Line_enters 102 [vR 40 0, vI a, vI b, vI c, vI e, vI r11, vU, vU, vU] [vI r12] σ _
              refine WS.run (C := []) (pc' := 107) (L' := [vR 40 0, vI a, vI b, vI c, vI e, vI r11, vI r12, vU, vU]) (S' := [vI b, vI c, vR 40 0]) (σ' := σ) 4 rfl trivial ?_
              refine WS.callV M_Line_side (k := 40) (i := 0) (as := [vI c, vI b]) (rest := []) rfl lk_3_36 rfl rfl rfl (Nat.le_of_ble_eq_true rfl) ?_
              refine c_side (Or.inr (Or.inr rfl)) hb hc hb2 (fun r13 e13 => ?_)
              show WS _ M_Line_enters 110 [vR 40 0, vI a, vI b, vI c, vI e, vI r11, vI r12, vU, vU] [vI r13] σ _
              refine WS.run (C := []) (pc' := 116) (L' := [vR 40 0, vI a, vI b, vI c, vI e, vI r11, vI r12, vI r13, vU]) (S' := [vI e, vI c, vR 40 0]) (σ' := σ) 4 rfl trivial ?_
              refine WS.callV M_Line_side (k := 40) (i := 0) (as := [vI c, vI e]) (rest := []) rfl lk_3_36 rfl rfl rfl (Nat.le_of_ble_eq_true rfl) ?_
              refine c_side (Or.inr (Or.inr rfl)) hb hc he (fun r14 e14 => ?_)
              show WS _ M_Line_enters 119 [vR 40 0, vI a, vI b, vI c, vI e, vI r11, vI r12, vI r13, vU] [vI r14] σ _
              refine WS.run (C := []) (pc' := 125) (L' := [vR 40 0, vI a, vI b, vI c, vI e, vI r11, vI r12, vI r13, vI r14]) (S' := [vI r12, vI r11]) (σ' := σ) 3 rfl trivial ?_
              refine WS.mminT rfl lkm_3_54 (Nat.le_of_ble_eq_true rfl) (fun r15 e15 => ?_)
              refine WS.run (C := []) (pc' := 132) (L' := [vR 40 0, vI a, vI b, vI c, vI e, vI r11, vI r12, vI r13, vI r14]) (S' := [vI r14, vI r13, vI r15]) (σ' := σ) 2 rfl trivial ?_
              refine WS.mminT rfl lkm_3_54 (Nat.le_of_ble_eq_true rfl) (fun r16 e16 => ?_)
              refine WS.mminT rfl lkm_3_54 (Nat.le_of_ble_eq_true rfl) (fun r17 e17 => ?_)
              refine WS.br (P := 0 ≤ r17) (a := 165) (b := 141) (S' := []) rfl (fun c18 => ?_) (fun c18 => ?_)
              · refine WS.run (C := []) (pc' := 166) (L' := [vR 40 0, vI a, vI b, vI c, vI e, vI r11, vI r12, vI r13, vI r14]) (S' := [vI (0 : Int32)]) (σ' := σ) 1 rfl trivial ?_
                exact WS.ret rfl rfl (by decide) rfl (by simp only [t_le, t_lt, t_eq, t_0, lnC, entZ] at *; exact h0 (by omega))
              · refine WS.run (C := []) (pc' := 145) (L' := [vR 40 0, vI a, vI b, vI c, vI e, vI r11, vI r12, vI r13, vI r14]) (S' := [vI r12, vI r11]) (σ' := σ) 2 rfl trivial ?_
                refine WS.mmaxT rfl lkm_3_59 (Nat.le_of_ble_eq_true rfl) (fun r19 e19 => ?_)
                refine WS.run (C := []) (pc' := 152) (L' := [vR 40 0, vI a, vI b, vI c, vI e, vI r11, vI r12, vI r13, vI r14]) (S' := [vI r14, vI r13, vI r19]) (σ' := σ) 2 rfl trivial ?_
                refine WS.mmaxT rfl lkm_3_59 (Nat.le_of_ble_eq_true rfl) (fun r20 e20 => ?_)
                refine WS.mmaxT rfl lkm_3_59 (Nat.le_of_ble_eq_true rfl) (fun r21 e21 => ?_)
                refine WS.br (P := r21 ≤ 0) (a := 165) (b := 161) (S' := []) rfl (fun c22 => ?_) (fun c22 => ?_)
                · refine WS.run (C := []) (pc' := 166) (L' := [vR 40 0, vI a, vI b, vI c, vI e, vI r11, vI r12, vI r13, vI r14]) (S' := [vI (0 : Int32)]) (σ' := σ) 1 rfl trivial ?_
                  exact WS.ret rfl rfl (by decide) rfl (by simp only [t_le, t_lt, t_eq, t_0, lnC, entZ] at *; exact h0 (by omega))
                · refine WS.run (C := []) (pc' := 166) (L' := [vR 40 0, vI a, vI b, vI c, vI e, vI r11, vI r12, vI r13, vI r14]) (S' := [vI (1 : Int32)]) (σ' := σ) 2 rfl trivial ?_
                  exact WS.ret rfl rfl (by decide) rfl (by simp only [t_le, t_lt, t_eq, t_0, lnC, entZ] at *; exact h1 (by omega))
          · refine WS.run (C := []) (pc' := 90) (L' := [vR 40 0, vI a, vI b, vI c, vI e, vU, vU, vU, vU]) (S' := [vI b, vI a, vR 40 0]) (σ' := σ) 3 rfl trivial ?_
            refine WS.callV M_Line_side (k := 40) (i := 0) (as := [vI a, vI b]) (rest := []) rfl lk_3_36 rfl rfl rfl (Nat.le_of_ble_eq_true rfl) ?_
            refine c_side (Or.inr (Or.inr rfl)) hb ha hb2 (fun r23 e23 => ?_)
            show WS _ M_Line_enters 93 [vR 40 0, vI a, vI b, vI c, vI e, vU, vU, vU, vU] [vI r23] σ _
            refine WS.run (C := []) (pc' := 99) (L' := [vR 40 0, vI a, vI b, vI c, vI e, vI r23, vU, vU, vU]) (S' := [vI e, vI a, vR 40 0]) (σ' := σ) 4 rfl trivial ?_
            refine WS.callV M_Line_side (k := 40) (i := 0) (as := [vI a, vI e]) (rest := []) rfl lk_3_36 rfl rfl rfl (Nat.le_of_ble_eq_true rfl) ?_
            refine c_side (Or.inr (Or.inr rfl)) hb ha he (fun r24 e24 => ?_)
            show WS _ M_Line_enters 102 [vR 40 0, vI a, vI b, vI c, vI e, vI r23, vU, vU, vU] [vI r24] σ _
            refine WS.run (C := []) (pc' := 107) (L' := [vR 40 0, vI a, vI b, vI c, vI e, vI r23, vI r24, vU, vU]) (S' := [vI b, vI c, vR 40 0]) (σ' := σ) 4 rfl trivial ?_
            refine WS.callV M_Line_side (k := 40) (i := 0) (as := [vI c, vI b]) (rest := []) rfl lk_3_36 rfl rfl rfl (Nat.le_of_ble_eq_true rfl) ?_
            refine c_side (Or.inr (Or.inr rfl)) hb hc hb2 (fun r25 e25 => ?_)
            show WS _ M_Line_enters 110 [vR 40 0, vI a, vI b, vI c, vI e, vI r23, vI r24, vU, vU] [vI r25] σ _
            refine WS.run (C := []) (pc' := 116) (L' := [vR 40 0, vI a, vI b, vI c, vI e, vI r23, vI r24, vI r25, vU]) (S' := [vI e, vI c, vR 40 0]) (σ' := σ) 4 rfl trivial ?_
            refine WS.callV M_Line_side (k := 40) (i := 0) (as := [vI c, vI e]) (rest := []) rfl lk_3_36 rfl rfl rfl (Nat.le_of_ble_eq_true rfl) ?_
            refine c_side (Or.inr (Or.inr rfl)) hb hc he (fun r26 e26 => ?_)
            show WS _ M_Line_enters 119 [vR 40 0, vI a, vI b, vI c, vI e, vI r23, vI r24, vI r25, vU] [vI r26] σ _
            refine WS.run (C := []) (pc' := 125) (L' := [vR 40 0, vI a, vI b, vI c, vI e, vI r23, vI r24, vI r25, vI r26]) (S' := [vI r24, vI r23]) (σ' := σ) 3 rfl trivial ?_
            refine WS.mminT rfl lkm_3_54 (Nat.le_of_ble_eq_true rfl) (fun r27 e27 => ?_)
            refine WS.run (C := []) (pc' := 132) (L' := [vR 40 0, vI a, vI b, vI c, vI e, vI r23, vI r24, vI r25, vI r26]) (S' := [vI r26, vI r25, vI r27]) (σ' := σ) 2 rfl trivial ?_
            refine WS.mminT rfl lkm_3_54 (Nat.le_of_ble_eq_true rfl) (fun r28 e28 => ?_)
            refine WS.mminT rfl lkm_3_54 (Nat.le_of_ble_eq_true rfl) (fun r29 e29 => ?_)
            refine WS.br (P := 0 ≤ r29) (a := 165) (b := 141) (S' := []) rfl (fun c30 => ?_) (fun c30 => ?_)
            · refine WS.run (C := []) (pc' := 166) (L' := [vR 40 0, vI a, vI b, vI c, vI e, vI r23, vI r24, vI r25, vI r26]) (S' := [vI (0 : Int32)]) (σ' := σ) 1 rfl trivial ?_
              exact WS.ret rfl rfl (by decide) rfl (by simp only [t_le, t_lt, t_eq, t_0, lnC, entZ] at *; exact h0 (by omega))
            · refine WS.run (C := []) (pc' := 145) (L' := [vR 40 0, vI a, vI b, vI c, vI e, vI r23, vI r24, vI r25, vI r26]) (S' := [vI r24, vI r23]) (σ' := σ) 2 rfl trivial ?_
              refine WS.mmaxT rfl lkm_3_59 (Nat.le_of_ble_eq_true rfl) (fun r31 e31 => ?_)
              refine WS.run (C := []) (pc' := 152) (L' := [vR 40 0, vI a, vI b, vI c, vI e, vI r23, vI r24, vI r25, vI r26]) (S' := [vI r26, vI r25, vI r31]) (σ' := σ) 2 rfl trivial ?_
              refine WS.mmaxT rfl lkm_3_59 (Nat.le_of_ble_eq_true rfl) (fun r32 e32 => ?_)
              refine WS.mmaxT rfl lkm_3_59 (Nat.le_of_ble_eq_true rfl) (fun r33 e33 => ?_)
              refine WS.br (P := r33 ≤ 0) (a := 165) (b := 161) (S' := []) rfl (fun c34 => ?_) (fun c34 => ?_)
              · refine WS.run (C := []) (pc' := 166) (L' := [vR 40 0, vI a, vI b, vI c, vI e, vI r23, vI r24, vI r25, vI r26]) (S' := [vI (0 : Int32)]) (σ' := σ) 1 rfl trivial ?_
                exact WS.ret rfl rfl (by decide) rfl (by simp only [t_le, t_lt, t_eq, t_0, lnC, entZ] at *; exact h0 (by omega))
              · refine WS.run (C := []) (pc' := 166) (L' := [vR 40 0, vI a, vI b, vI c, vI e, vI r23, vI r24, vI r25, vI r26]) (S' := [vI (1 : Int32)]) (σ' := σ) 2 rfl trivial ?_
                exact WS.ret rfl rfl (by decide) rfl (by simp only [t_le, t_lt, t_eq, t_0, lnC, entZ] at *; exact h1 (by omega))
        · refine WS.run (C := []) (pc' := 62) (L' := [vR 40 0, vI a, vI b, vI c, vI e, vU, vU, vU, vU]) (S' := [vI (0 : Int32)]) (σ' := σ) 1 rfl trivial ?_
          exact WS.ret rfl rfl (by decide) rfl (by simp only [t_le, t_lt, t_eq, t_0, lnC, entZ] at *; exact h0 (by omega))
