/-! first contracts -/
set_option maxRecDepth 4000 in
theorem c_inRange {d : Nat} {v m : Int32} {σ : Mem} {Post : Option AV → Mem → Prop} (h1 : 0 ≤ v → v ≤ m → Post (some (vI 1)) σ) (h0 : ¬ (0 ≤ v ∧ v ≤ m) → Post (some (vI 0)) σ) : MM d M_TM_inRange [vI v, vI m] σ Post := by
  refine MM.of ok_TM_inRange rfl ?_
  show WS _ M_TM_inRange 0 [vI v, vI m] [] σ _
  refine WS.run (C := []) (pc' := 1) (L' := [vI v, vI m]) (S' := [vI v]) (σ' := σ) 1 rfl trivial ?_
  refine WS.br (P := v < 0) (a := 13) (b := 4) (S' := []) rfl (fun c1 => ?_) (fun c1 => ?_)
  · refine WS.run (C := []) (pc' := 14) (L' := [vI v, vI m]) (S' := [vI (0 : Int32)]) (σ' := σ) 1 rfl trivial ?_
    exact WS.ret rfl rfl (by decide) rfl (by first | exact h1 (Int32.not_lt.mp ‹_›) ‹_› | exact h0 (fun q => by first | exact absurd q.1 (Int32.not_le.mpr ‹_›) | exact absurd q.2 ‹_›))
  · refine WS.run (C := []) (pc' := 6) (L' := [vI v, vI m]) (S' := [vI m, vI v]) (σ' := σ) 2 rfl trivial ?_
    refine WS.br (P := m < v) (a := 13) (b := 9) (S' := []) rfl (fun c2 => ?_) (fun c2 => ?_)
    · refine WS.run (C := []) (pc' := 14) (L' := [vI v, vI m]) (S' := [vI (0 : Int32)]) (σ' := σ) 1 rfl trivial ?_
      exact WS.ret rfl rfl (by decide) rfl (by first | exact h1 (Int32.not_lt.mp ‹_›) ‹_› | exact h0 (fun q => by first | exact absurd q.1 (Int32.not_le.mpr ‹_›) | exact absurd q.2 ‹_›))
    · refine WS.run (C := []) (pc' := 14) (L' := [vI v, vI m]) (S' := [vI (1 : Int32)]) (σ' := σ) 2 rfl trivial ?_
      exact WS.ret rfl rfl (by decide) rfl (by first | exact h1 (Int32.not_lt.mp ‹_›) ‹_› | exact h0 (fun q => by first | exact absurd q.1 (Int32.not_le.mpr ‹_›) | exact absurd q.2 ‹_›))
set_option maxRecDepth 4000 in
theorem c_side11 {d : Nat} {x y : Int32} {σ : Mem} {Post : Option AV → Mem → Prop} (h : Post (some (vI ((gI σ 11 0 2 - gI σ 11 0 0) * (y - gI σ 11 0 1) - (gI σ 11 0 3 - gI σ 11 0 1) * (x - gI σ 11 0 0)))) σ) : MM d M_Line_side [vR 11 0, vI x, vI y] σ Post := by
  refine MM.of ok_Line_side rfl ?_
  show WS _ M_Line_side 0 [vR 11 0, vI x, vI y] [] σ _
  refine WS.run (C := []) (pc' := 33) (L' := [vR 11 0, vI x, vI y]) (S' := [vI (((gI σ 11 0 2 - gI σ 11 0 0) * (y - gI σ 11 0 1)) - ((gI σ 11 0 3 - gI σ 11 0 1) * (x - gI σ 11 0 0)))]) (σ' := σ) 21 rfl trivial ?_
  exact WS.ret rfl rfl (by decide) rfl h
