/-! contracts: ranges, lines -/
set_option maxRecDepth 4000 in
set_option maxHeartbeats 400000 in
theorem c_inRange {d : Nat} {σ : Mem} {Post : Option AV → Mem → Prop} {v m : Int32} (h1 : 0 ≤ v.toInt → v.toInt ≤ m.toInt → Post (some (vI 1)) σ) (h0 : ¬ (0 ≤ v.toInt ∧ v.toInt ≤ m.toInt) → Post (some (vI 0)) σ) : MM d M_TM_inRange [vI v, vI m] σ Post := by
  refine MM.of ok_TM_inRange rfl ?_
  show WS _ M_TM_inRange 0 [vI v, vI m] [] σ _
  refine WS.run (C := []) (pc' := 1) (L' := [vI v, vI m]) (S' := [vI v]) (σ' := σ) 1 rfl trivial ?_
  refine WS.br (P := v < 0) (a := 13) (b := 4) (S' := []) rfl (fun c1 => ?_) (fun c1 => ?_)
  · refine WS.run (C := []) (pc' := 14) (L' := [vI v, vI m]) (S' := [vI (0 : Int32)]) (σ' := σ) 1 rfl trivial ?_
    exact WS.ret rfl rfl (by decide) rfl (by simp only [t_lt, t_le, t_eq, t_0] at *; exact h0 (by omega))
  · refine WS.run (C := []) (pc' := 6) (L' := [vI v, vI m]) (S' := [vI m, vI v]) (σ' := σ) 2 rfl trivial ?_
    refine WS.br (P := m < v) (a := 13) (b := 9) (S' := []) rfl (fun c2 => ?_) (fun c2 => ?_)
    · refine WS.run (C := []) (pc' := 14) (L' := [vI v, vI m]) (S' := [vI (0 : Int32)]) (σ' := σ) 1 rfl trivial ?_
      exact WS.ret rfl rfl (by decide) rfl (by simp only [t_lt, t_le, t_eq, t_0] at *; exact h0 (by omega))
    · refine WS.run (C := []) (pc' := 14) (L' := [vI v, vI m]) (S' := [vI (1 : Int32)]) (σ' := σ) 2 rfl trivial ?_
      exact WS.ret rfl rfl (by decide) rfl (by simp only [t_lt, t_le, t_eq, t_0] at *; exact h1 (by omega) (by omega))
theorem t_400 : (400 : Int32).toInt = 400 := by decide
set_option maxRecDepth 4000 in
set_option maxHeartbeats 400000 in
theorem c_isPlace {d : Nat} {σ : Mem} {Post : Option AV → Mem → Prop} {x y : Int32} (h1 : co x.toInt → co y.toInt → Post (some (vI 1)) σ) (h0 : ¬ (co x.toInt ∧ co y.toInt) → Post (some (vI 0)) σ) : MM (d + 1) M_TM_isPlace [vI x, vI y] σ Post := by
  refine MM.of ok_TM_isPlace rfl ?_
  show WS _ M_TM_isPlace 0 [vI x, vI y] [] σ _
  refine WS.run (C := []) (pc' := 4) (L' := [vI x, vI y]) (S' := [vI (400 : Int32), vI x]) (σ' := σ) 2 rfl trivial ?_
  refine WS.callS M_TM_inRange (as := [vI x, vI (400 : Int32)]) (rest := []) rfl lk_10_71 rfl rfl (Nat.le_of_ble_eq_true rfl) ?_
  refine c_inRange (fun q1a q1b => ?_) (fun q1 => ?_)
  · show WS _ M_TM_isPlace 7 [vI x, vI y] [vI (1 : Int32)] σ _
    refine WS.br (P := (1 : Int32) = 0) (a := 24) (b := 10) (S' := []) rfl (fun cc => absurd cc (by decide)) (fun _ => ?_)
    refine WS.run (C := []) (pc' := 14) (L' := [vI x, vI y]) (S' := [vI (400 : Int32), vI y]) (σ' := σ) 2 rfl trivial ?_
    refine WS.callS M_TM_inRange (as := [vI y, vI (400 : Int32)]) (rest := []) rfl lk_10_71 rfl rfl (Nat.le_of_ble_eq_true rfl) ?_
    refine c_inRange (fun q2a q2b => ?_) (fun q2 => ?_)
    · show WS _ M_TM_isPlace 17 [vI x, vI y] [vI (1 : Int32)] σ _
      refine WS.br (P := (1 : Int32) = 0) (a := 24) (b := 20) (S' := []) rfl (fun cc => absurd cc (by decide)) (fun _ => ?_)
      refine WS.run (C := []) (pc' := 25) (L' := [vI x, vI y]) (S' := [vI (1 : Int32)]) (σ' := σ) 2 rfl trivial ?_
      exact WS.ret rfl rfl (by decide) rfl (by simp only [t_400] at *; exact h1 ⟨by assumption, by assumption⟩ ⟨by assumption, by assumption⟩)
    · show WS _ M_TM_isPlace 17 [vI x, vI y] [vI (0 : Int32)] σ _
      refine WS.br (P := (0 : Int32) = 0) (a := 24) (b := 20) (S' := []) rfl (fun _ => ?_) (fun cc => absurd (by decide) cc)
      refine WS.run (C := []) (pc' := 25) (L' := [vI x, vI y]) (S' := [vI (0 : Int32)]) (σ' := σ) 1 rfl trivial ?_
      exact WS.ret rfl rfl (by decide) rfl (by simp only [t_400] at *; exact h0 (by unfold co; omega))
  · show WS _ M_TM_isPlace 7 [vI x, vI y] [vI (0 : Int32)] σ _
    refine WS.br (P := (0 : Int32) = 0) (a := 24) (b := 10) (S' := []) rfl (fun _ => ?_) (fun cc => absurd (by decide) cc)
    refine WS.run (C := []) (pc' := 25) (L' := [vI x, vI y]) (S' := [vI (0 : Int32)]) (σ' := σ) 1 rfl trivial ?_
    exact WS.ret rfl rfl (by decide) rfl (by simp only [t_400] at *; exact h0 (by unfold co; omega))
set_option maxRecDepth 4000 in
set_option maxHeartbeats 400000 in
theorem c_areTwo {d : Nat} {σ : Mem} {Post : Option AV → Mem → Prop} {a b : Int32} {n : Nat} (hn : n < 100) (hm : 0 < n) (h1 : ∀ i j : Nat, i < n → j < n → i ≠ j → a = nI i → b = nI j → Post (some (vI 1)) σ) (h0 : ¬ (0 ≤ a.toInt ∧ a.toInt < n ∧ 0 ≤ b.toInt ∧ b.toInt < n ∧ a ≠ b) → Post (some (vI 0)) σ) : MM (d + 1) M_TM_areTwo [vI a, vI b, vI (nI n)] σ Post := by
  have en : (nI n - 1).toInt = (n : Int) - 1 := by rw [t_sub] <;> rw [nI_t (by omega), t_1] <;> omega
  refine MM.of ok_TM_areTwo rfl ?_
  show WS _ M_TM_areTwo 0 [vI a, vI b, vI (nI n)] [] σ _
  refine WS.run (C := []) (pc' := 4) (L' := [vI a, vI b, vI (nI n)]) (S' := [vI ((nI n) - (1 : Int32)), vI a]) (σ' := σ) 4 rfl trivial ?_
  refine WS.callS M_TM_inRange (as := [vI a, vI ((nI n) - (1 : Int32))]) (rest := []) rfl lk_10_71 rfl rfl (Nat.le_of_ble_eq_true rfl) ?_
  refine c_inRange (fun q1a q1b => ?_) (fun q1 => ?_)
  · show WS _ M_TM_areTwo 7 [vI a, vI b, vI (nI n)] [vI (1 : Int32)] σ _
    refine WS.br (P := (1 : Int32) = 0) (a := 29) (b := 10) (S' := []) rfl (fun cc => absurd cc (by decide)) (fun _ => ?_)
    refine WS.run (C := []) (pc' := 14) (L' := [vI a, vI b, vI (nI n)]) (S' := [vI ((nI n) - (1 : Int32)), vI b]) (σ' := σ) 4 rfl trivial ?_
    refine WS.callS M_TM_inRange (as := [vI b, vI ((nI n) - (1 : Int32))]) (rest := []) rfl lk_10_71 rfl rfl (Nat.le_of_ble_eq_true rfl) ?_
    refine c_inRange (fun q2a q2b => ?_) (fun q2 => ?_)
    · show WS _ M_TM_areTwo 17 [vI a, vI b, vI (nI n)] [vI (1 : Int32)] σ _
      refine WS.br (P := (1 : Int32) = 0) (a := 29) (b := 20) (S' := []) rfl (fun cc => absurd cc (by decide)) (fun _ => ?_)
      refine WS.run (C := []) (pc' := 22) (L' := [vI a, vI b, vI (nI n)]) (S' := [vI b, vI a]) (σ' := σ) 2 rfl trivial ?_
      refine WS.br (P := a = b) (a := 29) (b := 25) (S' := []) rfl (fun c3 => ?_) (fun c3 => ?_)
      · refine WS.run (C := []) (pc' := 30) (L' := [vI a, vI b, vI (nI n)]) (S' := [vI (0 : Int32)]) (σ' := σ) 1 rfl trivial ?_
        exact WS.ret rfl rfl (by decide) rfl (h0 (by rw [en] at *; rintro ⟨z1, z2, z3, z4, z5⟩; first | omega | contradiction))
      · refine WS.run (C := []) (pc' := 30) (L' := [vI a, vI b, vI (nI n)]) (S' := [vI (1 : Int32)]) (σ' := σ) 2 rfl trivial ?_
        exact WS.ret rfl rfl (by decide) rfl (by
    rw [en] at *
    obtain ⟨i, hi, rfl⟩ := t_nat (x := a) (n := n - 1) (by assumption) (by omega) (by omega)
    obtain ⟨j, hj, rfl⟩ := t_nat (x := b) (n := n - 1) (by assumption) (by omega) (by omega)
    exact h1 i j (by omega) (by omega) (fun q => by subst q; contradiction) rfl rfl)
    · show WS _ M_TM_areTwo 17 [vI a, vI b, vI (nI n)] [vI (0 : Int32)] σ _
      refine WS.br (P := (0 : Int32) = 0) (a := 29) (b := 20) (S' := []) rfl (fun _ => ?_) (fun cc => absurd (by decide) cc)
      refine WS.run (C := []) (pc' := 30) (L' := [vI a, vI b, vI (nI n)]) (S' := [vI (0 : Int32)]) (σ' := σ) 1 rfl trivial ?_
      exact WS.ret rfl rfl (by decide) rfl (h0 (by rw [en] at *; rintro ⟨z1, z2, z3, z4, z5⟩; first | omega | contradiction))
  · show WS _ M_TM_areTwo 7 [vI a, vI b, vI (nI n)] [vI (0 : Int32)] σ _
    refine WS.br (P := (0 : Int32) = 0) (a := 29) (b := 10) (S' := []) rfl (fun _ => ?_) (fun cc => absurd (by decide) cc)
    refine WS.run (C := []) (pc' := 30) (L' := [vI a, vI b, vI (nI n)]) (S' := [vI (0 : Int32)]) (σ' := σ) 1 rfl trivial ?_
    exact WS.ret rfl rfl (by decide) rfl (h0 (by rw [en] at *; rintro ⟨z1, z2, z3, z4, z5⟩; first | omega | contradiction))
def lnC (σ : Mem) (k : Nat) : Ln := ((gI σ k 0 0).toInt, (gI σ k 0 1).toInt, (gI σ k 0 2).toInt, (gI σ k 0 3).toInt)
def isLn (k : Nat) : Prop := k = 11 ∨ k = 12 ∨ k = 40
def sdL (l : Ln) (x y : Int) : Int := sd l.1 l.2.1 l.2.2.1 l.2.2.2 x y
def alL (l : Ln) (x y : Int) : Int := al l.1 l.2.1 l.2.2.1 l.2.2.2 x y
set_option maxRecDepth 4000 in
set_option maxHeartbeats 400000 in
theorem c_side {d : Nat} {σ : Mem} {Post : Option AV → Mem → Prop} {x y : Int32} {k : Nat} (hk : isLn k) (hb : lnB (lnC σ k)) (hx : co x.toInt) (hy : co y.toInt) (h : ∀ r : Int32, r.toInt = sdL (lnC σ k) x.toInt y.toInt → Post (some (vI r)) σ) : MM d M_Line_side [vR k 0, vI x, vI y] σ Post := by
  rcases hk with rfl | rfl | rfl
  · refine MM.of ok_Line_side rfl ?_
    show WS _ M_Line_side 0 [vR 11 0, vI x, vI y] [] σ _
    refine WS.run (C := []) (pc' := 33) (L' := [vR 11 0, vI x, vI y]) (S' := [vI (((gI σ 11 0 2 - gI σ 11 0 0) * (y - gI σ 11 0 1)) - ((gI σ 11 0 3 - gI σ 11 0 1) * (x - gI σ 11 0 0)))]) (σ' := σ) 21 rfl trivial ?_
    exact WS.ret rfl rfl (by decide) rfl (h _ (sd_ok hb.1 hb.2.1 hb.2.2.1 hb.2.2.2 hx hy))
  · refine MM.of ok_Line_side rfl ?_
    show WS _ M_Line_side 0 [vR 12 0, vI x, vI y] [] σ _
    refine WS.run (C := []) (pc' := 33) (L' := [vR 12 0, vI x, vI y]) (S' := [vI (((gI σ 12 0 2 - gI σ 12 0 0) * (y - gI σ 12 0 1)) - ((gI σ 12 0 3 - gI σ 12 0 1) * (x - gI σ 12 0 0)))]) (σ' := σ) 21 rfl trivial ?_
    exact WS.ret rfl rfl (by decide) rfl (h _ (sd_ok hb.1 hb.2.1 hb.2.2.1 hb.2.2.2 hx hy))
  · refine MM.of ok_Line_side rfl ?_
    show WS _ M_Line_side 0 [vR 40 0, vI x, vI y] [] σ _
    refine WS.run (C := []) (pc' := 33) (L' := [vR 40 0, vI x, vI y]) (S' := [vI (((gI σ 40 0 2 - gI σ 40 0 0) * (y - gI σ 40 0 1)) - ((gI σ 40 0 3 - gI σ 40 0 1) * (x - gI σ 40 0 0)))]) (σ' := σ) 21 rfl trivial ?_
    exact WS.ret rfl rfl (by decide) rfl (h _ (sd_ok hb.1 hb.2.1 hb.2.2.1 hb.2.2.2 hx hy))
set_option maxRecDepth 4000 in
set_option maxHeartbeats 400000 in
theorem c_along {d : Nat} {σ : Mem} {Post : Option AV → Mem → Prop} {x y : Int32} {k : Nat} (hk : isLn k) (hb : lnB (lnC σ k)) (hx : co x.toInt) (hy : co y.toInt) (h : ∀ r : Int32, r.toInt = alL (lnC σ k) x.toInt y.toInt → Post (some (vI r)) σ) : MM d M_Line_along [vR k 0, vI x, vI y] σ Post := by
  rcases hk with rfl | rfl | rfl
  · refine MM.of ok_Line_along rfl ?_
    show WS _ M_Line_along 0 [vR 11 0, vI x, vI y] [] σ _
    refine WS.run (C := []) (pc' := 33) (L' := [vR 11 0, vI x, vI y]) (S' := [vI (((gI σ 11 0 2 - gI σ 11 0 0) * (x - gI σ 11 0 0)) + ((gI σ 11 0 3 - gI σ 11 0 1) * (y - gI σ 11 0 1)))]) (σ' := σ) 21 rfl trivial ?_
    exact WS.ret rfl rfl (by decide) rfl (h _ (al_ok hb.1 hb.2.1 hb.2.2.1 hb.2.2.2 hx hy))
  · refine MM.of ok_Line_along rfl ?_
    show WS _ M_Line_along 0 [vR 12 0, vI x, vI y] [] σ _
    refine WS.run (C := []) (pc' := 33) (L' := [vR 12 0, vI x, vI y]) (S' := [vI (((gI σ 12 0 2 - gI σ 12 0 0) * (x - gI σ 12 0 0)) + ((gI σ 12 0 3 - gI σ 12 0 1) * (y - gI σ 12 0 1)))]) (σ' := σ) 21 rfl trivial ?_
    exact WS.ret rfl rfl (by decide) rfl (h _ (al_ok hb.1 hb.2.1 hb.2.2.1 hb.2.2.2 hx hy))
  · refine MM.of ok_Line_along rfl ?_
    show WS _ M_Line_along 0 [vR 40 0, vI x, vI y] [] σ _
    refine WS.run (C := []) (pc' := 33) (L' := [vR 40 0, vI x, vI y]) (S' := [vI (((gI σ 40 0 2 - gI σ 40 0 0) * (x - gI σ 40 0 0)) + ((gI σ 40 0 3 - gI σ 40 0 1) * (y - gI σ 40 0 1)))]) (σ' := σ) 21 rfl trivial ?_
    exact WS.ret rfl rfl (by decide) rfl (h _ (al_ok hb.1 hb.2.1 hb.2.2.1 hb.2.2.2 hx hy))
set_option maxRecDepth 4000 in
set_option maxHeartbeats 400000 in
theorem c_squareBetween {d : Nat} {σ : Mem} {Post : Option AV → Mem → Prop} {a b c e : Int32} (ha : co a.toInt) (hb : co b.toInt) (hc : co c.toInt) (he : co e.toInt) (h : ∀ r : Int32, r.toInt = dd a.toInt b.toInt c.toInt e.toInt → Post (some (vI r)) σ) : MM d M_Line_squareBetween [vI a, vI b, vI c, vI e] σ Post := by
  refine MM.of ok_Line_squareBetween rfl ?_
  show WS _ M_Line_squareBetween 0 [vI a, vI b, vI c, vI e] [] σ _
  refine WS.run (C := []) (pc' := 15) (L' := [vI a, vI b, vI c, vI e]) (S' := [vI (((a - c) * (a - c)) + ((b - e) * (b - e)))]) (σ' := σ) 15 rfl trivial ?_
  exact WS.ret rfl rfl (by decide) rfl (h _ (dd_ok ha hb hc he))
theorem lg_t (x y : Int64) : (lg_cmp x y).toInt = (x.toInt - y.toInt).sign := by
  unfold lg_cmp
  by_cases h1 : x > y
  · rw [if_pos h1]; have h1 := (j_lt _ _).mp h1; rw [Int.sign_eq_one_of_pos (by omega)]; decide
  · rw [if_neg h1]; have h1 : ¬ y.toInt < x.toInt := fun q => h1 ((j_lt y x).mpr q)
    by_cases h2 : x = y
    · rw [if_pos h2, h2]; simp
    · rw [if_neg h2]; rw [j_eq] at h2; rw [Int.sign_eq_neg_one_of_neg (by omega)]; decide
theorem sgn_lt {z : Int} : z.sign < 0 ↔ z < 0 := by
  rcases Int.lt_trichotomy z 0 with h | h | h
  · rw [Int.sign_eq_neg_one_of_neg h]; omega
  · rw [h]; simp
  · rw [Int.sign_eq_one_of_pos h]; omega
theorem sgn_gt {z : Int} : 0 < z.sign ↔ 0 < z := by
  rcases Int.lt_trichotomy z 0 with h | h | h
  · rw [Int.sign_eq_neg_one_of_neg h]; omega
  · rw [h]; simp
  · rw [Int.sign_eq_one_of_pos h]; omega
theorem sgn_eq {z : Int} : z.sign = 0 ↔ z = 0 := Int.sign_eq_zero_iff_zero
theorem sgn_3 (z : Int) : z.sign = -1 ∨ z.sign = 0 ∨ z.sign = 1 := by
  rcases Int.lt_trichotomy z 0 with h | h | h
  · rw [Int.sign_eq_neg_one_of_neg h]; omega
  · rw [h]; simp
  · rw [Int.sign_eq_one_of_pos h]; omega
theorem lg_lt {x y : Int64} : lg_cmp x y < 0 ↔ x.toInt < y.toInt := by rw [t_lt, lg_t, t_0, sgn_lt]; omega
theorem lg_eq {x y : Int64} : lg_cmp x y = 0 ↔ x.toInt = y.toInt := by rw [t_eq, lg_t, t_0, sgn_eq]; omega
theorem lg_le {x y : Int64} : 0 ≤ lg_cmp x y ↔ y.toInt ≤ x.toInt := by rw [← Int32.not_lt, lg_lt]; omega
theorem lg_pos {x y : Int64} : 0 < lg_cmp x y ↔ y.toInt < x.toInt := by rw [t_lt, lg_t, t_0, sgn_gt]; omega
theorem lg_np {x y : Int64} : lg_cmp x y ≤ 0 ↔ x.toInt ≤ y.toInt := by rw [← Int32.not_lt, lg_pos]; omega
theorem t_m1 : (-1 : Int32).toInt = -1 := by decide
set_option maxRecDepth 4000 in
set_option maxHeartbeats 400000 in
theorem c_Jcompare {d : Nat} {σ : Mem} {Post : Option AV → Mem → Prop} {x y : Int64} (h : ∀ r : Int32, r.toInt = (x.toInt - y.toInt).sign → Post (some (vI r)) σ) : MM d M_JLong_compare [vJ x, vJ y] σ Post := by
  refine MM.of ok_JLong_compare rfl ?_
  show WS _ M_JLong_compare 0 [vJ x, vU, vJ y, vU] [] σ _
  refine WS.run (C := []) (pc' := 3) (L' := [vJ x, vU, vJ y, vU]) (S' := [vI (lg_cmp x y)]) (σ' := σ) 3 rfl trivial ?_
  refine WS.br (P := 0 ≤ (lg_cmp x y)) (a := 10) (b := 6) (S' := []) rfl (fun c1 => ?_) (fun c1 => ?_)
  · refine WS.run (C := []) (pc' := 13) (L' := [vJ x, vU, vJ y, vU]) (S' := [vI (lg_cmp x y)]) (σ' := σ) 3 rfl trivial ?_
    refine WS.br (P := (lg_cmp x y) = 0) (a := 16) (b := 20) (S' := []) rfl (fun c2 => ?_) (fun c2 => ?_)
    · refine WS.run (C := []) (pc' := 21) (L' := [vJ x, vU, vJ y, vU]) (S' := [vI (0 : Int32)]) (σ' := σ) 2 rfl trivial ?_
      exact WS.ret rfl rfl (by decide) rfl (h _ (by simp only [lg_lt, lg_eq, lg_le] at *; rcases sgn_3 (x.toInt - y.toInt) with q | q | q <;> rw [q] <;> have q1 := sgn_lt (z := x.toInt - y.toInt) <;> have q2 := sgn_eq (z := x.toInt - y.toInt) <;> first | decide | (exfalso; omega)))
    · refine WS.run (C := []) (pc' := 21) (L' := [vJ x, vU, vJ y, vU]) (S' := [vI (1 : Int32)]) (σ' := σ) 1 rfl trivial ?_
      exact WS.ret rfl rfl (by decide) rfl (h _ (by simp only [lg_lt, lg_eq, lg_le] at *; rcases sgn_3 (x.toInt - y.toInt) with q | q | q <;> rw [q] <;> have q1 := sgn_lt (z := x.toInt - y.toInt) <;> have q2 := sgn_eq (z := x.toInt - y.toInt) <;> first | decide | (exfalso; omega)))
  · refine WS.run (C := []) (pc' := 21) (L' := [vJ x, vU, vJ y, vU]) (S' := [vI (-1 : Int32)]) (σ' := σ) 2 rfl trivial ?_
    exact WS.ret rfl rfl (by decide) rfl (h _ (by simp only [lg_lt, lg_eq, lg_le] at *; rcases sgn_3 (x.toInt - y.toInt) with q | q | q <;> rw [q] <;> have q1 := sgn_lt (z := x.toInt - y.toInt) <;> have q2 := sgn_eq (z := x.toInt - y.toInt) <;> first | decide | (exfalso; omega)))
