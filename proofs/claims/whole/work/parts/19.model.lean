/-! contracts: the geometry of the model -/
def mX (σ : Mem) (i : Nat) : Int := (gI σ 56 0 i).toInt
def mY (σ : Mem) (i : Nat) : Int := (gI σ 57 0 i).toInt
def mP (σ : Mem) (a : Nat) : Prop := a < 240 ∧ co (mX σ a) ∧ co (mY σ a)
def lnM (σ : Mem) (a b : Nat) : Ln := (mX σ a, mY σ a, mX σ b, mY σ b)
theorem lnM_B {σ : Mem} {a b : Nat} (ha : mP σ a) (hb : mP σ b) : lnB (lnM σ a b) := ⟨ha.2.1, ha.2.2, hb.2.1, hb.2.2⟩
theorem j_co {x y : Int32} (hx : co x.toInt) (hy : co y.toInt) : (x - y).toInt64.toInt = x.toInt - y.toInt := by rw [j_of, co_sub hx hy]
theorem j_cop {a b c e : Int32} (ha : co a.toInt) (hb : co b.toInt) (hc : co c.toInt) (he : co e.toInt) : ((a - b).toInt64 * (c - e).toInt64).toInt = (a.toInt - b.toInt) * (c.toInt - e.toInt) := by
  have h := co_mul ha hb hc he
  rw [j_mul, j_co ha hb, j_co hc he] <;> rw [j_co ha hb, j_co hc he] <;> omega
theorem crossJ {x1 y1 x2 y2 x y : Int32} (h1 : co x1.toInt) (h2 : co y1.toInt) (h3 : co x2.toInt) (h4 : co y2.toInt) (h5 : co x.toInt) (h6 : co y.toInt) : ((x2 - x1).toInt64 * (y - y1).toInt64 - (y2 - y1).toInt64 * (x - x1).toInt64).toInt = sd x1.toInt y1.toInt x2.toInt y2.toInt x.toInt y.toInt := by
  have a1 := co_mul h3 h1 h6 h2
  have a2 := co_mul h4 h2 h5 h1
  have e1 := j_cop h3 h1 h6 h2
  have e2 := j_cop h4 h2 h5 h1
  rw [j_sub (by rw [e1, e2]; omega) (by rw [e1, e2]; omega), e1, e2]
  rfl
theorem alongJ {x1 y1 x2 y2 x y : Int32} (h1 : co x1.toInt) (h2 : co y1.toInt) (h3 : co x2.toInt) (h4 : co y2.toInt) (h5 : co x.toInt) (h6 : co y.toInt) : ((x - x1).toInt64 * (x2 - x1).toInt64 + (y - y1).toInt64 * (y2 - y1).toInt64).toInt = al x1.toInt y1.toInt x2.toInt y2.toInt x.toInt y.toInt := by
  have a1 := co_mul h5 h1 h3 h1
  have a2 := co_mul h6 h2 h4 h2
  have e1 := j_cop h5 h1 h3 h1
  have e2 := j_cop h6 h2 h4 h2
  rw [j_add (by rw [e1, e2]; omega) (by rw [e1, e2]; omega), e1, e2]
  unfold al
  rw [Int.mul_comm (x2.toInt - x1.toInt), Int.mul_comm (y2.toInt - y1.toInt)]
theorem dd_al (x1 y1 x2 y2 : Int) : dd x1 y1 x2 y2 = al x1 y1 x2 y2 x2 y2 := by unfold dd al; grind
set_option maxRecDepth 4000 in
set_option maxHeartbeats 400000 in
theorem c_Msquare {d : Nat} {σ : Mem} {Post : Option AV → Mem → Prop} {x : Int64} (hx : -3037000499 ≤ x.toInt ∧ x.toInt ≤ 3037000499) (h : ∀ r : Int64, r.toInt = x.toInt * x.toInt → Post (some (vJ r)) σ) : MM d M_MD_square [vJ x] σ Post := by
  refine MM.of ok_MD_square rfl ?_
  show WS _ M_MD_square 0 [vJ x, vU] [] σ _
  refine WS.run (C := []) (pc' := 3) (L' := [vJ x, vU]) (S' := [vJ (x * x)]) (σ' := σ) 3 rfl trivial ?_
  exact WS.lret rfl rfl (h _ (by have q := mul_bd (a := x.toInt) (b := x.toInt) (A := 3037000499) (B := 3037000499) hx.1 hx.2 hx.1 hx.2 (by omega) (by omega); exact j_mul (by omega) (by omega)))
theorem j_0 : (0 : Int64).toInt = 0 := by decide
set_option maxRecDepth 4000 in
set_option maxHeartbeats 400000 in
theorem c_MsignOf {d : Nat} {σ : Mem} {Post : Option AV → Mem → Prop} {x : Int64} (h : ∀ r : Int32, r.toInt = x.toInt.sign → Post (some (vI r)) σ) : MM d M_MD_signOf [vJ x] σ Post := by
  refine MM.of ok_MD_signOf rfl ?_
  show WS _ M_MD_signOf 0 [vJ x, vU] [] σ _
  refine WS.run (C := []) (pc' := 3) (L' := [vJ x, vU]) (S' := [vI (lg_cmp x (0 : Int64))]) (σ' := σ) 3 rfl trivial ?_
  refine WS.br (P := (lg_cmp x (0 : Int64)) ≤ 0) (a := 10) (b := 6) (S' := []) rfl (fun c1 => ?_) (fun c1 => ?_)
  · refine WS.run (C := []) (pc' := 13) (L' := [vJ x, vU]) (S' := [vI (lg_cmp x (0 : Int64))]) (σ' := σ) 3 rfl trivial ?_
    refine WS.br (P := 0 ≤ (lg_cmp x (0 : Int64))) (a := 20) (b := 16) (S' := []) rfl (fun c2 => ?_) (fun c2 => ?_)
    · refine WS.run (C := []) (pc' := 21) (L' := [vJ x, vU]) (S' := [vI (0 : Int32)]) (σ' := σ) 1 rfl trivial ?_
      exact WS.ret rfl rfl (by decide) rfl (h _ (by simp only [lg_lt, lg_eq, lg_le, lg_pos, lg_np, j_0] at *; rw [show x.toInt = 0 by omega]; decide))
    · refine WS.run (C := []) (pc' := 21) (L' := [vJ x, vU]) (S' := [vI (-1 : Int32)]) (σ' := σ) 2 rfl trivial ?_
      exact WS.ret rfl rfl (by decide) rfl (h _ (by simp only [lg_lt, lg_eq, lg_le, lg_pos, lg_np, j_0] at *; rw [Int.sign_eq_neg_one_of_neg (by omega)]; decide))
  · refine WS.run (C := []) (pc' := 21) (L' := [vJ x, vU]) (S' := [vI (1 : Int32)]) (σ' := σ) 2 rfl trivial ?_
    exact WS.ret rfl rfl (by decide) rfl (h _ (by simp only [lg_lt, lg_eq, lg_le, lg_pos, lg_np, j_0] at *; rw [Int.sign_eq_one_of_pos (by omega)]; decide))
set_option maxRecDepth 4000 in
set_option maxHeartbeats 400000 in
theorem c_Mcross {d : Nat} {σ : Mem} {Post : Option AV → Mem → Prop} {a b c : Nat} (ha : mP σ a) (hb : mP σ b) (hc : mP σ c) (h : ∀ r : Int64, r.toInt = sdL (lnM σ a b) (mX σ c) (mY σ c) → Post (some (vJ r)) σ) : MM d M_MD_cross [vR 51 0, vI (nI a), vI (nI b), vI (nI c)] σ Post := by
  have e_a : (nI a).toNatClampNeg = a := cl_n (by have := ha.1; omega)
  have e_b : (nI b).toNatClampNeg = b := cl_n (by have := hb.1; omega)
  have e_c : (nI c).toNatClampNeg = c := cl_n (by have := hc.1; omega)
  refine MM.of ok_MD_cross rfl ?_
  show WS _ M_MD_cross 0 [vR 51 0, vI (nI a), vI (nI b), vI (nI c)] [] σ _
  refine WS.run (C := [vp_in (nI b) 240, vp_in (nI a) 240, vp_in (nI c) 240, vp_in (nI a) 240, vp_in (nI b) 240, vp_in (nI a) 240, vp_in (nI c) 240, vp_in (nI a) 240]) (pc' := 59) (L' := [vR 51 0, vI (nI a), vI (nI b), vI (nI c)]) (S' := [vJ (((gI σ 56 0 (nI b).toNatClampNeg - gI σ 56 0 (nI a).toNatClampNeg).toInt64 * (gI σ 57 0 (nI c).toNatClampNeg - gI σ 57 0 (nI a).toNatClampNeg).toInt64) - ((gI σ 57 0 (nI b).toNatClampNeg - gI σ 57 0 (nI a).toNatClampNeg).toInt64 * (gI σ 56 0 (nI c).toNatClampNeg - gI σ 56 0 (nI a).toNatClampNeg).toInt64))]) (σ' := σ) 43 rfl ⟨(vp_n (by have := hb.1; omega) (by omega)), (vp_n (by have := ha.1; omega) (by omega)), (vp_n (by have := hc.1; omega) (by omega)), (vp_n (by have := ha.1; omega) (by omega)), (vp_n (by have := hb.1; omega) (by omega)), (vp_n (by have := ha.1; omega) (by omega)), (vp_n (by have := hc.1; omega) (by omega)), (vp_n (by have := ha.1; omega) (by omega)), trivial⟩ ?_
  simp only [e_a, e_b, e_c]
  exact WS.lret rfl rfl (h _ (crossJ ha.2.1 ha.2.2 hb.2.1 hb.2.2 hc.2.1 hc.2.2))
set_option maxRecDepth 4000 in
set_option maxHeartbeats 400000 in
theorem c_Mapart {d : Nat} {σ : Mem} {Post : Option AV → Mem → Prop} {a b : Nat} (ha : mP σ a) (hb : mP σ b) (h : ∀ r : Int64, r.toInt = dd (mX σ a) (mY σ a) (mX σ b) (mY σ b) → Post (some (vJ r)) σ) : MM (d + 1) M_MD_apart [vR 51 0, vI (nI a), vI (nI b)] σ Post := by
  have e_a : (nI a).toNatClampNeg = a := cl_n (by have := ha.1; omega)
  have e_b : (nI b).toNatClampNeg = b := cl_n (by have := hb.1; omega)
  have k1 : ((gI σ 56 0 a) - (gI σ 56 0 b)).toInt64.toInt = mX σ a - mX σ b := j_co ha.2.1 hb.2.1
  have k2 : ((gI σ 57 0 a) - (gI σ 57 0 b)).toInt64.toInt = mY σ a - mY σ b := j_co ha.2.2 hb.2.2
  obtain ⟨hax, hay⟩ := ha.2
  obtain ⟨hbx, hby⟩ := hb.2
  unfold co at hax hay hbx hby
  refine MM.of ok_MD_apart rfl ?_
  show WS _ M_MD_apart 0 [vR 51 0, vI (nI a), vI (nI b)] [] σ _
  refine WS.run (C := [vp_in (nI a) 240, vp_in (nI b) 240]) (pc' := 14) (L' := [vR 51 0, vI (nI a), vI (nI b)]) (S' := [vJ ((gI σ 56 0 (nI a).toNatClampNeg - gI σ 56 0 (nI b).toNatClampNeg).toInt64)]) (σ' := σ) 10 rfl ⟨(vp_n (by have := ha.1; omega) (by omega)), (vp_n (by have := hb.1; omega) (by omega)), trivial⟩ ?_
  simp only [e_a, e_b]
  refine WS.callS M_MD_square (as := [vJ ((gI σ 56 0 a - gI σ 56 0 b).toInt64)]) (rest := []) rfl lk_11_122 rfl rfl (Nat.le_of_ble_eq_true rfl) ?_
  refine c_Msquare (by rw [k1]; omega) (fun r1 e1 => ?_)
  show WS _ M_MD_apart 17 [vR 51 0, vI (nI a), vI (nI b)] [vJ r1] σ _
  refine WS.run (C := [vp_in (nI a) 240, vp_in (nI b) 240]) (pc' := 31) (L' := [vR 51 0, vI (nI a), vI (nI b)]) (S' := [vJ ((gI σ 57 0 (nI a).toNatClampNeg - gI σ 57 0 (nI b).toNatClampNeg).toInt64), vJ r1]) (σ' := σ) 10 rfl ⟨(vp_n (by have := ha.1; omega) (by omega)), (vp_n (by have := hb.1; omega) (by omega)), trivial⟩ ?_
  simp only [e_a, e_b]
  refine WS.callS M_MD_square (as := [vJ ((gI σ 57 0 a - gI σ 57 0 b).toInt64)]) (rest := [vJ r1]) rfl lk_11_122 rfl rfl (Nat.le_of_ble_eq_true rfl) ?_
  refine c_Msquare (by rw [k2]; omega) (fun r2 e2 => ?_)
  show WS _ M_MD_apart 34 [vR 51 0, vI (nI a), vI (nI b)] [vJ r2, vJ r1] σ _
  refine WS.run (C := []) (pc' := 35) (L' := [vR 51 0, vI (nI a), vI (nI b)]) (S' := [vJ (r1 + r2)]) (σ' := σ) 1 rfl trivial ?_
  exact WS.lret rfl rfl (h _ (by have q := dd_bd ha.2.1 ha.2.2 hb.2.1 hb.2.2; have q2 := sq_nn (mX σ a - mX σ b); have q3 := sq_nn (mY σ a - mY σ b); unfold dd at *; rw [j_add (by rw [e1, e2, k1, k2]; omega) (by rw [e1, e2, k1, k2]; omega), e1, e2, k1, k2]))
theorem fr_1 {l : Ln} {x y : Int} {u t : Int64} {T : Int32} (ht : 0 ≤ T.toInt ∧ T.toInt ≤ 100) (hb : lnB l) (hx : co x) (hy : co y) (eu : u.toInt = dd x y l.1 l.2.1) (et : t.toInt = T.toInt64.toInt * T.toInt64.toInt) (c : al l.1 l.2.1 l.2.2.1 l.2.2.2 x y ≤ 0) : (u - t).toInt = cmL l x y T.toInt := by
  have q := sq64 ht
  have d1 := dd_bd hx hy hb.1 hb.2.1
  rw [j_of] at et
  rw [j_sub (by rw [eu, et]; omega) (by rw [eu, et]; omega), eu, et]
  unfold cmL cmS
  rw [if_pos c]
theorem fr_2 {l : Ln} {x y : Int} {u t : Int64} {T : Int32} (ht : 0 ≤ T.toInt ∧ T.toInt ≤ 100) (hb : lnB l) (hx : co x) (hy : co y) (eu : u.toInt = dd x y l.2.2.1 l.2.2.2) (et : t.toInt = T.toInt64.toInt * T.toInt64.toInt) (c : ¬ al l.1 l.2.1 l.2.2.1 l.2.2.2 x y ≤ 0) (c2 : al l.1 l.2.1 l.2.2.1 l.2.2.2 l.2.2.1 l.2.2.2 ≤ al l.1 l.2.1 l.2.2.1 l.2.2.2 x y) : (u - t).toInt = cmL l x y T.toInt := by
  have q := sq64 ht
  have d1 := dd_bd hx hy hb.2.2.1 hb.2.2.2
  rw [j_of] at et
  rw [j_sub (by rw [eu, et]; omega) (by rw [eu, et]; omega), eu, et]
  unfold cmL cmS
  rw [if_neg c, if_pos c2]
theorem fr_3 {l : Ln} {x y : Int} {u v w t : Int64} {T : Int32} (ht : 0 ≤ T.toInt ∧ T.toInt ≤ 100) (hb : lnB l) (hx : co x) (hy : co y) (eu : u.toInt = sdL l x y) (ev : v.toInt = u.toInt * u.toInt) (et : t.toInt = T.toInt64.toInt * T.toInt64.toInt) (ew : w.toInt = al l.1 l.2.1 l.2.2.1 l.2.2.2 l.2.2.1 l.2.2.2) (c : ¬ al l.1 l.2.1 l.2.2.1 l.2.2.2 x y ≤ 0) (c2 : ¬ al l.1 l.2.1 l.2.2.1 l.2.2.2 l.2.2.1 l.2.2.2 ≤ al l.1 l.2.1 l.2.2.1 l.2.2.2 x y) : (v - t * w).toInt = cmL l x y T.toInt := by
  have q := sq64 ht
  have b1 := sd_bd hb.1 hb.2.1 hb.2.2.1 hb.2.2.2 hx hy
  have b2 := al_bd hb.1 hb.2.1 hb.2.2.1 hb.2.2.2 hb.2.2.1 hb.2.2.2
  unfold sdL at eu
  have m1 := mul_bd (a := u.toInt) (b := u.toInt) (A := 320000) (B := 320000) (by rw [eu]; exact b1.1) (by rw [eu]; exact b1.2) (by rw [eu]; exact b1.1) (by rw [eu]; exact b1.2) (by omega) (by omega)
  have m2 := mul_bd (a := T.toInt * T.toInt) (b := w.toInt) (A := 10000) (B := 320000) (by omega) (by omega) (by rw [ew]; exact b2.1) (by rw [ew]; exact b2.2) (by omega) (by omega)
  rw [j_of] at et
  have k2 : (t * w).toInt = T.toInt * T.toInt * w.toInt := by rw [j_mul, et] <;> rw [et] <;> omega
  rw [j_sub (by rw [ev, k2]; omega) (by rw [ev, k2]; omega), ev, k2, eu, ew]
  unfold cmL cmS
  rw [if_neg c, if_neg c2]
theorem al0 {x1 y1 x2 y2 x y : Int} (h : al x1 y1 x2 y2 x2 y2 = 0) : al x1 y1 x2 y2 x y ≤ 0 := by
  have q1 := sq_nn (x2 - x1)
  have q2 := sq_nn (y2 - y1)
  unfold al at h
  have e1 : (x2 - x1) * (x2 - x1) = 0 := by omega
  have e2 : (y2 - y1) * (y2 - y1) = 0 := by omega
  have f1 : x2 - x1 = 0 := by rcases Int.mul_eq_zero.mp e1 with h | h <;> exact h
  have f2 : y2 - y1 = 0 := by rcases Int.mul_eq_zero.mp e2 with h | h <;> exact h
  unfold al
  rw [f1, f2]
  simp
set_option maxRecDepth 4000 in
set_option maxHeartbeats 400000 in
theorem c_Mfar {d : Nat} {σ : Mem} {Post : Option AV → Mem → Prop} {p a b : Nat} {t : Int32} (hp : mP σ p) (ha : mP σ a) (hb : mP σ b) (ht : 0 ≤ t.toInt ∧ t.toInt ≤ 100) (h : ∀ r : Int32, r.toInt = (cmL (lnM σ a b) (mX σ p) (mY σ p) t.toInt).sign → Post (some (vI r)) σ) : MM (d + 2) M_MD_far [vR 51 0, vI (nI p), vI (nI a), vI (nI b), vI t] σ Post := by
  have e_p : (nI p).toNatClampNeg = p := cl_n (by have := hp.1; omega)
  have e_a : (nI a).toNatClampNeg = a := cl_n (by have := ha.1; omega)
  have e_b : (nI b).toNatClampNeg = b := cl_n (by have := hb.1; omega)
  have kal : (((gI σ 56 0 p) - (gI σ 56 0 a)).toInt64 * ((gI σ 56 0 b) - (gI σ 56 0 a)).toInt64 + ((gI σ 57 0 p) - (gI σ 57 0 a)).toInt64 * ((gI σ 57 0 b) - (gI σ 57 0 a)).toInt64).toInt = al (mX σ a) (mY σ a) (mX σ b) (mY σ b) (mX σ p) (mY σ p) := alongJ ha.2.1 ha.2.2 hb.2.1 hb.2.2 hp.2.1 hp.2.2
  obtain ⟨hT1, hT2⟩ := ht
  have ht : 0 ≤ t.toInt ∧ t.toInt ≤ 100 := ⟨hT1, hT2⟩
  refine MM.of ok_MD_far rfl ?_
  show WS _ M_MD_far 0 [vR 51 0, vI (nI p), vI (nI a), vI (nI b), vI t, vU, vU, vU, vU] [] σ _
  refine WS.run (C := []) (pc' := 3) (L' := [vR 51 0, vI (nI p), vI (nI a), vI (nI b), vI t, vU, vU, vU, vU]) (S' := [vI (nI b), vI (nI a), vR 51 0]) (σ' := σ) 3 rfl trivial ?_
  refine WS.callV M_MD_apart (k := 51) (i := 0) (as := [vI (nI a), vI (nI b)]) (rest := []) rfl lk_11_126 rfl rfl rfl (Nat.le_of_ble_eq_true rfl) ?_
  refine c_Mapart ha hb (fun r1 e1 => ?_)
  have e_all := e1
  rw [dd_al] at e_all
  show WS _ M_MD_far 6 [vR 51 0, vI (nI p), vI (nI a), vI (nI b), vI t, vU, vU, vU, vU] [vJ r1] σ _
  refine WS.run (C := [vp_in (nI p) 240, vp_in (nI a) 240, vp_in (nI b) 240, vp_in (nI a) 240, vp_in (nI p) 240, vp_in (nI a) 240, vp_in (nI b) 240, vp_in (nI a) 240]) (pc' := 73) (L' := [vR 51 0, vI (nI p), vI (nI a), vI (nI b), vI t, vJ r1, vU, vJ (((gI σ 56 0 (nI p).toNatClampNeg - gI σ 56 0 (nI a).toNatClampNeg).toInt64 * (gI σ 56 0 (nI b).toNatClampNeg - gI σ 56 0 (nI a).toNatClampNeg).toInt64) + ((gI σ 57 0 (nI p).toNatClampNeg - gI σ 57 0 (nI a).toNatClampNeg).toInt64 * (gI σ 57 0 (nI b).toNatClampNeg - gI σ 57 0 (nI a).toNatClampNeg).toInt64)), vU]) (S' := [vI (lg_cmp r1 (0 : Int64))]) (σ' := σ) 48 rfl ⟨(vp_n (by have := hp.1; omega) (by omega)), (vp_n (by have := ha.1; omega) (by omega)), (vp_n (by have := hb.1; omega) (by omega)), (vp_n (by have := ha.1; omega) (by omega)), (vp_n (by have := hp.1; omega) (by omega)), (vp_n (by have := ha.1; omega) (by omega)), (vp_n (by have := hb.1; omega) (by omega)), (vp_n (by have := ha.1; omega) (by omega)), trivial⟩ ?_
  simp only [e_a, e_b, e_p]
  refine WS.br (P := (lg_cmp r1 (0 : Int64)) = 0) (a := 83) (b := 76) (S' := []) rfl (fun c2 => ?_) (fun c2 => ?_)
  · refine WS.run (C := []) (pc' := 86) (L' := [vR 51 0, vI (nI p), vI (nI a), vI (nI b), vI t, vJ r1, vU, vJ (((gI σ 56 0 p - gI σ 56 0 a).toInt64 * (gI σ 56 0 b - gI σ 56 0 a).toInt64) + ((gI σ 57 0 p - gI σ 57 0 a).toInt64 * (gI σ 57 0 b - gI σ 57 0 a).toInt64)), vU]) (S' := [vI (nI a), vI (nI p), vR 51 0]) (σ' := σ) 3 rfl trivial ?_
    refine WS.callV M_MD_apart (k := 51) (i := 0) (as := [vI (nI p), vI (nI a)]) (rest := []) rfl lk_11_126 rfl rfl rfl (Nat.le_of_ble_eq_true rfl) ?_
    refine c_Mapart hp ha (fun r3 e3 => ?_)
    show WS _ M_MD_far 89 [vR 51 0, vI (nI p), vI (nI a), vI (nI b), vI t, vJ r1, vU, vJ (((gI σ 56 0 p - gI σ 56 0 a).toInt64 * (gI σ 56 0 b - gI σ 56 0 a).toInt64) + ((gI σ 57 0 p - gI σ 57 0 a).toInt64 * (gI σ 57 0 b - gI σ 57 0 a).toInt64)), vU] [vJ r3] σ _
    refine WS.run (C := []) (pc' := 92) (L' := [vR 51 0, vI (nI p), vI (nI a), vI (nI b), vI t, vJ r1, vU, vJ (((gI σ 56 0 p - gI σ 56 0 a).toInt64 * (gI σ 56 0 b - gI σ 56 0 a).toInt64) + ((gI σ 57 0 p - gI σ 57 0 a).toInt64 * (gI σ 57 0 b - gI σ 57 0 a).toInt64)), vU]) (S' := [vJ t.toInt64, vJ r3]) (σ' := σ) 2 rfl trivial ?_
    refine WS.callS M_MD_square (as := [vJ t.toInt64]) (rest := [vJ r3]) rfl lk_11_122 rfl rfl (Nat.le_of_ble_eq_true rfl) ?_
    refine c_Msquare (by rw [j_of]; omega) (fun r4 e4 => ?_)
    show WS _ M_MD_far 95 [vR 51 0, vI (nI p), vI (nI a), vI (nI b), vI t, vJ r1, vU, vJ (((gI σ 56 0 p - gI σ 56 0 a).toInt64 * (gI σ 56 0 b - gI σ 56 0 a).toInt64) + ((gI σ 57 0 p - gI σ 57 0 a).toInt64 * (gI σ 57 0 b - gI σ 57 0 a).toInt64)), vU] [vJ r4, vJ r3] σ _
    refine WS.run (C := []) (pc' := 96) (L' := [vR 51 0, vI (nI p), vI (nI a), vI (nI b), vI t, vJ r1, vU, vJ (((gI σ 56 0 p - gI σ 56 0 a).toInt64 * (gI σ 56 0 b - gI σ 56 0 a).toInt64) + ((gI σ 57 0 p - gI σ 57 0 a).toInt64 * (gI σ 57 0 b - gI σ 57 0 a).toInt64)), vU]) (S' := [vJ (r3 - r4)]) (σ' := σ) 1 rfl trivial ?_
    refine WS.callS M_MD_signOf (as := [vJ (r3 - r4)]) (rest := []) rfl lk_11_130 rfl rfl (Nat.le_of_ble_eq_true rfl) ?_
    refine c_MsignOf  (fun r5 e5 => ?_)
    show WS _ M_MD_far 99 [vR 51 0, vI (nI p), vI (nI a), vI (nI b), vI t, vJ r1, vU, vJ (((gI σ 56 0 p - gI σ 56 0 a).toInt64 * (gI σ 56 0 b - gI σ 56 0 a).toInt64) + ((gI σ 57 0 p - gI σ 57 0 a).toInt64 * (gI σ 57 0 b - gI σ 57 0 a).toInt64)), vU] [vI r5] σ _
    exact WS.ret rfl rfl (by decide) rfl (h _ (by rw [e5, fr_1 ht (lnM_B ha hb) hp.2.1 hp.2.2 e3 e4 (by simp only [lg_lt, lg_eq, lg_le, lg_pos, lg_np, j_0, kal] at *; rw [e_all] at *; unfold lnM; dsimp only; first | omega | exact al0 ‹_›)]))
  · refine WS.run (C := []) (pc' := 80) (L' := [vR 51 0, vI (nI p), vI (nI a), vI (nI b), vI t, vJ r1, vU, vJ (((gI σ 56 0 p - gI σ 56 0 a).toInt64 * (gI σ 56 0 b - gI σ 56 0 a).toInt64) + ((gI σ 57 0 p - gI σ 57 0 a).toInt64 * (gI σ 57 0 b - gI σ 57 0 a).toInt64)), vU]) (S' := [vI (lg_cmp (((gI σ 56 0 p - gI σ 56 0 a).toInt64 * (gI σ 56 0 b - gI σ 56 0 a).toInt64) + ((gI σ 57 0 p - gI σ 57 0 a).toInt64 * (gI σ 57 0 b - gI σ 57 0 a).toInt64)) (0 : Int64))]) (σ' := σ) 3 rfl trivial ?_
    refine WS.br (P := 0 < (lg_cmp (((gI σ 56 0 p - gI σ 56 0 a).toInt64 * (gI σ 56 0 b - gI σ 56 0 a).toInt64) + ((gI σ 57 0 p - gI σ 57 0 a).toInt64 * (gI σ 57 0 b - gI σ 57 0 a).toInt64)) (0 : Int64))) (a := 100) (b := 83) (S' := []) rfl (fun c6 => ?_) (fun c6 => ?_)
    · refine WS.run (C := []) (pc' := 105) (L' := [vR 51 0, vI (nI p), vI (nI a), vI (nI b), vI t, vJ r1, vU, vJ (((gI σ 56 0 p - gI σ 56 0 a).toInt64 * (gI σ 56 0 b - gI σ 56 0 a).toInt64) + ((gI σ 57 0 p - gI σ 57 0 a).toInt64 * (gI σ 57 0 b - gI σ 57 0 a).toInt64)), vU]) (S' := [vI (lg_cmp (((gI σ 56 0 p - gI σ 56 0 a).toInt64 * (gI σ 56 0 b - gI σ 56 0 a).toInt64) + ((gI σ 57 0 p - gI σ 57 0 a).toInt64 * (gI σ 57 0 b - gI σ 57 0 a).toInt64)) r1)]) (σ' := σ) 3 rfl trivial ?_
      refine WS.br (P := (lg_cmp (((gI σ 56 0 p - gI σ 56 0 a).toInt64 * (gI σ 56 0 b - gI σ 56 0 a).toInt64) + ((gI σ 57 0 p - gI σ 57 0 a).toInt64 * (gI σ 57 0 b - gI σ 57 0 a).toInt64)) r1) < 0) (a := 125) (b := 108) (S' := []) rfl (fun c7 => ?_) (fun c7 => ?_)
      · refine WS.run (C := []) (pc' := 129) (L' := [vR 51 0, vI (nI p), vI (nI a), vI (nI b), vI t, vJ r1, vU, vJ (((gI σ 56 0 p - gI σ 56 0 a).toInt64 * (gI σ 56 0 b - gI σ 56 0 a).toInt64) + ((gI σ 57 0 p - gI σ 57 0 a).toInt64 * (gI σ 57 0 b - gI σ 57 0 a).toInt64)), vU]) (S' := [vI (nI p), vI (nI b), vI (nI a), vR 51 0]) (σ' := σ) 4 rfl trivial ?_
        refine WS.callV M_MD_cross (k := 51) (i := 0) (as := [vI (nI a), vI (nI b), vI (nI p)]) (rest := []) rfl lk_11_134 rfl rfl rfl (Nat.le_of_ble_eq_true rfl) ?_
        refine c_Mcross ha hb hp (fun r8 e8 => ?_)
        have e_crs := e8
        show WS _ M_MD_far 132 [vR 51 0, vI (nI p), vI (nI a), vI (nI b), vI t, vJ r1, vU, vJ (((gI σ 56 0 p - gI σ 56 0 a).toInt64 * (gI σ 56 0 b - gI σ 56 0 a).toInt64) + ((gI σ 57 0 p - gI σ 57 0 a).toInt64 * (gI σ 57 0 b - gI σ 57 0 a).toInt64)), vU] [vJ r8] σ _
        refine WS.callS M_MD_square (as := [vJ r8]) (rest := []) rfl lk_11_122 rfl rfl (Nat.le_of_ble_eq_true rfl) ?_
        refine c_Msquare (by have q := sd_bd ha.2.1 ha.2.2 hb.2.1 hb.2.2 hp.2.1 hp.2.2; rw [e_crs]; unfold sdL lnM; dsimp only; omega) (fun r9 e9 => ?_)
        show WS _ M_MD_far 135 [vR 51 0, vI (nI p), vI (nI a), vI (nI b), vI t, vJ r1, vU, vJ (((gI σ 56 0 p - gI σ 56 0 a).toInt64 * (gI σ 56 0 b - gI σ 56 0 a).toInt64) + ((gI σ 57 0 p - gI σ 57 0 a).toInt64 * (gI σ 57 0 b - gI σ 57 0 a).toInt64)), vU] [vJ r9] σ _
        refine WS.run (C := []) (pc' := 138) (L' := [vR 51 0, vI (nI p), vI (nI a), vI (nI b), vI t, vJ r1, vU, vJ (((gI σ 56 0 p - gI σ 56 0 a).toInt64 * (gI σ 56 0 b - gI σ 56 0 a).toInt64) + ((gI σ 57 0 p - gI σ 57 0 a).toInt64 * (gI σ 57 0 b - gI σ 57 0 a).toInt64)), vU]) (S' := [vJ t.toInt64, vJ r9]) (σ' := σ) 2 rfl trivial ?_
        refine WS.callS M_MD_square (as := [vJ t.toInt64]) (rest := [vJ r9]) rfl lk_11_122 rfl rfl (Nat.le_of_ble_eq_true rfl) ?_
        refine c_Msquare (by rw [j_of]; omega) (fun r10 e10 => ?_)
        show WS _ M_MD_far 141 [vR 51 0, vI (nI p), vI (nI a), vI (nI b), vI t, vJ r1, vU, vJ (((gI σ 56 0 p - gI σ 56 0 a).toInt64 * (gI σ 56 0 b - gI σ 56 0 a).toInt64) + ((gI σ 57 0 p - gI σ 57 0 a).toInt64 * (gI σ 57 0 b - gI σ 57 0 a).toInt64)), vU] [vJ r10, vJ r9] σ _
        refine WS.run (C := []) (pc' := 145) (L' := [vR 51 0, vI (nI p), vI (nI a), vI (nI b), vI t, vJ r1, vU, vJ (((gI σ 56 0 p - gI σ 56 0 a).toInt64 * (gI σ 56 0 b - gI σ 56 0 a).toInt64) + ((gI σ 57 0 p - gI σ 57 0 a).toInt64 * (gI σ 57 0 b - gI σ 57 0 a).toInt64)), vU]) (S' := [vJ (r9 - (r10 * r1))]) (σ' := σ) 3 rfl trivial ?_
        refine WS.callS M_MD_signOf (as := [vJ (r9 - (r10 * r1))]) (rest := []) rfl lk_11_130 rfl rfl (Nat.le_of_ble_eq_true rfl) ?_
        refine c_MsignOf  (fun r11 e11 => ?_)
        show WS _ M_MD_far 148 [vR 51 0, vI (nI p), vI (nI a), vI (nI b), vI t, vJ r1, vU, vJ (((gI σ 56 0 p - gI σ 56 0 a).toInt64 * (gI σ 56 0 b - gI σ 56 0 a).toInt64) + ((gI σ 57 0 p - gI σ 57 0 a).toInt64 * (gI σ 57 0 b - gI σ 57 0 a).toInt64)), vU] [vI r11] σ _
        exact WS.ret rfl rfl (by decide) rfl (h _ (by rw [e11, fr_3 ht (lnM_B ha hb) hp.2.1 hp.2.2 e8 e9 e10 (by rw [e1]; exact dd_al _ _ _ _) (by simp only [lg_lt, lg_eq, lg_le, lg_pos, lg_np, j_0, kal] at *; rw [e_all] at *; unfold lnM; dsimp only; omega) (by simp only [lg_lt, lg_eq, lg_le, lg_pos, lg_np, j_0, kal] at *; rw [e_all] at *; unfold lnM; dsimp only; omega)]))
      · refine WS.run (C := []) (pc' := 111) (L' := [vR 51 0, vI (nI p), vI (nI a), vI (nI b), vI t, vJ r1, vU, vJ (((gI σ 56 0 p - gI σ 56 0 a).toInt64 * (gI σ 56 0 b - gI σ 56 0 a).toInt64) + ((gI σ 57 0 p - gI σ 57 0 a).toInt64 * (gI σ 57 0 b - gI σ 57 0 a).toInt64)), vU]) (S' := [vI (nI b), vI (nI p), vR 51 0]) (σ' := σ) 3 rfl trivial ?_
        refine WS.callV M_MD_apart (k := 51) (i := 0) (as := [vI (nI p), vI (nI b)]) (rest := []) rfl lk_11_126 rfl rfl rfl (Nat.le_of_ble_eq_true rfl) ?_
        refine c_Mapart hp hb (fun r12 e12 => ?_)
        show WS _ M_MD_far 114 [vR 51 0, vI (nI p), vI (nI a), vI (nI b), vI t, vJ r1, vU, vJ (((gI σ 56 0 p - gI σ 56 0 a).toInt64 * (gI σ 56 0 b - gI σ 56 0 a).toInt64) + ((gI σ 57 0 p - gI σ 57 0 a).toInt64 * (gI σ 57 0 b - gI σ 57 0 a).toInt64)), vU] [vJ r12] σ _
        refine WS.run (C := []) (pc' := 117) (L' := [vR 51 0, vI (nI p), vI (nI a), vI (nI b), vI t, vJ r1, vU, vJ (((gI σ 56 0 p - gI σ 56 0 a).toInt64 * (gI σ 56 0 b - gI σ 56 0 a).toInt64) + ((gI σ 57 0 p - gI σ 57 0 a).toInt64 * (gI σ 57 0 b - gI σ 57 0 a).toInt64)), vU]) (S' := [vJ t.toInt64, vJ r12]) (σ' := σ) 2 rfl trivial ?_
        refine WS.callS M_MD_square (as := [vJ t.toInt64]) (rest := [vJ r12]) rfl lk_11_122 rfl rfl (Nat.le_of_ble_eq_true rfl) ?_
        refine c_Msquare (by rw [j_of]; omega) (fun r13 e13 => ?_)
        show WS _ M_MD_far 120 [vR 51 0, vI (nI p), vI (nI a), vI (nI b), vI t, vJ r1, vU, vJ (((gI σ 56 0 p - gI σ 56 0 a).toInt64 * (gI σ 56 0 b - gI σ 56 0 a).toInt64) + ((gI σ 57 0 p - gI σ 57 0 a).toInt64 * (gI σ 57 0 b - gI σ 57 0 a).toInt64)), vU] [vJ r13, vJ r12] σ _
        refine WS.run (C := []) (pc' := 121) (L' := [vR 51 0, vI (nI p), vI (nI a), vI (nI b), vI t, vJ r1, vU, vJ (((gI σ 56 0 p - gI σ 56 0 a).toInt64 * (gI σ 56 0 b - gI σ 56 0 a).toInt64) + ((gI σ 57 0 p - gI σ 57 0 a).toInt64 * (gI σ 57 0 b - gI σ 57 0 a).toInt64)), vU]) (S' := [vJ (r12 - r13)]) (σ' := σ) 1 rfl trivial ?_
        refine WS.callS M_MD_signOf (as := [vJ (r12 - r13)]) (rest := []) rfl lk_11_130 rfl rfl (Nat.le_of_ble_eq_true rfl) ?_
        refine c_MsignOf  (fun r14 e14 => ?_)
        show WS _ M_MD_far 124 [vR 51 0, vI (nI p), vI (nI a), vI (nI b), vI t, vJ r1, vU, vJ (((gI σ 56 0 p - gI σ 56 0 a).toInt64 * (gI σ 56 0 b - gI σ 56 0 a).toInt64) + ((gI σ 57 0 p - gI σ 57 0 a).toInt64 * (gI σ 57 0 b - gI σ 57 0 a).toInt64)), vU] [vI r14] σ _
        exact WS.ret rfl rfl (by decide) rfl (h _ (by rw [e14, fr_2 ht (lnM_B ha hb) hp.2.1 hp.2.2 e12 e13 (by simp only [lg_lt, lg_eq, lg_le, lg_pos, lg_np, j_0, kal] at *; rw [e_all] at *; unfold lnM; dsimp only; omega) (by simp only [lg_lt, lg_eq, lg_le, lg_pos, lg_np, j_0, kal] at *; rw [e_all] at *; unfold lnM; dsimp only; omega)]))
    · refine WS.run (C := []) (pc' := 86) (L' := [vR 51 0, vI (nI p), vI (nI a), vI (nI b), vI t, vJ r1, vU, vJ (((gI σ 56 0 p - gI σ 56 0 a).toInt64 * (gI σ 56 0 b - gI σ 56 0 a).toInt64) + ((gI σ 57 0 p - gI σ 57 0 a).toInt64 * (gI σ 57 0 b - gI σ 57 0 a).toInt64)), vU]) (S' := [vI (nI a), vI (nI p), vR 51 0]) (σ' := σ) 3 rfl trivial ?_
      refine WS.callV M_MD_apart (k := 51) (i := 0) (as := [vI (nI p), vI (nI a)]) (rest := []) rfl lk_11_126 rfl rfl rfl (Nat.le_of_ble_eq_true rfl) ?_
      refine c_Mapart hp ha (fun r15 e15 => ?_)
      show WS _ M_MD_far 89 [vR 51 0, vI (nI p), vI (nI a), vI (nI b), vI t, vJ r1, vU, vJ (((gI σ 56 0 p - gI σ 56 0 a).toInt64 * (gI σ 56 0 b - gI σ 56 0 a).toInt64) + ((gI σ 57 0 p - gI σ 57 0 a).toInt64 * (gI σ 57 0 b - gI σ 57 0 a).toInt64)), vU] [vJ r15] σ _
      refine WS.run (C := []) (pc' := 92) (L' := [vR 51 0, vI (nI p), vI (nI a), vI (nI b), vI t, vJ r1, vU, vJ (((gI σ 56 0 p - gI σ 56 0 a).toInt64 * (gI σ 56 0 b - gI σ 56 0 a).toInt64) + ((gI σ 57 0 p - gI σ 57 0 a).toInt64 * (gI σ 57 0 b - gI σ 57 0 a).toInt64)), vU]) (S' := [vJ t.toInt64, vJ r15]) (σ' := σ) 2 rfl trivial ?_
      refine WS.callS M_MD_square (as := [vJ t.toInt64]) (rest := [vJ r15]) rfl lk_11_122 rfl rfl (Nat.le_of_ble_eq_true rfl) ?_
      refine c_Msquare (by rw [j_of]; omega) (fun r16 e16 => ?_)
      show WS _ M_MD_far 95 [vR 51 0, vI (nI p), vI (nI a), vI (nI b), vI t, vJ r1, vU, vJ (((gI σ 56 0 p - gI σ 56 0 a).toInt64 * (gI σ 56 0 b - gI σ 56 0 a).toInt64) + ((gI σ 57 0 p - gI σ 57 0 a).toInt64 * (gI σ 57 0 b - gI σ 57 0 a).toInt64)), vU] [vJ r16, vJ r15] σ _
      refine WS.run (C := []) (pc' := 96) (L' := [vR 51 0, vI (nI p), vI (nI a), vI (nI b), vI t, vJ r1, vU, vJ (((gI σ 56 0 p - gI σ 56 0 a).toInt64 * (gI σ 56 0 b - gI σ 56 0 a).toInt64) + ((gI σ 57 0 p - gI σ 57 0 a).toInt64 * (gI σ 57 0 b - gI σ 57 0 a).toInt64)), vU]) (S' := [vJ (r15 - r16)]) (σ' := σ) 1 rfl trivial ?_
      refine WS.callS M_MD_signOf (as := [vJ (r15 - r16)]) (rest := []) rfl lk_11_130 rfl rfl (Nat.le_of_ble_eq_true rfl) ?_
      refine c_MsignOf  (fun r17 e17 => ?_)
      show WS _ M_MD_far 99 [vR 51 0, vI (nI p), vI (nI a), vI (nI b), vI t, vJ r1, vU, vJ (((gI σ 56 0 p - gI σ 56 0 a).toInt64 * (gI σ 56 0 b - gI σ 56 0 a).toInt64) + ((gI σ 57 0 p - gI σ 57 0 a).toInt64 * (gI σ 57 0 b - gI σ 57 0 a).toInt64)), vU] [vI r17] σ _
      exact WS.ret rfl rfl (by decide) rfl (h _ (by rw [e17, fr_1 ht (lnM_B ha hb) hp.2.1 hp.2.2 e15 e16 (by simp only [lg_lt, lg_eq, lg_le, lg_pos, lg_np, j_0, kal] at *; rw [e_all] at *; unfold lnM; dsimp only; first | omega | exact al0 ‹_›)]))
