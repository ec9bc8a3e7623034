/-! contracts: nearness and crossings of the model -/
set_option maxRecDepth 4000 in
set_option maxHeartbeats 400000 in
theorem c_MisSame {d : Nat} {σ : Mem} {Post : Option AV → Mem → Prop} {a b : Nat} (ha : mP σ a) (hb : mP σ b) (h1 : mX σ a = mX σ b ∧ mY σ a = mY σ b → Post (some (vI 1)) σ) (h0 : ¬ (mX σ a = mX σ b ∧ mY σ a = mY σ b) → Post (some (vI 0)) σ) : MM d M_MD_isSame [vR 51 0, vI (nI a), vI (nI b)] σ Post := by
  have e_a : (nI a).toNatClampNeg = a := cl_n (by have := ha.1; omega)
  have e_b : (nI b).toNatClampNeg = b := cl_n (by have := hb.1; omega)
  refine MM.of ok_MD_isSame rfl ?_
  show WS _ M_MD_isSame 0 [vR 51 0, vI (nI a), vI (nI b)] [] σ _
  refine WS.run (C := [vp_in (nI a) 240, vp_in (nI b) 240]) (pc' := 12) (L' := [vR 51 0, vI (nI a), vI (nI b)]) (S' := [vI (gI σ 56 0 (nI b).toNatClampNeg), vI (gI σ 56 0 (nI a).toNatClampNeg)]) (σ' := σ) 8 rfl ⟨(vp_n (by have := ha.1; omega) (by omega)), (vp_n (by have := hb.1; omega) (by omega)), trivial⟩ ?_
  simp only [e_a, e_b]
  refine WS.br (P := (gI σ 56 0 a) = (gI σ 56 0 b)) (a := 15) (b := 34) (S' := []) rfl (fun c1 => ?_) (fun c1 => ?_)
  · refine WS.run (C := [vp_in (nI a) 240, vp_in (nI b) 240]) (pc' := 27) (L' := [vR 51 0, vI (nI a), vI (nI b)]) (S' := [vI (gI σ 57 0 (nI b).toNatClampNeg), vI (gI σ 57 0 (nI a).toNatClampNeg)]) (σ' := σ) 8 rfl ⟨(vp_n (by have := ha.1; omega) (by omega)), (vp_n (by have := hb.1; omega) (by omega)), trivial⟩ ?_
    simp only [e_a, e_b]
    refine WS.br (P := (gI σ 57 0 a) = (gI σ 57 0 b)) (a := 30) (b := 34) (S' := []) rfl (fun c2 => ?_) (fun c2 => ?_)
    · refine WS.run (C := []) (pc' := 35) (L' := [vR 51 0, vI (nI a), vI (nI b)]) (S' := [vI (1 : Int32)]) (σ' := σ) 2 rfl trivial ?_
      exact WS.ret rfl rfl (by decide) rfl (by simp only [t_eq] at *; exact h1 ⟨by unfold mX; omega, by unfold mY; omega⟩)
    · refine WS.run (C := []) (pc' := 35) (L' := [vR 51 0, vI (nI a), vI (nI b)]) (S' := [vI (0 : Int32)]) (σ' := σ) 1 rfl trivial ?_
      exact WS.ret rfl rfl (by decide) rfl (by simp only [t_eq] at *; exact h0 (by unfold mX mY; omega))
  · refine WS.run (C := []) (pc' := 35) (L' := [vR 51 0, vI (nI a), vI (nI b)]) (S' := [vI (0 : Int32)]) (σ' := σ) 1 rfl trivial ?_
    exact WS.ret rfl rfl (by decide) rfl (by simp only [t_eq] at *; exact h0 (by unfold mX mY; omega))
set_option maxRecDepth 4000 in
set_option maxHeartbeats 400000 in
theorem c_MisOn {d : Nat} {σ : Mem} {Post : Option AV → Mem → Prop} {p a b : Nat} (hp : mP σ p) (ha : mP σ a) (hb : mP σ b) (h1 : cmL (lnM σ a b) (mX σ p) (mY σ p) 0 = 0 → Post (some (vI 1)) σ) (h0 : ¬ cmL (lnM σ a b) (mX σ p) (mY σ p) 0 = 0 → Post (some (vI 0)) σ) : MM (d + 3) M_MD_isOn [vR 51 0, vI (nI p), vI (nI a), vI (nI b)] σ Post := by
  refine MM.of ok_MD_isOn rfl ?_
  show WS _ M_MD_isOn 0 [vR 51 0, vI (nI p), vI (nI a), vI (nI b)] [] σ _
  refine WS.run (C := []) (pc' := 5) (L' := [vR 51 0, vI (nI p), vI (nI a), vI (nI b)]) (S' := [vI (0 : Int32), vI (nI b), vI (nI a), vI (nI p), vR 51 0]) (σ' := σ) 5 rfl trivial ?_
  refine WS.callV M_MD_far (k := 51) (i := 0) (as := [vI (nI p), vI (nI a), vI (nI b), vI (0 : Int32)]) (rest := []) rfl lk_11_138 rfl rfl rfl (Nat.le_of_ble_eq_true rfl) ?_
  refine c_Mfar hp ha hb (by decide) (fun r1 e1 => ?_)
  show WS _ M_MD_isOn 8 [vR 51 0, vI (nI p), vI (nI a), vI (nI b)] [vI r1] σ _
  refine WS.br (P := r1 = 0) (a := 11) (b := 15) (S' := []) rfl (fun c2 => ?_) (fun c2 => ?_)
  · refine WS.run (C := []) (pc' := 16) (L' := [vR 51 0, vI (nI p), vI (nI a), vI (nI b)]) (S' := [vI (1 : Int32)]) (σ' := σ) 2 rfl trivial ?_
    exact WS.ret rfl rfl (by decide) rfl (h1 (sgn_eq.mp (by rw [t_eq, t_0] at c2; rw [t_0] at e1; omega)))
  · refine WS.run (C := []) (pc' := 16) (L' := [vR 51 0, vI (nI p), vI (nI a), vI (nI b)]) (S' := [vI (0 : Int32)]) (σ' := σ) 1 rfl trivial ?_
    exact WS.ret rfl rfl (by decide) rfl (h0 (fun z => c2 (by rw [t_eq, t_0]; rw [t_0] at e1; have := sgn_eq.mpr z; omega)))
theorem sg_prod {r s : Int32} {x y : Int} (e1 : r.toInt = x.sign) (e2 : s.toInt = y.sign) : (r * s).toInt < 0 ↔ opp x y := by
  have k1 := sgn_3 x
  have k2 := sgn_3 y
  have l1 := sgn_lt (z := x)
  have l2 := sgn_gt (z := x)
  have l3 := sgn_lt (z := y)
  have l4 := sgn_gt (z := y)
  have m := mul_bd (a := r.toInt) (b := s.toInt) (A := 1) (B := 1) (by omega) (by omega) (by omega) (by omega) (by omega) (by omega)
  rw [t_mul (by omega) (by omega), e1, e2]
  unfold opp
  rcases k1 with h | h | h <;> rcases k2 with h' | h' | h' <;> rw [h, h'] <;> simp only [h, h'] at * <;> omega
theorem cut_of {l m : Ln} {r1 r2 r3 r4 : Int32} (e1 : r1.toInt = (sdL l m.1 m.2.1).sign) (e2 : r2.toInt = (sdL l m.2.2.1 m.2.2.2).sign) (e3 : r3.toInt = (sdL m l.1 l.2.1).sign) (e4 : r4.toInt = (sdL m l.2.2.1 l.2.2.2).sign) : cutZ l m ↔ (r1 * r2).toInt < 0 ∧ (r3 * r4).toInt < 0 := by
  rw [sg_prod e1 e2, sg_prod e3 e4]
  rfl
set_option maxRecDepth 4000 in
set_option maxHeartbeats 400000 in
theorem c_Mmeets {d : Nat} {σ : Mem} {Post : Option AV → Mem → Prop} {a b c e : Nat} (ha : mP σ a) (hb : mP σ b) (hc : mP σ c) (he : mP σ e) (h1 : meetZ (lnM σ a b) (lnM σ c e) → Post (some (vI 1)) σ) (h0 : ¬ meetZ (lnM σ a b) (lnM σ c e) → Post (some (vI 0)) σ) : MM (d + 4) M_MD_meets [vR 51 0, vI (nI a), vI (nI b), vI (nI c), vI (nI e)] σ Post := by
  refine MM.of ok_MD_meets rfl ?_
  show WS _ M_MD_meets 0 [vR 51 0, vI (nI a), vI (nI b), vI (nI c), vI (nI e)] [] σ _
  refine WS.run (C := []) (pc' := 5) (L' := [vR 51 0, vI (nI a), vI (nI b), vI (nI c), vI (nI e)]) (S' := [vI (nI e), vI (nI c), vI (nI a), vR 51 0]) (σ' := σ) 4 rfl trivial ?_
  refine WS.callV M_MD_isOn (k := 51) (i := 0) (as := [vI (nI a), vI (nI c), vI (nI e)]) (rest := []) rfl lk_11_154 rfl rfl rfl (Nat.le_of_ble_eq_true rfl) ?_
  refine c_MisOn ha hc he (fun q1 => ?_) (fun q1 => ?_)
  · show WS _ M_MD_meets 8 [vR 51 0, vI (nI a), vI (nI b), vI (nI c), vI (nI e)] [vI (1 : Int32)] σ _
    refine WS.br (P := (1 : Int32) = 0) (a := 11) (b := 43) (S' := []) rfl (fun cc => absurd cc (by decide)) (fun _ => ?_)
    refine WS.run (C := []) (pc' := 44) (L' := [vR 51 0, vI (nI a), vI (nI b), vI (nI c), vI (nI e)]) (S' := [vI (1 : Int32)]) (σ' := σ) 1 rfl trivial ?_
    exact WS.ret rfl rfl (by decide) rfl (h1 (Or.inl (Or.inl q1)))
  · show WS _ M_MD_meets 8 [vR 51 0, vI (nI a), vI (nI b), vI (nI c), vI (nI e)] [vI (0 : Int32)] σ _
    refine WS.br (P := (0 : Int32) = 0) (a := 11) (b := 43) (S' := []) rfl (fun _ => ?_) (fun cc => absurd (by decide) cc)
    refine WS.run (C := []) (pc' := 16) (L' := [vR 51 0, vI (nI a), vI (nI b), vI (nI c), vI (nI e)]) (S' := [vI (nI e), vI (nI c), vI (nI b), vR 51 0]) (σ' := σ) 4 rfl trivial ?_
    refine WS.callV M_MD_isOn (k := 51) (i := 0) (as := [vI (nI b), vI (nI c), vI (nI e)]) (rest := []) rfl lk_11_154 rfl rfl rfl (Nat.le_of_ble_eq_true rfl) ?_
    refine c_MisOn hb hc he (fun q2 => ?_) (fun q2 => ?_)
    · show WS _ M_MD_meets 19 [vR 51 0, vI (nI a), vI (nI b), vI (nI c), vI (nI e)] [vI (1 : Int32)] σ _
      refine WS.br (P := (1 : Int32) = 0) (a := 22) (b := 43) (S' := []) rfl (fun cc => absurd cc (by decide)) (fun _ => ?_)
      refine WS.run (C := []) (pc' := 44) (L' := [vR 51 0, vI (nI a), vI (nI b), vI (nI c), vI (nI e)]) (S' := [vI (1 : Int32)]) (σ' := σ) 1 rfl trivial ?_
      exact WS.ret rfl rfl (by decide) rfl (h1 (Or.inl (Or.inr (Or.inl q2))))
    · show WS _ M_MD_meets 19 [vR 51 0, vI (nI a), vI (nI b), vI (nI c), vI (nI e)] [vI (0 : Int32)] σ _
      refine WS.br (P := (0 : Int32) = 0) (a := 22) (b := 43) (S' := []) rfl (fun _ => ?_) (fun cc => absurd (by decide) cc)
      refine WS.run (C := []) (pc' := 26) (L' := [vR 51 0, vI (nI a), vI (nI b), vI (nI c), vI (nI e)]) (S' := [vI (nI b), vI (nI a), vI (nI c), vR 51 0]) (σ' := σ) 4 rfl trivial ?_
      refine WS.callV M_MD_isOn (k := 51) (i := 0) (as := [vI (nI c), vI (nI a), vI (nI b)]) (rest := []) rfl lk_11_154 rfl rfl rfl (Nat.le_of_ble_eq_true rfl) ?_
      refine c_MisOn hc ha hb (fun q3 => ?_) (fun q3 => ?_)
      · show WS _ M_MD_meets 29 [vR 51 0, vI (nI a), vI (nI b), vI (nI c), vI (nI e)] [vI (1 : Int32)] σ _
        refine WS.br (P := (1 : Int32) = 0) (a := 32) (b := 43) (S' := []) rfl (fun cc => absurd cc (by decide)) (fun _ => ?_)
        refine WS.run (C := []) (pc' := 44) (L' := [vR 51 0, vI (nI a), vI (nI b), vI (nI c), vI (nI e)]) (S' := [vI (1 : Int32)]) (σ' := σ) 1 rfl trivial ?_
        exact WS.ret rfl rfl (by decide) rfl (h1 (Or.inl (Or.inr (Or.inr (Or.inl q3)))))
      · show WS _ M_MD_meets 29 [vR 51 0, vI (nI a), vI (nI b), vI (nI c), vI (nI e)] [vI (0 : Int32)] σ _
        refine WS.br (P := (0 : Int32) = 0) (a := 32) (b := 43) (S' := []) rfl (fun _ => ?_) (fun cc => absurd (by decide) cc)
        refine WS.run (C := []) (pc' := 37) (L' := [vR 51 0, vI (nI a), vI (nI b), vI (nI c), vI (nI e)]) (S' := [vI (nI b), vI (nI a), vI (nI e), vR 51 0]) (σ' := σ) 4 rfl trivial ?_
        refine WS.callV M_MD_isOn (k := 51) (i := 0) (as := [vI (nI e), vI (nI a), vI (nI b)]) (rest := []) rfl lk_11_154 rfl rfl rfl (Nat.le_of_ble_eq_true rfl) ?_
        refine c_MisOn he ha hb (fun q4 => ?_) (fun q4 => ?_)
        · show WS _ M_MD_meets 40 [vR 51 0, vI (nI a), vI (nI b), vI (nI c), vI (nI e)] [vI (1 : Int32)] σ _
          refine WS.br (P := (1 : Int32) = 0) (a := 45) (b := 43) (S' := []) rfl (fun cc => absurd cc (by decide)) (fun _ => ?_)
          refine WS.run (C := []) (pc' := 44) (L' := [vR 51 0, vI (nI a), vI (nI b), vI (nI c), vI (nI e)]) (S' := [vI (1 : Int32)]) (σ' := σ) 1 rfl trivial ?_
          exact WS.ret rfl rfl (by decide) rfl (h1 (Or.inl (Or.inr (Or.inr (Or.inr q4)))))
        · show WS _ M_MD_meets 40 [vR 51 0, vI (nI a), vI (nI b), vI (nI c), vI (nI e)] [vI (0 : Int32)] σ _
          refine WS.br (P := (0 : Int32) = 0) (a := 45) (b := 43) (S' := []) rfl (fun _ => ?_) (fun cc => absurd (by decide) cc)
          refine WS.run (C := []) (pc' := 49) (L' := [vR 51 0, vI (nI a), vI (nI b), vI (nI c), vI (nI e)]) (S' := [vI (nI c), vI (nI b), vI (nI a), vR 51 0]) (σ' := σ) 4 rfl trivial ?_
          refine WS.callV M_MD_cross (k := 51) (i := 0) (as := [vI (nI a), vI (nI b), vI (nI c)]) (rest := []) rfl lk_11_134 rfl rfl rfl (Nat.le_of_ble_eq_true rfl) ?_
          refine c_Mcross ha hb hc (fun r5 e5 => ?_)
          show WS _ M_MD_meets 52 [vR 51 0, vI (nI a), vI (nI b), vI (nI c), vI (nI e)] [vJ r5] σ _
          refine WS.callS M_MD_signOf (as := [vJ r5]) (rest := []) rfl lk_11_130 rfl rfl (Nat.le_of_ble_eq_true rfl) ?_
          refine c_MsignOf  (fun r6 e6 => ?_)
          show WS _ M_MD_meets 55 [vR 51 0, vI (nI a), vI (nI b), vI (nI c), vI (nI e)] [vI r6] σ _
          refine WS.run (C := []) (pc' := 60) (L' := [vR 51 0, vI (nI a), vI (nI b), vI (nI c), vI (nI e)]) (S' := [vI (nI e), vI (nI b), vI (nI a), vR 51 0, vI r6]) (σ' := σ) 4 rfl trivial ?_
          refine WS.callV M_MD_cross (k := 51) (i := 0) (as := [vI (nI a), vI (nI b), vI (nI e)]) (rest := [vI r6]) rfl lk_11_134 rfl rfl rfl (Nat.le_of_ble_eq_true rfl) ?_
          refine c_Mcross ha hb he (fun r7 e7 => ?_)
          show WS _ M_MD_meets 63 [vR 51 0, vI (nI a), vI (nI b), vI (nI c), vI (nI e)] [vJ r7, vI r6] σ _
          refine WS.callS M_MD_signOf (as := [vJ r7]) (rest := [vI r6]) rfl lk_11_130 rfl rfl (Nat.le_of_ble_eq_true rfl) ?_
          refine c_MsignOf  (fun r8 e8 => ?_)
          show WS _ M_MD_meets 66 [vR 51 0, vI (nI a), vI (nI b), vI (nI c), vI (nI e)] [vI r8, vI r6] σ _
          refine WS.run (C := []) (pc' := 67) (L' := [vR 51 0, vI (nI a), vI (nI b), vI (nI c), vI (nI e)]) (S' := [vI (r6 * r8)]) (σ' := σ) 1 rfl trivial ?_
          refine WS.br (P := 0 ≤ (r6 * r8)) (a := 100) (b := 70) (S' := []) rfl (fun c9 => ?_) (fun c9 => ?_)
          · refine WS.run (C := []) (pc' := 101) (L' := [vR 51 0, vI (nI a), vI (nI b), vI (nI c), vI (nI e)]) (S' := [vI (0 : Int32)]) (σ' := σ) 1 rfl trivial ?_
            exact WS.ret rfl rfl (by decide) rfl (h0 (fun z => z.elim (fun z => z.elim q1 (fun z => z.elim q2 (fun z => z.elim q3 q4))) (fun z => by have q := (sg_prod (by rw [e6, e5]; rfl) (by rw [e8, e7]; rfl)).mpr z.1; simp only [t_lt, t_le, t_0] at *; omega)))
          · refine WS.run (C := []) (pc' := 75) (L' := [vR 51 0, vI (nI a), vI (nI b), vI (nI c), vI (nI e)]) (S' := [vI (nI a), vI (nI e), vI (nI c), vR 51 0]) (σ' := σ) 4 rfl trivial ?_
            refine WS.callV M_MD_cross (k := 51) (i := 0) (as := [vI (nI c), vI (nI e), vI (nI a)]) (rest := []) rfl lk_11_134 rfl rfl rfl (Nat.le_of_ble_eq_true rfl) ?_
            refine c_Mcross hc he ha (fun r10 e10 => ?_)
            show WS _ M_MD_meets 78 [vR 51 0, vI (nI a), vI (nI b), vI (nI c), vI (nI e)] [vJ r10] σ _
            refine WS.callS M_MD_signOf (as := [vJ r10]) (rest := []) rfl lk_11_130 rfl rfl (Nat.le_of_ble_eq_true rfl) ?_
            refine c_MsignOf  (fun r11 e11 => ?_)
            show WS _ M_MD_meets 81 [vR 51 0, vI (nI a), vI (nI b), vI (nI c), vI (nI e)] [vI r11] σ _
            refine WS.run (C := []) (pc' := 86) (L' := [vR 51 0, vI (nI a), vI (nI b), vI (nI c), vI (nI e)]) (S' := [vI (nI b), vI (nI e), vI (nI c), vR 51 0, vI r11]) (σ' := σ) 4 rfl trivial ?_
            refine WS.callV M_MD_cross (k := 51) (i := 0) (as := [vI (nI c), vI (nI e), vI (nI b)]) (rest := [vI r11]) rfl lk_11_134 rfl rfl rfl (Nat.le_of_ble_eq_true rfl) ?_
            refine c_Mcross hc he hb (fun r12 e12 => ?_)
            show WS _ M_MD_meets 89 [vR 51 0, vI (nI a), vI (nI b), vI (nI c), vI (nI e)] [vJ r12, vI r11] σ _
            refine WS.callS M_MD_signOf (as := [vJ r12]) (rest := [vI r11]) rfl lk_11_130 rfl rfl (Nat.le_of_ble_eq_true rfl) ?_
            refine c_MsignOf  (fun r13 e13 => ?_)
            show WS _ M_MD_meets 92 [vR 51 0, vI (nI a), vI (nI b), vI (nI c), vI (nI e)] [vI r13, vI r11] σ _
            refine WS.run (C := []) (pc' := 93) (L' := [vR 51 0, vI (nI a), vI (nI b), vI (nI c), vI (nI e)]) (S' := [vI (r11 * r13)]) (σ' := σ) 1 rfl trivial ?_
            refine WS.br (P := 0 ≤ (r11 * r13)) (a := 100) (b := 96) (S' := []) rfl (fun c14 => ?_) (fun c14 => ?_)
            · refine WS.run (C := []) (pc' := 101) (L' := [vR 51 0, vI (nI a), vI (nI b), vI (nI c), vI (nI e)]) (S' := [vI (0 : Int32)]) (σ' := σ) 1 rfl trivial ?_
              exact WS.ret rfl rfl (by decide) rfl (h0 (fun z => z.elim (fun z => z.elim q1 (fun z => z.elim q2 (fun z => z.elim q3 q4))) (fun z => by have q := (cut_of (l := lnM σ a b) (m := lnM σ c e) (by rw [e6, e5]; rfl) (by rw [e8, e7]; rfl) (by rw [e11, e10]; rfl) (by rw [e13, e12]; rfl)).mp z; simp only [t_lt, t_le, t_0] at *; omega)))
            · refine WS.run (C := []) (pc' := 101) (L' := [vR 51 0, vI (nI a), vI (nI b), vI (nI c), vI (nI e)]) (S' := [vI (1 : Int32)]) (σ' := σ) 2 rfl trivial ?_
              exact WS.ret rfl rfl (by decide) rfl (h1 (Or.inr ((cut_of (l := lnM σ a b) (m := lnM σ c e) (by rw [e6, e5]; rfl) (by rw [e8, e7]; rfl) (by rw [e11, e10]; rfl) (by rw [e13, e12]; rfl)).mpr ⟨by simp only [t_lt, t_le, t_0] at *; omega, by simp only [t_lt, t_le, t_0] at *; omega⟩)))
set_option maxRecDepth 4000 in
set_option maxHeartbeats 400000 in
theorem c_MisClose {d : Nat} {σ : Mem} {Post : Option AV → Mem → Prop} {a b c e : Nat} (ha : mP σ a) (hb : mP σ b) (hc : mP σ c) (he : mP σ e) (hg : 0 ≤ (gI σ 51 0 9).toInt ∧ (gI σ 51 0 9).toInt ≤ 100) (h1 : closeZ (lnM σ a b) (lnM σ c e) (gI σ 51 0 9).toInt → Post (some (vI 1)) σ) (h0 : ¬ closeZ (lnM σ a b) (lnM σ c e) (gI σ 51 0 9).toInt → Post (some (vI 0)) σ) : MM (d + 5) M_MD_isClose [vR 51 0, vI (nI a), vI (nI b), vI (nI c), vI (nI e)] σ Post := by
  refine MM.of ok_MD_isClose rfl ?_
  show WS _ M_MD_isClose 0 [vR 51 0, vI (nI a), vI (nI b), vI (nI c), vI (nI e)] [] σ _
  refine WS.run (C := []) (pc' := 3) (L' := [vR 51 0, vI (nI a), vI (nI b), vI (nI c), vI (nI e)]) (S' := [vI (nI c), vI (nI a), vR 51 0]) (σ' := σ) 3 rfl trivial ?_
  refine WS.callV M_MD_isSame (k := 51) (i := 0) (as := [vI (nI a), vI (nI c)]) (rest := []) rfl lk_11_157 rfl rfl rfl (Nat.le_of_ble_eq_true rfl) ?_
  refine c_MisSame ha hc (fun q1 => ?_) (fun q1 => ?_)
  · show WS _ M_MD_isClose 6 [vR 51 0, vI (nI a), vI (nI b), vI (nI c), vI (nI e)] [vI (1 : Int32)] σ _
    refine WS.br (P := (1 : Int32) = 0) (a := 9) (b := 45) (S' := []) rfl (fun cc => absurd cc (by decide)) (fun _ => ?_)
    refine WS.run (C := []) (pc' := 46) (L' := [vR 51 0, vI (nI a), vI (nI b), vI (nI c), vI (nI e)]) (S' := [vI (0 : Int32)]) (σ' := σ) 1 rfl trivial ?_
    exact WS.ret rfl rfl (by decide) rfl (h0 (fun z => z.1 (Or.inl (Or.inl q1))))
  · show WS _ M_MD_isClose 6 [vR 51 0, vI (nI a), vI (nI b), vI (nI c), vI (nI e)] [vI (0 : Int32)] σ _
    refine WS.br (P := (0 : Int32) = 0) (a := 9) (b := 45) (S' := []) rfl (fun _ => ?_) (fun cc => absurd (by decide) cc)
    refine WS.run (C := []) (pc' := 13) (L' := [vR 51 0, vI (nI a), vI (nI b), vI (nI c), vI (nI e)]) (S' := [vI (nI e), vI (nI a), vR 51 0]) (σ' := σ) 3 rfl trivial ?_
    refine WS.callV M_MD_isSame (k := 51) (i := 0) (as := [vI (nI a), vI (nI e)]) (rest := []) rfl lk_11_157 rfl rfl rfl (Nat.le_of_ble_eq_true rfl) ?_
    refine c_MisSame ha he (fun q2 => ?_) (fun q2 => ?_)
    · show WS _ M_MD_isClose 16 [vR 51 0, vI (nI a), vI (nI b), vI (nI c), vI (nI e)] [vI (1 : Int32)] σ _
      refine WS.br (P := (1 : Int32) = 0) (a := 19) (b := 45) (S' := []) rfl (fun cc => absurd cc (by decide)) (fun _ => ?_)
      refine WS.run (C := []) (pc' := 46) (L' := [vR 51 0, vI (nI a), vI (nI b), vI (nI c), vI (nI e)]) (S' := [vI (0 : Int32)]) (σ' := σ) 1 rfl trivial ?_
      exact WS.ret rfl rfl (by decide) rfl (h0 (fun z => z.1 (Or.inr (Or.inl q2))))
    · show WS _ M_MD_isClose 16 [vR 51 0, vI (nI a), vI (nI b), vI (nI c), vI (nI e)] [vI (0 : Int32)] σ _
      refine WS.br (P := (0 : Int32) = 0) (a := 19) (b := 45) (S' := []) rfl (fun _ => ?_) (fun cc => absurd (by decide) cc)
      refine WS.run (C := []) (pc' := 22) (L' := [vR 51 0, vI (nI a), vI (nI b), vI (nI c), vI (nI e)]) (S' := [vI (nI c), vI (nI b), vR 51 0]) (σ' := σ) 3 rfl trivial ?_
      refine WS.callV M_MD_isSame (k := 51) (i := 0) (as := [vI (nI b), vI (nI c)]) (rest := []) rfl lk_11_157 rfl rfl rfl (Nat.le_of_ble_eq_true rfl) ?_
      refine c_MisSame hb hc (fun q3 => ?_) (fun q3 => ?_)
      · show WS _ M_MD_isClose 25 [vR 51 0, vI (nI a), vI (nI b), vI (nI c), vI (nI e)] [vI (1 : Int32)] σ _
        refine WS.br (P := (1 : Int32) = 0) (a := 28) (b := 45) (S' := []) rfl (fun cc => absurd cc (by decide)) (fun _ => ?_)
        refine WS.run (C := []) (pc' := 46) (L' := [vR 51 0, vI (nI a), vI (nI b), vI (nI c), vI (nI e)]) (S' := [vI (0 : Int32)]) (σ' := σ) 1 rfl trivial ?_
        exact WS.ret rfl rfl (by decide) rfl (h0 (fun z => z.1 (Or.inl (Or.inr q3))))
      · show WS _ M_MD_isClose 25 [vR 51 0, vI (nI a), vI (nI b), vI (nI c), vI (nI e)] [vI (0 : Int32)] σ _
        refine WS.br (P := (0 : Int32) = 0) (a := 28) (b := 45) (S' := []) rfl (fun _ => ?_) (fun cc => absurd (by decide) cc)
        refine WS.run (C := []) (pc' := 32) (L' := [vR 51 0, vI (nI a), vI (nI b), vI (nI c), vI (nI e)]) (S' := [vI (nI e), vI (nI b), vR 51 0]) (σ' := σ) 3 rfl trivial ?_
        refine WS.callV M_MD_isSame (k := 51) (i := 0) (as := [vI (nI b), vI (nI e)]) (rest := []) rfl lk_11_157 rfl rfl rfl (Nat.le_of_ble_eq_true rfl) ?_
        refine c_MisSame hb he (fun q4 => ?_) (fun q4 => ?_)
        · show WS _ M_MD_isClose 35 [vR 51 0, vI (nI a), vI (nI b), vI (nI c), vI (nI e)] [vI (1 : Int32)] σ _
          refine WS.br (P := (1 : Int32) = 0) (a := 38) (b := 45) (S' := []) rfl (fun cc => absurd cc (by decide)) (fun _ => ?_)
          refine WS.run (C := []) (pc' := 46) (L' := [vR 51 0, vI (nI a), vI (nI b), vI (nI c), vI (nI e)]) (S' := [vI (0 : Int32)]) (σ' := σ) 1 rfl trivial ?_
          exact WS.ret rfl rfl (by decide) rfl (h0 (fun z => z.1 (Or.inr (Or.inr q4))))
        · show WS _ M_MD_isClose 35 [vR 51 0, vI (nI a), vI (nI b), vI (nI c), vI (nI e)] [vI (0 : Int32)] σ _
          refine WS.br (P := (0 : Int32) = 0) (a := 38) (b := 45) (S' := []) rfl (fun _ => ?_) (fun cc => absurd (by decide) cc)
          refine WS.run (C := []) (pc' := 42) (L' := [vR 51 0, vI (nI a), vI (nI b), vI (nI c), vI (nI e)]) (S' := [vI (gI σ 51 0 9)]) (σ' := σ) 2 rfl trivial ?_
          refine WS.br (P := (gI σ 51 0 9) = 0) (a := 45) (b := 47) (S' := []) rfl (fun c5 => ?_) (fun c5 => ?_)
          · refine WS.run (C := []) (pc' := 46) (L' := [vR 51 0, vI (nI a), vI (nI b), vI (nI c), vI (nI e)]) (S' := [vI (0 : Int32)]) (σ' := σ) 1 rfl trivial ?_
            exact WS.ret rfl rfl (by decide) rfl (h0 (fun z => by have := z.2.1; rw [t_eq, t_0] at c5; omega))
          · refine WS.run (C := []) (pc' := 53) (L' := [vR 51 0, vI (nI a), vI (nI b), vI (nI c), vI (nI e)]) (S' := [vI (nI e), vI (nI c), vI (nI b), vI (nI a), vR 51 0]) (σ' := σ) 5 rfl trivial ?_
            refine WS.callV M_MD_meets (k := 51) (i := 0) (as := [vI (nI a), vI (nI b), vI (nI c), vI (nI e)]) (rest := []) rfl lk_11_161 rfl rfl rfl (Nat.le_of_ble_eq_true rfl) ?_
            refine c_Mmeets ha hb hc he (fun q6 => ?_) (fun q6 => ?_)
            · show WS _ M_MD_isClose 56 [vR 51 0, vI (nI a), vI (nI b), vI (nI c), vI (nI e)] [vI (1 : Int32)] σ _
              refine WS.br (P := (1 : Int32) = 0) (a := 59) (b := 118) (S' := []) rfl (fun cc => absurd cc (by decide)) (fun _ => ?_)
              refine WS.run (C := []) (pc' := 123) (L' := [vR 51 0, vI (nI a), vI (nI b), vI (nI c), vI (nI e)]) (S' := [vI (1 : Int32)]) (σ' := σ) 2 rfl trivial ?_
              exact WS.ret rfl rfl (by decide) rfl (h1 ⟨(fun z => z.elim (fun z => z.elim q1 q3) (fun z => z.elim q2 q4)), (near_meet _ _ _).mpr ⟨(by rw [t_eq, t_0] at c5; omega), Or.inl q6⟩⟩)
            · show WS _ M_MD_isClose 56 [vR 51 0, vI (nI a), vI (nI b), vI (nI c), vI (nI e)] [vI (0 : Int32)] σ _
              refine WS.br (P := (0 : Int32) = 0) (a := 59) (b := 118) (S' := []) rfl (fun _ => ?_) (fun cc => absurd (by decide) cc)
              refine WS.run (C := []) (pc' := 68) (L' := [vR 51 0, vI (nI a), vI (nI b), vI (nI c), vI (nI e)]) (S' := [vI (gI σ 51 0 9), vI (nI e), vI (nI c), vI (nI a), vR 51 0]) (σ' := σ) 6 rfl trivial ?_
              refine WS.callV M_MD_far (k := 51) (i := 0) (as := [vI (nI a), vI (nI c), vI (nI e), vI (gI σ 51 0 9)]) (rest := []) rfl lk_11_138 rfl rfl rfl (Nat.le_of_ble_eq_true rfl) ?_
              refine c_Mfar ha hc he hg (fun r7 e7 => ?_)
              show WS _ M_MD_isClose 71 [vR 51 0, vI (nI a), vI (nI b), vI (nI c), vI (nI e)] [vI r7] σ _
              refine WS.br (P := r7 < 0) (a := 118) (b := 74) (S' := []) rfl (fun c8 => ?_) (fun c8 => ?_)
              · refine WS.run (C := []) (pc' := 123) (L' := [vR 51 0, vI (nI a), vI (nI b), vI (nI c), vI (nI e)]) (S' := [vI (1 : Int32)]) (σ' := σ) 2 rfl trivial ?_
                exact WS.ret rfl rfl (by decide) rfl (h1 ⟨(fun z => z.elim (fun z => z.elim q1 q3) (fun z => z.elim q2 q4)), (near_meet _ _ _).mpr ⟨(by rw [t_eq, t_0] at c5; omega), Or.inr (Or.inl (sg_p e7 c8))⟩⟩)
              · refine WS.run (C := []) (pc' := 83) (L' := [vR 51 0, vI (nI a), vI (nI b), vI (nI c), vI (nI e)]) (S' := [vI (gI σ 51 0 9), vI (nI e), vI (nI c), vI (nI b), vR 51 0]) (σ' := σ) 6 rfl trivial ?_
                refine WS.callV M_MD_far (k := 51) (i := 0) (as := [vI (nI b), vI (nI c), vI (nI e), vI (gI σ 51 0 9)]) (rest := []) rfl lk_11_138 rfl rfl rfl (Nat.le_of_ble_eq_true rfl) ?_
                refine c_Mfar hb hc he hg (fun r9 e9 => ?_)
                show WS _ M_MD_isClose 86 [vR 51 0, vI (nI a), vI (nI b), vI (nI c), vI (nI e)] [vI r9] σ _
                refine WS.br (P := r9 < 0) (a := 118) (b := 89) (S' := []) rfl (fun c10 => ?_) (fun c10 => ?_)
                · refine WS.run (C := []) (pc' := 123) (L' := [vR 51 0, vI (nI a), vI (nI b), vI (nI c), vI (nI e)]) (S' := [vI (1 : Int32)]) (σ' := σ) 2 rfl trivial ?_
                  exact WS.ret rfl rfl (by decide) rfl (h1 ⟨(fun z => z.elim (fun z => z.elim q1 q3) (fun z => z.elim q2 q4)), (near_meet _ _ _).mpr ⟨(by rw [t_eq, t_0] at c5; omega), Or.inr (Or.inr (Or.inl (sg_p e9 c10)))⟩⟩)
                · refine WS.run (C := []) (pc' := 97) (L' := [vR 51 0, vI (nI a), vI (nI b), vI (nI c), vI (nI e)]) (S' := [vI (gI σ 51 0 9), vI (nI b), vI (nI a), vI (nI c), vR 51 0]) (σ' := σ) 6 rfl trivial ?_
                  refine WS.callV M_MD_far (k := 51) (i := 0) (as := [vI (nI c), vI (nI a), vI (nI b), vI (gI σ 51 0 9)]) (rest := []) rfl lk_11_138 rfl rfl rfl (Nat.le_of_ble_eq_true rfl) ?_
                  refine c_Mfar hc ha hb hg (fun r11 e11 => ?_)
                  show WS _ M_MD_isClose 100 [vR 51 0, vI (nI a), vI (nI b), vI (nI c), vI (nI e)] [vI r11] σ _
                  refine WS.br (P := r11 < 0) (a := 118) (b := 103) (S' := []) rfl (fun c12 => ?_) (fun c12 => ?_)
                  · refine WS.run (C := []) (pc' := 123) (L' := [vR 51 0, vI (nI a), vI (nI b), vI (nI c), vI (nI e)]) (S' := [vI (1 : Int32)]) (σ' := σ) 2 rfl trivial ?_
                    exact WS.ret rfl rfl (by decide) rfl (h1 ⟨(fun z => z.elim (fun z => z.elim q1 q3) (fun z => z.elim q2 q4)), (near_meet _ _ _).mpr ⟨(by rw [t_eq, t_0] at c5; omega), Or.inr (Or.inr (Or.inr (Or.inl (sg_p e11 c12))))⟩⟩)
                  · refine WS.run (C := []) (pc' := 112) (L' := [vR 51 0, vI (nI a), vI (nI b), vI (nI c), vI (nI e)]) (S' := [vI (gI σ 51 0 9), vI (nI b), vI (nI a), vI (nI e), vR 51 0]) (σ' := σ) 6 rfl trivial ?_
                    refine WS.callV M_MD_far (k := 51) (i := 0) (as := [vI (nI e), vI (nI a), vI (nI b), vI (gI σ 51 0 9)]) (rest := []) rfl lk_11_138 rfl rfl rfl (Nat.le_of_ble_eq_true rfl) ?_
                    refine c_Mfar he ha hb hg (fun r13 e13 => ?_)
                    show WS _ M_MD_isClose 115 [vR 51 0, vI (nI a), vI (nI b), vI (nI c), vI (nI e)] [vI r13] σ _
                    refine WS.br (P := 0 ≤ r13) (a := 122) (b := 118) (S' := []) rfl (fun c14 => ?_) (fun c14 => ?_)
                    · refine WS.run (C := []) (pc' := 123) (L' := [vR 51 0, vI (nI a), vI (nI b), vI (nI c), vI (nI e)]) (S' := [vI (0 : Int32)]) (σ' := σ) 1 rfl trivial ?_
                      exact WS.ret rfl rfl (by decide) rfl (h0 (fun z => ((near_meet _ _ _).mp z.2).2.elim q6 (fun z => z.elim (sg_n e7 c8) (fun z => z.elim (sg_n e9 c10) (fun z => z.elim (sg_n e11 c12) (sg_n2 e13 c14))))))
                    · refine WS.run (C := []) (pc' := 123) (L' := [vR 51 0, vI (nI a), vI (nI b), vI (nI c), vI (nI e)]) (S' := [vI (1 : Int32)]) (σ' := σ) 2 rfl trivial ?_
                      exact WS.ret rfl rfl (by decide) rfl (h1 ⟨(fun z => z.elim (fun z => z.elim q1 q3) (fun z => z.elim q2 q4)), (near_meet _ _ _).mpr ⟨(by rw [t_eq, t_0] at c5; omega), Or.inr (Or.inr (Or.inr (Or.inr (sg_p2 e13 c14))))⟩⟩)
set_option maxRecDepth 4000 in
set_option maxHeartbeats 400000 in
theorem c_Mleast {d : Nat} {σ : Mem} {Post : Option AV → Mem → Prop} {x y : Int32} (h : ∀ r : Int32, r.toInt = min x.toInt y.toInt → Post (some (vI r)) σ) : MM d M_MD_least [vI x, vI y] σ Post := by
  refine MM.of ok_MD_least rfl ?_
  show WS _ M_MD_least 0 [vI x, vI y] [] σ _
  refine WS.run (C := []) (pc' := 2) (L' := [vI x, vI y]) (S' := [vI y, vI x]) (σ' := σ) 2 rfl trivial ?_
  refine WS.br (P := y ≤ x) (a := 9) (b := 5) (S' := []) rfl (fun c1 => ?_) (fun c1 => ?_)
  · refine WS.run (C := []) (pc' := 10) (L' := [vI x, vI y]) (S' := [vI y]) (σ' := σ) 1 rfl trivial ?_
    exact WS.ret rfl rfl (by decide) rfl (h _ (by simp only [t_lt, t_le] at *; omega))
  · refine WS.run (C := []) (pc' := 10) (L' := [vI x, vI y]) (S' := [vI x]) (σ' := σ) 2 rfl trivial ?_
    exact WS.ret rfl rfl (by decide) rfl (h _ (by simp only [t_lt, t_le] at *; omega))
set_option maxRecDepth 4000 in
set_option maxHeartbeats 400000 in
theorem c_Mmost {d : Nat} {σ : Mem} {Post : Option AV → Mem → Prop} {x y : Int32} (h : ∀ r : Int32, r.toInt = max x.toInt y.toInt → Post (some (vI r)) σ) : MM d M_MD_most [vI x, vI y] σ Post := by
  refine MM.of ok_MD_most rfl ?_
  show WS _ M_MD_most 0 [vI x, vI y] [] σ _
  refine WS.run (C := []) (pc' := 2) (L' := [vI x, vI y]) (S' := [vI y, vI x]) (σ' := σ) 2 rfl trivial ?_
  refine WS.br (P := x ≤ y) (a := 9) (b := 5) (S' := []) rfl (fun c1 => ?_) (fun c1 => ?_)
  · refine WS.run (C := []) (pc' := 10) (L' := [vI x, vI y]) (S' := [vI y]) (σ' := σ) 1 rfl trivial ?_
    exact WS.ret rfl rfl (by decide) rfl (h _ (by simp only [t_lt, t_le] at *; omega))
  · refine WS.run (C := []) (pc' := 10) (L' := [vI x, vI y]) (S' := [vI x]) (σ' := σ) 2 rfl trivial ?_
    exact WS.ret rfl rfl (by decide) rfl (h _ (by simp only [t_lt, t_le] at *; omega))
set_option maxRecDepth 4000 in
set_option maxHeartbeats 400000 in
theorem c_Mcrosses {d : Nat} {σ : Mem} {Post : Option AV → Mem → Prop} {a b c e : Nat} (ha : mP σ a) (hb : mP σ b) (hc : mP σ c) (he : mP σ e) (h1 : crossZ (lnM σ a b) (lnM σ c e) → Post (some (vI 1)) σ) (h0 : ¬ crossZ (lnM σ a b) (lnM σ c e) → Post (some (vI 0)) σ) : MM (d + 1) M_MD_crosses [vR 51 0, vI (nI a), vI (nI b), vI (nI c), vI (nI e)] σ Post := by
  have e_a : (nI a).toNatClampNeg = a := cl_n (by have := ha.1; omega)
  have e_b : (nI b).toNatClampNeg = b := cl_n (by have := hb.1; omega)
  have e_c : (nI c).toNatClampNeg = c := cl_n (by have := hc.1; omega)
  have e_e : (nI e).toNatClampNeg = e := cl_n (by have := he.1; omega)
  refine MM.of ok_MD_crosses rfl ?_
  show WS _ M_MD_crosses 0 [vR 51 0, vI (nI a), vI (nI b), vI (nI c), vI (nI e), vU, vU, vU, vU] [] σ _
  refine WS.run (C := []) (pc' := 4) (L' := [vR 51 0, vI (nI a), vI (nI b), vI (nI c), vI (nI e), vU, vU, vU, vU]) (S' := [vI (nI c), vI (nI b), vI (nI a), vR 51 0]) (σ' := σ) 4 rfl trivial ?_
  refine WS.callV M_MD_cross (k := 51) (i := 0) (as := [vI (nI a), vI (nI b), vI (nI c)]) (rest := []) rfl lk_11_134 rfl rfl rfl (Nat.le_of_ble_eq_true rfl) ?_
  refine c_Mcross ha hb hc (fun r1 e1 => ?_)
  show WS _ M_MD_crosses 7 [vR 51 0, vI (nI a), vI (nI b), vI (nI c), vI (nI e), vU, vU, vU, vU] [vJ r1] σ _
  refine WS.callS M_MD_signOf (as := [vJ r1]) (rest := []) rfl lk_11_130 rfl rfl (Nat.le_of_ble_eq_true rfl) ?_
  refine c_MsignOf  (fun r2 e2 => ?_)
  show WS _ M_MD_crosses 10 [vR 51 0, vI (nI a), vI (nI b), vI (nI c), vI (nI e), vU, vU, vU, vU] [vI r2] σ _
  refine WS.run (C := []) (pc' := 17) (L' := [vR 51 0, vI (nI a), vI (nI b), vI (nI c), vI (nI e), vI r2, vU, vU, vU]) (S' := [vI (nI e), vI (nI b), vI (nI a), vR 51 0]) (σ' := σ) 5 rfl trivial ?_
  refine WS.callV M_MD_cross (k := 51) (i := 0) (as := [vI (nI a), vI (nI b), vI (nI e)]) (rest := []) rfl lk_11_134 rfl rfl rfl (Nat.le_of_ble_eq_true rfl) ?_
  refine c_Mcross ha hb he (fun r3 e3 => ?_)
  show WS _ M_MD_crosses 20 [vR 51 0, vI (nI a), vI (nI b), vI (nI c), vI (nI e), vI r2, vU, vU, vU] [vJ r3] σ _
  refine WS.callS M_MD_signOf (as := [vJ r3]) (rest := []) rfl lk_11_130 rfl rfl (Nat.le_of_ble_eq_true rfl) ?_
  refine c_MsignOf  (fun r4 e4 => ?_)
  show WS _ M_MD_crosses 23 [vR 51 0, vI (nI a), vI (nI b), vI (nI c), vI (nI e), vI r2, vU, vU, vU] [vI r4] σ _
  refine WS.run (C := []) (pc' := 30) (L' := [vR 51 0, vI (nI a), vI (nI b), vI (nI c), vI (nI e), vI r2, vI r4, vU, vU]) (S' := [vI (nI a), vI (nI e), vI (nI c), vR 51 0]) (σ' := σ) 5 rfl trivial ?_
  refine WS.callV M_MD_cross (k := 51) (i := 0) (as := [vI (nI c), vI (nI e), vI (nI a)]) (rest := []) rfl lk_11_134 rfl rfl rfl (Nat.le_of_ble_eq_true rfl) ?_
  refine c_Mcross hc he ha (fun r5 e5 => ?_)
  show WS _ M_MD_crosses 33 [vR 51 0, vI (nI a), vI (nI b), vI (nI c), vI (nI e), vI r2, vI r4, vU, vU] [vJ r5] σ _
  refine WS.callS M_MD_signOf (as := [vJ r5]) (rest := []) rfl lk_11_130 rfl rfl (Nat.le_of_ble_eq_true rfl) ?_
  refine c_MsignOf  (fun r6 e6 => ?_)
  show WS _ M_MD_crosses 36 [vR 51 0, vI (nI a), vI (nI b), vI (nI c), vI (nI e), vI r2, vI r4, vU, vU] [vI r6] σ _
  refine WS.run (C := []) (pc' := 43) (L' := [vR 51 0, vI (nI a), vI (nI b), vI (nI c), vI (nI e), vI r2, vI r4, vI r6, vU]) (S' := [vI (nI b), vI (nI e), vI (nI c), vR 51 0]) (σ' := σ) 5 rfl trivial ?_
  refine WS.callV M_MD_cross (k := 51) (i := 0) (as := [vI (nI c), vI (nI e), vI (nI b)]) (rest := []) rfl lk_11_134 rfl rfl rfl (Nat.le_of_ble_eq_true rfl) ?_
  refine c_Mcross hc he hb (fun r7 e7 => ?_)
  show WS _ M_MD_crosses 46 [vR 51 0, vI (nI a), vI (nI b), vI (nI c), vI (nI e), vI r2, vI r4, vI r6, vU] [vJ r7] σ _
  refine WS.callS M_MD_signOf (as := [vJ r7]) (rest := []) rfl lk_11_130 rfl rfl (Nat.le_of_ble_eq_true rfl) ?_
  refine c_MsignOf  (fun r8 e8 => ?_)
  show WS _ M_MD_crosses 49 [vR 51 0, vI (nI a), vI (nI b), vI (nI c), vI (nI e), vI r2, vI r4, vI r6, vU] [vI r8] σ _
  refine WS.run (C := []) (pc' := 56) (L' := [vR 51 0, vI (nI a), vI (nI b), vI (nI c), vI (nI e), vI r2, vI r4, vI r6, vI r8]) (S' := [vI (r2 * r4)]) (σ' := σ) 4 rfl trivial ?_
  refine WS.br (P := 0 ≤ (r2 * r4)) (a := 69) (b := 59) (S' := []) rfl (fun c9 => ?_) (fun c9 => ?_)
  · refine WS.run (C := []) (pc' := 71) (L' := [vR 51 0, vI (nI a), vI (nI b), vI (nI c), vI (nI e), vI r2, vI r4, vI r6, vI r8]) (S' := [vI r2]) (σ' := σ) 1 rfl trivial ?_
    refine WS.br (P := r2 = 0) (a := 74) (b := 108) (S' := []) rfl (fun c10 => ?_) (fun c10 => ?_)
    · refine WS.run (C := []) (pc' := 76) (L' := [vR 51 0, vI (nI a), vI (nI b), vI (nI c), vI (nI e), vI r2, vI r4, vI r6, vI r8]) (S' := [vI r4]) (σ' := σ) 1 rfl trivial ?_
      refine WS.br (P := r4 = 0) (a := 79) (b := 108) (S' := []) rfl (fun c11 => ?_) (fun c11 => ?_)
      · refine WS.run (C := []) (pc' := 81) (L' := [vR 51 0, vI (nI a), vI (nI b), vI (nI c), vI (nI e), vI r2, vI r4, vI r6, vI r8]) (S' := [vI r6]) (σ' := σ) 1 rfl trivial ?_
        refine WS.br (P := r6 = 0) (a := 84) (b := 108) (S' := []) rfl (fun c12 => ?_) (fun c12 => ?_)
        · refine WS.run (C := []) (pc' := 86) (L' := [vR 51 0, vI (nI a), vI (nI b), vI (nI c), vI (nI e), vI r2, vI r4, vI r6, vI r8]) (S' := [vI r8]) (σ' := σ) 1 rfl trivial ?_
          refine WS.br (P := r8 = 0) (a := 89) (b := 108) (S' := []) rfl (fun c13 => ?_) (fun c13 => ?_)
          · refine WS.run (C := []) (pc' := 92) (L' := [vR 51 0, vI (nI a), vI (nI b), vI (nI c), vI (nI e), vI r2, vI r4, vI r6, vI r8]) (S' := [vI (nI b), vI (nI a), vR 51 0]) (σ' := σ) 3 rfl trivial ?_
            refine WS.callV M_MD_isSame (k := 51) (i := 0) (as := [vI (nI a), vI (nI b)]) (rest := []) rfl lk_11_157 rfl rfl rfl (Nat.le_of_ble_eq_true rfl) ?_
            refine c_MisSame ha hb (fun q14 => ?_) (fun q14 => ?_)
            · show WS _ M_MD_crosses 95 [vR 51 0, vI (nI a), vI (nI b), vI (nI c), vI (nI e), vI r2, vI r4, vI r6, vI r8] [vI (1 : Int32)] σ _
              refine WS.br (P := (1 : Int32) = 0) (a := 98) (b := 108) (S' := []) rfl (fun cc => absurd cc (by decide)) (fun _ => ?_)
              refine WS.run (C := []) (pc' := 109) (L' := [vR 51 0, vI (nI a), vI (nI b), vI (nI c), vI (nI e), vI r2, vI r4, vI r6, vI r8]) (S' := [vI (0 : Int32)]) (σ' := σ) 1 rfl trivial ?_
              exact WS.ret rfl rfl (by decide) rfl (h0 (fun z => z.elim (fun z => by have w := (cut_of (l := lnM σ a b) (m := lnM σ c e) (by rw [e2, e1]; rfl) (by rw [e4, e3]; rfl) (by rw [e6, e5]; rfl) (by rw [e8, e7]; rfl)).mp z; simp only [t_le, t_0] at c9; omega) (fun z => ((over_iff _ _).mpr z).2.2.2.2.1 q14)))
            · show WS _ M_MD_crosses 95 [vR 51 0, vI (nI a), vI (nI b), vI (nI c), vI (nI e), vI r2, vI r4, vI r6, vI r8] [vI (0 : Int32)] σ _
              refine WS.br (P := (0 : Int32) = 0) (a := 98) (b := 108) (S' := []) rfl (fun _ => ?_) (fun cc => absurd (by decide) cc)
              refine WS.run (C := []) (pc' := 102) (L' := [vR 51 0, vI (nI a), vI (nI b), vI (nI c), vI (nI e), vI r2, vI r4, vI r6, vI r8]) (S' := [vI (nI e), vI (nI c), vR 51 0]) (σ' := σ) 3 rfl trivial ?_
              refine WS.callV M_MD_isSame (k := 51) (i := 0) (as := [vI (nI c), vI (nI e)]) (rest := []) rfl lk_11_157 rfl rfl rfl (Nat.le_of_ble_eq_true rfl) ?_
              refine c_MisSame hc he (fun q15 => ?_) (fun q15 => ?_)
              · show WS _ M_MD_crosses 105 [vR 51 0, vI (nI a), vI (nI b), vI (nI c), vI (nI e), vI r2, vI r4, vI r6, vI r8] [vI (1 : Int32)] σ _
                refine WS.br (P := (1 : Int32) = 0) (a := 110) (b := 108) (S' := []) rfl (fun cc => absurd cc (by decide)) (fun _ => ?_)
                refine WS.run (C := []) (pc' := 109) (L' := [vR 51 0, vI (nI a), vI (nI b), vI (nI c), vI (nI e), vI r2, vI r4, vI r6, vI r8]) (S' := [vI (0 : Int32)]) (σ' := σ) 1 rfl trivial ?_
                exact WS.ret rfl rfl (by decide) rfl (h0 (fun z => z.elim (fun z => by have w := (cut_of (l := lnM σ a b) (m := lnM σ c e) (by rw [e2, e1]; rfl) (by rw [e4, e3]; rfl) (by rw [e6, e5]; rfl) (by rw [e8, e7]; rfl)).mp z; simp only [t_le, t_0] at c9; omega) (fun z => ((over_iff _ _).mpr z).2.2.2.2.2.1 q15)))
              · show WS _ M_MD_crosses 105 [vR 51 0, vI (nI a), vI (nI b), vI (nI c), vI (nI e), vI r2, vI r4, vI r6, vI r8] [vI (0 : Int32)] σ _
                refine WS.br (P := (0 : Int32) = 0) (a := 110) (b := 108) (S' := []) rfl (fun _ => ?_) (fun cc => absurd (by decide) cc)
                refine WS.run (C := [vp_in (nI a) 240, vp_in (nI b) 240]) (pc' := 122) (L' := [vR 51 0, vI (nI a), vI (nI b), vI (nI c), vI (nI e), vI r2, vI r4, vI r6, vI r8]) (S' := [vI (gI σ 56 0 (nI b).toNatClampNeg), vI (gI σ 56 0 (nI a).toNatClampNeg)]) (σ' := σ) 8 rfl ⟨(vp_n (by have := ha.1; omega) (by omega)), (vp_n (by have := hb.1; omega) (by omega)), trivial⟩ ?_
                simp only [e_a, e_b, e_c, e_e]
                refine WS.br (P := (gI σ 56 0 a) = (gI σ 56 0 b)) (a := 202) (b := 125) (S' := []) rfl (fun c16 => ?_) (fun c16 => ?_)
                · refine WS.run (C := [vp_in (nI a) 240, vp_in (nI b) 240]) (pc' := 214) (L' := [vR 51 0, vI (nI a), vI (nI b), vI (nI c), vI (nI e), vI r2, vI r4, vI r6, vI r8]) (S' := [vI (gI σ 57 0 (nI b).toNatClampNeg), vI (gI σ 57 0 (nI a).toNatClampNeg)]) (σ' := σ) 8 rfl ⟨(vp_n (by have := ha.1; omega) (by omega)), (vp_n (by have := hb.1; omega) (by omega)), trivial⟩ ?_
                  simp only [e_a, e_b, e_c, e_e]
                  refine WS.callS M_MD_least (as := [vI (gI σ 57 0 a), vI (gI σ 57 0 b)]) (rest := []) rfl lk_11_164 rfl rfl (Nat.le_of_ble_eq_true rfl) ?_
                  refine c_Mleast  (fun r17 e17 => ?_)
                  show WS _ M_MD_crosses 217 [vR 51 0, vI (nI a), vI (nI b), vI (nI c), vI (nI e), vI r2, vI r4, vI r6, vI r8] [vI r17] σ _
                  refine WS.run (C := [vp_in (nI c) 240, vp_in (nI e) 240]) (pc' := 230) (L' := [vR 51 0, vI (nI a), vI (nI b), vI (nI c), vI (nI e), vI r2, vI r4, vI r6, vI r8]) (S' := [vI (gI σ 57 0 (nI e).toNatClampNeg), vI (gI σ 57 0 (nI c).toNatClampNeg), vI r17]) (σ' := σ) 8 rfl ⟨(vp_n (by have := hc.1; omega) (by omega)), (vp_n (by have := he.1; omega) (by omega)), trivial⟩ ?_
                  simp only [e_a, e_b, e_c, e_e]
                  refine WS.callS M_MD_least (as := [vI (gI σ 57 0 c), vI (gI σ 57 0 e)]) (rest := [vI r17]) rfl lk_11_164 rfl rfl (Nat.le_of_ble_eq_true rfl) ?_
                  refine c_Mleast  (fun r18 e18 => ?_)
                  show WS _ M_MD_crosses 233 [vR 51 0, vI (nI a), vI (nI b), vI (nI c), vI (nI e), vI r2, vI r4, vI r6, vI r8] [vI r18, vI r17] σ _
                  refine WS.callS M_MD_most (as := [vI r17, vI r18]) (rest := []) rfl lk_11_167 rfl rfl (Nat.le_of_ble_eq_true rfl) ?_
                  refine c_Mmost  (fun r19 e19 => ?_)
                  show WS _ M_MD_crosses 236 [vR 51 0, vI (nI a), vI (nI b), vI (nI c), vI (nI e), vI r2, vI r4, vI r6, vI r8] [vI r19] σ _
                  refine WS.run (C := [vp_in (nI a) 240, vp_in (nI b) 240]) (pc' := 248) (L' := [vR 51 0, vI (nI a), vI (nI b), vI (nI c), vI (nI e), vI r2, vI r4, vI r6, vI r8]) (S' := [vI (gI σ 57 0 (nI b).toNatClampNeg), vI (gI σ 57 0 (nI a).toNatClampNeg), vI r19]) (σ' := σ) 8 rfl ⟨(vp_n (by have := ha.1; omega) (by omega)), (vp_n (by have := hb.1; omega) (by omega)), trivial⟩ ?_
                  simp only [e_a, e_b, e_c, e_e]
                  refine WS.callS M_MD_most (as := [vI (gI σ 57 0 a), vI (gI σ 57 0 b)]) (rest := [vI r19]) rfl lk_11_167 rfl rfl (Nat.le_of_ble_eq_true rfl) ?_
                  refine c_Mmost  (fun r20 e20 => ?_)
                  show WS _ M_MD_crosses 251 [vR 51 0, vI (nI a), vI (nI b), vI (nI c), vI (nI e), vI r2, vI r4, vI r6, vI r8] [vI r20, vI r19] σ _
                  refine WS.run (C := [vp_in (nI c) 240, vp_in (nI e) 240]) (pc' := 264) (L' := [vR 51 0, vI (nI a), vI (nI b), vI (nI c), vI (nI e), vI r2, vI r4, vI r6, vI r8]) (S' := [vI (gI σ 57 0 (nI e).toNatClampNeg), vI (gI σ 57 0 (nI c).toNatClampNeg), vI r20, vI r19]) (σ' := σ) 8 rfl ⟨(vp_n (by have := hc.1; omega) (by omega)), (vp_n (by have := he.1; omega) (by omega)), trivial⟩ ?_
                  simp only [e_a, e_b, e_c, e_e]
                  refine WS.callS M_MD_most (as := [vI (gI σ 57 0 c), vI (gI σ 57 0 e)]) (rest := [vI r20, vI r19]) rfl lk_11_167 rfl rfl (Nat.le_of_ble_eq_true rfl) ?_
                  refine c_Mmost  (fun r21 e21 => ?_)
                  show WS _ M_MD_crosses 267 [vR 51 0, vI (nI a), vI (nI b), vI (nI c), vI (nI e), vI r2, vI r4, vI r6, vI r8] [vI r21, vI r20, vI r19] σ _
                  refine WS.callS M_MD_least (as := [vI r20, vI r21]) (rest := [vI r19]) rfl lk_11_164 rfl rfl (Nat.le_of_ble_eq_true rfl) ?_
                  refine c_Mleast  (fun r22 e22 => ?_)
                  show WS _ M_MD_crosses 270 [vR 51 0, vI (nI a), vI (nI b), vI (nI c), vI (nI e), vI r2, vI r4, vI r6, vI r8] [vI r22, vI r19] σ _
                  refine WS.br (P := r22 ≤ r19) (a := 277) (b := 273) (S' := []) rfl (fun c23 => ?_) (fun c23 => ?_)
                  · refine WS.run (C := []) (pc' := 278) (L' := [vR 51 0, vI (nI a), vI (nI b), vI (nI c), vI (nI e), vI r2, vI r4, vI r6, vI r8]) (S' := [vI (0 : Int32)]) (σ' := σ) 1 rfl trivial ?_
                    exact WS.ret rfl rfl (by decide) rfl (h0 (fun z => z.elim (fun z => by have w := (cut_of (l := lnM σ a b) (m := lnM σ c e) (by rw [e2, e1]; rfl) (by rw [e4, e3]; rfl) (by rw [e6, e5]; rfl) (by rw [e8, e7]; rfl)).mp z; simp only [t_le, t_0] at c9; omega) (fun z => by have w := ((over_iff _ _).mpr z).2.2.2.2.2.2; clear h1 h0 z; unfold lnM mX mY at w; dsimp only at w; simp only [t_lt, t_le, t_eq] at c16 c23; omega)))
                  · refine WS.run (C := []) (pc' := 278) (L' := [vR 51 0, vI (nI a), vI (nI b), vI (nI c), vI (nI e), vI r2, vI r4, vI r6, vI r8]) (S' := [vI (1 : Int32)]) (σ' := σ) 2 rfl trivial ?_
                    exact WS.ret rfl rfl (by decide) rfl (h1 (Or.inr ((over_iff _ _).mp ⟨(sgn_eq.mp (by have y := c10; rw [t_eq, t_0, e2, e1] at y; exact y)), (sgn_eq.mp (by have y := c11; rw [t_eq, t_0, e4, e3] at y; exact y)), (sgn_eq.mp (by have y := c12; rw [t_eq, t_0, e6, e5] at y; exact y)), (sgn_eq.mp (by have y := c13; rw [t_eq, t_0, e8, e7] at y; exact y)), q14, q15, (by clear h1 h0; unfold lnM mX mY; dsimp only; simp only [t_lt, t_le, t_eq] at c16 c23; omega)⟩)))
                · refine WS.run (C := [vp_in (nI a) 240, vp_in (nI b) 240]) (pc' := 137) (L' := [vR 51 0, vI (nI a), vI (nI b), vI (nI c), vI (nI e), vI r2, vI r4, vI r6, vI r8]) (S' := [vI (gI σ 56 0 (nI b).toNatClampNeg), vI (gI σ 56 0 (nI a).toNatClampNeg)]) (σ' := σ) 8 rfl ⟨(vp_n (by have := ha.1; omega) (by omega)), (vp_n (by have := hb.1; omega) (by omega)), trivial⟩ ?_
                  simp only [e_a, e_b, e_c, e_e]
                  refine WS.callS M_MD_least (as := [vI (gI σ 56 0 a), vI (gI σ 56 0 b)]) (rest := []) rfl lk_11_164 rfl rfl (Nat.le_of_ble_eq_true rfl) ?_
                  refine c_Mleast  (fun r24 e24 => ?_)
                  show WS _ M_MD_crosses 140 [vR 51 0, vI (nI a), vI (nI b), vI (nI c), vI (nI e), vI r2, vI r4, vI r6, vI r8] [vI r24] σ _
                  refine WS.run (C := [vp_in (nI c) 240, vp_in (nI e) 240]) (pc' := 153) (L' := [vR 51 0, vI (nI a), vI (nI b), vI (nI c), vI (nI e), vI r2, vI r4, vI r6, vI r8]) (S' := [vI (gI σ 56 0 (nI e).toNatClampNeg), vI (gI σ 56 0 (nI c).toNatClampNeg), vI r24]) (σ' := σ) 8 rfl ⟨(vp_n (by have := hc.1; omega) (by omega)), (vp_n (by have := he.1; omega) (by omega)), trivial⟩ ?_
                  simp only [e_a, e_b, e_c, e_e]
                  refine WS.callS M_MD_least (as := [vI (gI σ 56 0 c), vI (gI σ 56 0 e)]) (rest := [vI r24]) rfl lk_11_164 rfl rfl (Nat.le_of_ble_eq_true rfl) ?_
                  refine c_Mleast  (fun r25 e25 => ?_)
                  show WS _ M_MD_crosses 156 [vR 51 0, vI (nI a), vI (nI b), vI (nI c), vI (nI e), vI r2, vI r4, vI r6, vI r8] [vI r25, vI r24] σ _
                  refine WS.callS M_MD_most (as := [vI r24, vI r25]) (rest := []) rfl lk_11_167 rfl rfl (Nat.le_of_ble_eq_true rfl) ?_
                  refine c_Mmost  (fun r26 e26 => ?_)
                  show WS _ M_MD_crosses 159 [vR 51 0, vI (nI a), vI (nI b), vI (nI c), vI (nI e), vI r2, vI r4, vI r6, vI r8] [vI r26] σ _
                  refine WS.run (C := [vp_in (nI a) 240, vp_in (nI b) 240]) (pc' := 171) (L' := [vR 51 0, vI (nI a), vI (nI b), vI (nI c), vI (nI e), vI r2, vI r4, vI r6, vI r8]) (S' := [vI (gI σ 56 0 (nI b).toNatClampNeg), vI (gI σ 56 0 (nI a).toNatClampNeg), vI r26]) (σ' := σ) 8 rfl ⟨(vp_n (by have := ha.1; omega) (by omega)), (vp_n (by have := hb.1; omega) (by omega)), trivial⟩ ?_
                  simp only [e_a, e_b, e_c, e_e]
                  refine WS.callS M_MD_most (as := [vI (gI σ 56 0 a), vI (gI σ 56 0 b)]) (rest := [vI r26]) rfl lk_11_167 rfl rfl (Nat.le_of_ble_eq_true rfl) ?_
                  refine c_Mmost  (fun r27 e27 => ?_)
                  show WS _ M_MD_crosses 174 [vR 51 0, vI (nI a), vI (nI b), vI (nI c), vI (nI e), vI r2, vI r4, vI r6, vI r8] [vI r27, vI r26] σ _
                  refine WS.run (C := [vp_in (nI c) 240, vp_in (nI e) 240]) (pc' := 187) (L' := [vR 51 0, vI (nI a), vI (nI b), vI (nI c), vI (nI e), vI r2, vI r4, vI r6, vI r8]) (S' := [vI (gI σ 56 0 (nI e).toNatClampNeg), vI (gI σ 56 0 (nI c).toNatClampNeg), vI r27, vI r26]) (σ' := σ) 8 rfl ⟨(vp_n (by have := hc.1; omega) (by omega)), (vp_n (by have := he.1; omega) (by omega)), trivial⟩ ?_
                  simp only [e_a, e_b, e_c, e_e]
                  refine WS.callS M_MD_most (as := [vI (gI σ 56 0 c), vI (gI σ 56 0 e)]) (rest := [vI r27, vI r26]) rfl lk_11_167 rfl rfl (Nat.le_of_ble_eq_true rfl) ?_
                  refine c_Mmost  (fun r28 e28 => ?_)
                  show WS _ M_MD_crosses 190 [vR 51 0, vI (nI a), vI (nI b), vI (nI c), vI (nI e), vI r2, vI r4, vI r6, vI r8] [vI r28, vI r27, vI r26] σ _
                  refine WS.callS M_MD_least (as := [vI r27, vI r28]) (rest := [vI r26]) rfl lk_11_164 rfl rfl (Nat.le_of_ble_eq_true rfl) ?_
                  refine c_Mleast  (fun r29 e29 => ?_)
                  show WS _ M_MD_crosses 193 [vR 51 0, vI (nI a), vI (nI b), vI (nI c), vI (nI e), vI r2, vI r4, vI r6, vI r8] [vI r29, vI r26] σ _
                  refine WS.br (P := r29 ≤ r26) (a := 200) (b := 196) (S' := []) rfl (fun c30 => ?_) (fun c30 => ?_)
                  · refine WS.run (C := []) (pc' := 201) (L' := [vR 51 0, vI (nI a), vI (nI b), vI (nI c), vI (nI e), vI r2, vI r4, vI r6, vI r8]) (S' := [vI (0 : Int32)]) (σ' := σ) 1 rfl trivial ?_
                    exact WS.ret rfl rfl (by decide) rfl (h0 (fun z => z.elim (fun z => by have w := (cut_of (l := lnM σ a b) (m := lnM σ c e) (by rw [e2, e1]; rfl) (by rw [e4, e3]; rfl) (by rw [e6, e5]; rfl) (by rw [e8, e7]; rfl)).mp z; simp only [t_le, t_0] at c9; omega) (fun z => by have w := ((over_iff _ _).mpr z).2.2.2.2.2.2; clear h1 h0 z; unfold lnM mX mY at w; dsimp only at w; simp only [t_lt, t_le, t_eq] at c16 c30; omega)))
                  · refine WS.run (C := []) (pc' := 201) (L' := [vR 51 0, vI (nI a), vI (nI b), vI (nI c), vI (nI e), vI r2, vI r4, vI r6, vI r8]) (S' := [vI (1 : Int32)]) (σ' := σ) 2 rfl trivial ?_
                    exact WS.ret rfl rfl (by decide) rfl (h1 (Or.inr ((over_iff _ _).mp ⟨(sgn_eq.mp (by have y := c10; rw [t_eq, t_0, e2, e1] at y; exact y)), (sgn_eq.mp (by have y := c11; rw [t_eq, t_0, e4, e3] at y; exact y)), (sgn_eq.mp (by have y := c12; rw [t_eq, t_0, e6, e5] at y; exact y)), (sgn_eq.mp (by have y := c13; rw [t_eq, t_0, e8, e7] at y; exact y)), q14, q15, (by clear h1 h0; unfold lnM mX mY; dsimp only; simp only [t_lt, t_le, t_eq] at c16 c30; omega)⟩)))
          · refine WS.run (C := []) (pc' := 109) (L' := [vR 51 0, vI (nI a), vI (nI b), vI (nI c), vI (nI e), vI r2, vI r4, vI r6, vI r8]) (S' := [vI (0 : Int32)]) (σ' := σ) 1 rfl trivial ?_
            exact WS.ret rfl rfl (by decide) rfl (h0 (fun z => z.elim (fun z => by have w := (cut_of (l := lnM σ a b) (m := lnM σ c e) (by rw [e2, e1]; rfl) (by rw [e4, e3]; rfl) (by rw [e6, e5]; rfl) (by rw [e8, e7]; rfl)).mp z; simp only [t_le, t_0] at c9; omega) (fun z => c13 (by rw [t_eq, t_0, e8, e7]; exact sgn_eq.mpr ((over_iff _ _).mpr z).2.2.2.1))))
        · refine WS.run (C := []) (pc' := 109) (L' := [vR 51 0, vI (nI a), vI (nI b), vI (nI c), vI (nI e), vI r2, vI r4, vI r6, vI r8]) (S' := [vI (0 : Int32)]) (σ' := σ) 1 rfl trivial ?_
          exact WS.ret rfl rfl (by decide) rfl (h0 (fun z => z.elim (fun z => by have w := (cut_of (l := lnM σ a b) (m := lnM σ c e) (by rw [e2, e1]; rfl) (by rw [e4, e3]; rfl) (by rw [e6, e5]; rfl) (by rw [e8, e7]; rfl)).mp z; simp only [t_le, t_0] at c9; omega) (fun z => c12 (by rw [t_eq, t_0, e6, e5]; exact sgn_eq.mpr ((over_iff _ _).mpr z).2.2.1))))
      · refine WS.run (C := []) (pc' := 109) (L' := [vR 51 0, vI (nI a), vI (nI b), vI (nI c), vI (nI e), vI r2, vI r4, vI r6, vI r8]) (S' := [vI (0 : Int32)]) (σ' := σ) 1 rfl trivial ?_
        exact WS.ret rfl rfl (by decide) rfl (h0 (fun z => z.elim (fun z => by have w := (cut_of (l := lnM σ a b) (m := lnM σ c e) (by rw [e2, e1]; rfl) (by rw [e4, e3]; rfl) (by rw [e6, e5]; rfl) (by rw [e8, e7]; rfl)).mp z; simp only [t_le, t_0] at c9; omega) (fun z => c11 (by rw [t_eq, t_0, e4, e3]; exact sgn_eq.mpr ((over_iff _ _).mpr z).2.1))))
    · refine WS.run (C := []) (pc' := 109) (L' := [vR 51 0, vI (nI a), vI (nI b), vI (nI c), vI (nI e), vI r2, vI r4, vI r6, vI r8]) (S' := [vI (0 : Int32)]) (σ' := σ) 1 rfl trivial ?_
      exact WS.ret rfl rfl (by decide) rfl (h0 (fun z => z.elim (fun z => by have w := (cut_of (l := lnM σ a b) (m := lnM σ c e) (by rw [e2, e1]; rfl) (by rw [e4, e3]; rfl) (by rw [e6, e5]; rfl) (by rw [e8, e7]; rfl)).mp z; simp only [t_le, t_0] at c9; omega) (fun z => c10 (by rw [t_eq, t_0, e2, e1]; exact sgn_eq.mpr ((over_iff _ _).mpr z).1))))
  · refine WS.run (C := []) (pc' := 64) (L' := [vR 51 0, vI (nI a), vI (nI b), vI (nI c), vI (nI e), vI r2, vI r4, vI r6, vI r8]) (S' := [vI (r6 * r8)]) (σ' := σ) 3 rfl trivial ?_
    refine WS.br (P := 0 ≤ (r6 * r8)) (a := 69) (b := 67) (S' := []) rfl (fun c31 => ?_) (fun c31 => ?_)
    · refine WS.run (C := []) (pc' := 71) (L' := [vR 51 0, vI (nI a), vI (nI b), vI (nI c), vI (nI e), vI r2, vI r4, vI r6, vI r8]) (S' := [vI r2]) (σ' := σ) 1 rfl trivial ?_
      refine WS.br (P := r2 = 0) (a := 74) (b := 108) (S' := []) rfl (fun c32 => ?_) (fun c32 => ?_)
      · refine WS.run (C := []) (pc' := 76) (L' := [vR 51 0, vI (nI a), vI (nI b), vI (nI c), vI (nI e), vI r2, vI r4, vI r6, vI r8]) (S' := [vI r4]) (σ' := σ) 1 rfl trivial ?_
        refine WS.br (P := r4 = 0) (a := 79) (b := 108) (S' := []) rfl (fun c33 => ?_) (fun c33 => ?_)
        · refine WS.run (C := []) (pc' := 81) (L' := [vR 51 0, vI (nI a), vI (nI b), vI (nI c), vI (nI e), vI r2, vI r4, vI r6, vI r8]) (S' := [vI r6]) (σ' := σ) 1 rfl trivial ?_
          refine WS.br (P := r6 = 0) (a := 84) (b := 108) (S' := []) rfl (fun c34 => ?_) (fun c34 => ?_)
          · refine WS.run (C := []) (pc' := 86) (L' := [vR 51 0, vI (nI a), vI (nI b), vI (nI c), vI (nI e), vI r2, vI r4, vI r6, vI r8]) (S' := [vI r8]) (σ' := σ) 1 rfl trivial ?_
            refine WS.br (P := r8 = 0) (a := 89) (b := 108) (S' := []) rfl (fun c35 => ?_) (fun c35 => ?_)
            · refine WS.run (C := []) (pc' := 92) (L' := [vR 51 0, vI (nI a), vI (nI b), vI (nI c), vI (nI e), vI r2, vI r4, vI r6, vI r8]) (S' := [vI (nI b), vI (nI a), vR 51 0]) (σ' := σ) 3 rfl trivial ?_
              refine WS.callV M_MD_isSame (k := 51) (i := 0) (as := [vI (nI a), vI (nI b)]) (rest := []) rfl lk_11_157 rfl rfl rfl (Nat.le_of_ble_eq_true rfl) ?_
              refine c_MisSame ha hb (fun q36 => ?_) (fun q36 => ?_)
              · show WS _ M_MD_crosses 95 [vR 51 0, vI (nI a), vI (nI b), vI (nI c), vI (nI e), vI r2, vI r4, vI r6, vI r8] [vI (1 : Int32)] σ _
                refine WS.br (P := (1 : Int32) = 0) (a := 98) (b := 108) (S' := []) rfl (fun cc => absurd cc (by decide)) (fun _ => ?_)
                refine WS.run (C := []) (pc' := 109) (L' := [vR 51 0, vI (nI a), vI (nI b), vI (nI c), vI (nI e), vI r2, vI r4, vI r6, vI r8]) (S' := [vI (0 : Int32)]) (σ' := σ) 1 rfl trivial ?_
                exact WS.ret rfl rfl (by decide) rfl (h0 (fun z => z.elim (fun z => by have w := (cut_of (l := lnM σ a b) (m := lnM σ c e) (by rw [e2, e1]; rfl) (by rw [e4, e3]; rfl) (by rw [e6, e5]; rfl) (by rw [e8, e7]; rfl)).mp z; simp only [t_le, t_0] at c31; omega) (fun z => ((over_iff _ _).mpr z).2.2.2.2.1 q36)))
              · show WS _ M_MD_crosses 95 [vR 51 0, vI (nI a), vI (nI b), vI (nI c), vI (nI e), vI r2, vI r4, vI r6, vI r8] [vI (0 : Int32)] σ _
                refine WS.br (P := (0 : Int32) = 0) (a := 98) (b := 108) (S' := []) rfl (fun _ => ?_) (fun cc => absurd (by decide) cc)
                refine WS.run (C := []) (pc' := 102) (L' := [vR 51 0, vI (nI a), vI (nI b), vI (nI c), vI (nI e), vI r2, vI r4, vI r6, vI r8]) (S' := [vI (nI e), vI (nI c), vR 51 0]) (σ' := σ) 3 rfl trivial ?_
                refine WS.callV M_MD_isSame (k := 51) (i := 0) (as := [vI (nI c), vI (nI e)]) (rest := []) rfl lk_11_157 rfl rfl rfl (Nat.le_of_ble_eq_true rfl) ?_
                refine c_MisSame hc he (fun q37 => ?_) (fun q37 => ?_)
                · show WS _ M_MD_crosses 105 [vR 51 0, vI (nI a), vI (nI b), vI (nI c), vI (nI e), vI r2, vI r4, vI r6, vI r8] [vI (1 : Int32)] σ _
                  refine WS.br (P := (1 : Int32) = 0) (a := 110) (b := 108) (S' := []) rfl (fun cc => absurd cc (by decide)) (fun _ => ?_)
                  refine WS.run (C := []) (pc' := 109) (L' := [vR 51 0, vI (nI a), vI (nI b), vI (nI c), vI (nI e), vI r2, vI r4, vI r6, vI r8]) (S' := [vI (0 : Int32)]) (σ' := σ) 1 rfl trivial ?_
                  exact WS.ret rfl rfl (by decide) rfl (h0 (fun z => z.elim (fun z => by have w := (cut_of (l := lnM σ a b) (m := lnM σ c e) (by rw [e2, e1]; rfl) (by rw [e4, e3]; rfl) (by rw [e6, e5]; rfl) (by rw [e8, e7]; rfl)).mp z; simp only [t_le, t_0] at c31; omega) (fun z => ((over_iff _ _).mpr z).2.2.2.2.2.1 q37)))
                · show WS _ M_MD_crosses 105 [vR 51 0, vI (nI a), vI (nI b), vI (nI c), vI (nI e), vI r2, vI r4, vI r6, vI r8] [vI (0 : Int32)] σ _
                  refine WS.br (P := (0 : Int32) = 0) (a := 110) (b := 108) (S' := []) rfl (fun _ => ?_) (fun cc => absurd (by decide) cc)
                  refine WS.run (C := [vp_in (nI a) 240, vp_in (nI b) 240]) (pc' := 122) (L' := [vR 51 0, vI (nI a), vI (nI b), vI (nI c), vI (nI e), vI r2, vI r4, vI r6, vI r8]) (S' := [vI (gI σ 56 0 (nI b).toNatClampNeg), vI (gI σ 56 0 (nI a).toNatClampNeg)]) (σ' := σ) 8 rfl ⟨(vp_n (by have := ha.1; omega) (by omega)), (vp_n (by have := hb.1; omega) (by omega)), trivial⟩ ?_
                  simp only [e_a, e_b, e_c, e_e]
                  refine WS.br (P := (gI σ 56 0 a) = (gI σ 56 0 b)) (a := 202) (b := 125) (S' := []) rfl (fun c38 => ?_) (fun c38 => ?_)
                  · refine WS.run (C := [vp_in (nI a) 240, vp_in (nI b) 240]) (pc' := 214) (L' := [vR 51 0, vI (nI a), vI (nI b), vI (nI c), vI (nI e), vI r2, vI r4, vI r6, vI r8]) (S' := [vI (gI σ 57 0 (nI b).toNatClampNeg), vI (gI σ 57 0 (nI a).toNatClampNeg)]) (σ' := σ) 8 rfl ⟨(vp_n (by have := ha.1; omega) (by omega)), (vp_n (by have := hb.1; omega) (by omega)), trivial⟩ ?_
                    simp only [e_a, e_b, e_c, e_e]
                    refine WS.callS M_MD_least (as := [vI (gI σ 57 0 a), vI (gI σ 57 0 b)]) (rest := []) rfl lk_11_164 rfl rfl (Nat.le_of_ble_eq_true rfl) ?_
                    refine c_Mleast  (fun r39 e39 => ?_)
                    show WS _ M_MD_crosses 217 [vR 51 0, vI (nI a), vI (nI b), vI (nI c), vI (nI e), vI r2, vI r4, vI r6, vI r8] [vI r39] σ _
                    refine WS.run (C := [vp_in (nI c) 240, vp_in (nI e) 240]) (pc' := 230) (L' := [vR 51 0, vI (nI a), vI (nI b), vI (nI c), vI (nI e), vI r2, vI r4, vI r6, vI r8]) (S' := [vI (gI σ 57 0 (nI e).toNatClampNeg), vI (gI σ 57 0 (nI c).toNatClampNeg), vI r39]) (σ' := σ) 8 rfl ⟨(vp_n (by have := hc.1; omega) (by omega)), (vp_n (by have := he.1; omega) (by omega)), trivial⟩ ?_
                    simp only [e_a, e_b, e_c, e_e]
                    refine WS.callS M_MD_least (as := [vI (gI σ 57 0 c), vI (gI σ 57 0 e)]) (rest := [vI r39]) rfl lk_11_164 rfl rfl (Nat.le_of_ble_eq_true rfl) ?_
                    refine c_Mleast  (fun r40 e40 => ?_)
                    show WS _ M_MD_crosses 233 [vR 51 0, vI (nI a), vI (nI b), vI (nI c), vI (nI e), vI r2, vI r4, vI r6, vI r8] [vI r40, vI r39] σ _
                    refine WS.callS M_MD_most (as := [vI r39, vI r40]) (rest := []) rfl lk_11_167 rfl rfl (Nat.le_of_ble_eq_true rfl) ?_
                    refine c_Mmost  (fun r41 e41 => ?_)
                    show WS _ M_MD_crosses 236 [vR 51 0, vI (nI a), vI (nI b), vI (nI c), vI (nI e), vI r2, vI r4, vI r6, vI r8] [vI r41] σ _
                    refine WS.run (C := [vp_in (nI a) 240, vp_in (nI b) 240]) (pc' := 248) (L' := [vR 51 0, vI (nI a), vI (nI b), vI (nI c), vI (nI e), vI r2, vI r4, vI r6, vI r8]) (S' := [vI (gI σ 57 0 (nI b).toNatClampNeg), vI (gI σ 57 0 (nI a).toNatClampNeg), vI r41]) (σ' := σ) 8 rfl ⟨(vp_n (by have := ha.1; omega) (by omega)), (vp_n (by have := hb.1; omega) (by omega)), trivial⟩ ?_
                    simp only [e_a, e_b, e_c, e_e]
                    refine WS.callS M_MD_most (as := [vI (gI σ 57 0 a), vI (gI σ 57 0 b)]) (rest := [vI r41]) rfl lk_11_167 rfl rfl (Nat.le_of_ble_eq_true rfl) ?_
                    refine c_Mmost  (fun r42 e42 => ?_)
                    show WS _ M_MD_crosses 251 [vR 51 0, vI (nI a), vI (nI b), vI (nI c), vI (nI e), vI r2, vI r4, vI r6, vI r8] [vI r42, vI r41] σ _
                    refine WS.run (C := [vp_in (nI c) 240, vp_in (nI e) 240]) (pc' := 264) (L' := [vR 51 0, vI (nI a), vI (nI b), vI (nI c), vI (nI e), vI r2, vI r4, vI r6, vI r8]) (S' := [vI (gI σ 57 0 (nI e).toNatClampNeg), vI (gI σ 57 0 (nI c).toNatClampNeg), vI r42, vI r41]) (σ' := σ) 8 rfl ⟨(vp_n (by have := hc.1; omega) (by omega)), (vp_n (by have := he.1; omega) (by omega)), trivial⟩ ?_
                    simp only [e_a, e_b, e_c, e_e]
                    refine WS.callS M_MD_most (as := [vI (gI σ 57 0 c), vI (gI σ 57 0 e)]) (rest := [vI r42, vI r41]) rfl lk_11_167 rfl rfl (Nat.le_of_ble_eq_true rfl) ?_
                    refine c_Mmost  (fun r43 e43 => ?_)
                    show WS _ M_MD_crosses 267 [vR 51 0, vI (nI a), vI (nI b), vI (nI c), vI (nI e), vI r2, vI r4, vI r6, vI r8] [vI r43, vI r42, vI r41] σ _
                    refine WS.callS M_MD_least (as := [vI r42, vI r43]) (rest := [vI r41]) rfl lk_11_164 rfl rfl (Nat.le_of_ble_eq_true rfl) ?_
                    refine c_Mleast  (fun r44 e44 => ?_)
                    show WS _ M_MD_crosses 270 [vR 51 0, vI (nI a), vI (nI b), vI (nI c), vI (nI e), vI r2, vI r4, vI r6, vI r8] [vI r44, vI r41] σ _
                    refine WS.br (P := r44 ≤ r41) (a := 277) (b := 273) (S' := []) rfl (fun c45 => ?_) (fun c45 => ?_)
                    · refine WS.run (C := []) (pc' := 278) (L' := [vR 51 0, vI (nI a), vI (nI b), vI (nI c), vI (nI e), vI r2, vI r4, vI r6, vI r8]) (S' := [vI (0 : Int32)]) (σ' := σ) 1 rfl trivial ?_
                      exact WS.ret rfl rfl (by decide) rfl (h0 (fun z => z.elim (fun z => by have w := (cut_of (l := lnM σ a b) (m := lnM σ c e) (by rw [e2, e1]; rfl) (by rw [e4, e3]; rfl) (by rw [e6, e5]; rfl) (by rw [e8, e7]; rfl)).mp z; simp only [t_le, t_0] at c31; omega) (fun z => by have w := ((over_iff _ _).mpr z).2.2.2.2.2.2; clear h1 h0 z; unfold lnM mX mY at w; dsimp only at w; simp only [t_lt, t_le, t_eq] at c38 c45; omega)))
                    · refine WS.run (C := []) (pc' := 278) (L' := [vR 51 0, vI (nI a), vI (nI b), vI (nI c), vI (nI e), vI r2, vI r4, vI r6, vI r8]) (S' := [vI (1 : Int32)]) (σ' := σ) 2 rfl trivial ?_
                      exact WS.ret rfl rfl (by decide) rfl (h1 (Or.inr ((over_iff _ _).mp ⟨(sgn_eq.mp (by have y := c32; rw [t_eq, t_0, e2, e1] at y; exact y)), (sgn_eq.mp (by have y := c33; rw [t_eq, t_0, e4, e3] at y; exact y)), (sgn_eq.mp (by have y := c34; rw [t_eq, t_0, e6, e5] at y; exact y)), (sgn_eq.mp (by have y := c35; rw [t_eq, t_0, e8, e7] at y; exact y)), q36, q37, (by clear h1 h0; unfold lnM mX mY; dsimp only; simp only [t_lt, t_le, t_eq] at c38 c45; omega)⟩)))
                  · refine WS.run (C := [vp_in (nI a) 240, vp_in (nI b) 240]) (pc' := 137) (L' := [vR 51 0, vI (nI a), vI (nI b), vI (nI c), vI (nI e), vI r2, vI r4, vI r6, vI r8]) (S' := [vI (gI σ 56 0 (nI b).toNatClampNeg), vI (gI σ 56 0 (nI a).toNatClampNeg)]) (σ' := σ) 8 rfl ⟨(vp_n (by have := ha.1; omega) (by omega)), (vp_n (by have := hb.1; omega) (by omega)), trivial⟩ ?_
                    simp only [e_a, e_b, e_c, e_e]
                    refine WS.callS M_MD_least (as := [vI (gI σ 56 0 a), vI (gI σ 56 0 b)]) (rest := []) rfl lk_11_164 rfl rfl (Nat.le_of_ble_eq_true rfl) ?_
                    refine c_Mleast  (fun r46 e46 => ?_)
                    show WS _ M_MD_crosses 140 [vR 51 0, vI (nI a), vI (nI b), vI (nI c), vI (nI e), vI r2, vI r4, vI r6, vI r8] [vI r46] σ _
                    refine WS.run (C := [vp_in (nI c) 240, vp_in (nI e) 240]) (pc' := 153) (L' := [vR 51 0, vI (nI a), vI (nI b), vI (nI c), vI (nI e), vI r2, vI r4, vI r6, vI r8]) (S' := [vI (gI σ 56 0 (nI e).toNatClampNeg), vI (gI σ 56 0 (nI c).toNatClampNeg), vI r46]) (σ' := σ) 8 rfl ⟨(vp_n (by have := hc.1; omega) (by omega)), (vp_n (by have := he.1; omega) (by omega)), trivial⟩ ?_
                    simp only [e_a, e_b, e_c, e_e]
                    refine WS.callS M_MD_least (as := [vI (gI σ 56 0 c), vI (gI σ 56 0 e)]) (rest := [vI r46]) rfl lk_11_164 rfl rfl (Nat.le_of_ble_eq_true rfl) ?_
                    refine c_Mleast  (fun r47 e47 => ?_)
                    show WS _ M_MD_crosses 156 [vR 51 0, vI (nI a), vI (nI b), vI (nI c), vI (nI e), vI r2, vI r4, vI r6, vI r8] [vI r47, vI r46] σ _
                    refine WS.callS M_MD_most (as := [vI r46, vI r47]) (rest := []) rfl lk_11_167 rfl rfl (Nat.le_of_ble_eq_true rfl) ?_
                    refine c_Mmost  (fun r48 e48 => ?_)
                    show WS _ M_MD_crosses 159 [vR 51 0, vI (nI a), vI (nI b), vI (nI c), vI (nI e), vI r2, vI r4, vI r6, vI r8] [vI r48] σ _
                    refine WS.run (C := [vp_in (nI a) 240, vp_in (nI b) 240]) (pc' := 171) (L' := [vR 51 0, vI (nI a), vI (nI b), vI (nI c), vI (nI e), vI r2, vI r4, vI r6, vI r8]) (S' := [vI (gI σ 56 0 (nI b).toNatClampNeg), vI (gI σ 56 0 (nI a).toNatClampNeg), vI r48]) (σ' := σ) 8 rfl ⟨(vp_n (by have := ha.1; omega) (by omega)), (vp_n (by have := hb.1; omega) (by omega)), trivial⟩ ?_
                    simp only [e_a, e_b, e_c, e_e]
                    refine WS.callS M_MD_most (as := [vI (gI σ 56 0 a), vI (gI σ 56 0 b)]) (rest := [vI r48]) rfl lk_11_167 rfl rfl (Nat.le_of_ble_eq_true rfl) ?_
                    refine c_Mmost  (fun r49 e49 => ?_)
                    show WS _ M_MD_crosses 174 [vR 51 0, vI (nI a), vI (nI b), vI (nI c), vI (nI e), vI r2, vI r4, vI r6, vI r8] [vI r49, vI r48] σ _
                    refine WS.run (C := [vp_in (nI c) 240, vp_in (nI e) 240]) (pc' := 187) (L' := [vR 51 0, vI (nI a), vI (nI b), vI (nI c), vI (nI e), vI r2, vI r4, vI r6, vI r8]) (S' := [vI (gI σ 56 0 (nI e).toNatClampNeg), vI (gI σ 56 0 (nI c).toNatClampNeg), vI r49, vI r48]) (σ' := σ) 8 rfl ⟨(vp_n (by have := hc.1; omega) (by omega)), (vp_n (by have := he.1; omega) (by omega)), trivial⟩ ?_
                    simp only [e_a, e_b, e_c, e_e]
                    refine WS.callS M_MD_most (as := [vI (gI σ 56 0 c), vI (gI σ 56 0 e)]) (rest := [vI r49, vI r48]) rfl lk_11_167 rfl rfl (Nat.le_of_ble_eq_true rfl) ?_
                    refine c_Mmost  (fun r50 e50 => ?_)
                    show WS _ M_MD_crosses 190 [vR 51 0, vI (nI a), vI (nI b), vI (nI c), vI (nI e), vI r2, vI r4, vI r6, vI r8] [vI r50, vI r49, vI r48] σ _
                    refine WS.callS M_MD_least (as := [vI r49, vI r50]) (rest := [vI r48]) rfl lk_11_164 rfl rfl (Nat.le_of_ble_eq_true rfl) ?_
                    refine c_Mleast  (fun r51 e51 => ?_)
                    show WS _ M_MD_crosses 193 [vR 51 0, vI (nI a), vI (nI b), vI (nI c), vI (nI e), vI r2, vI r4, vI r6, vI r8] [vI r51, vI r48] σ _
                    refine WS.br (P := r51 ≤ r48) (a := 200) (b := 196) (S' := []) rfl (fun c52 => ?_) (fun c52 => ?_)
                    · refine WS.run (C := []) (pc' := 201) (L' := [vR 51 0, vI (nI a), vI (nI b), vI (nI c), vI (nI e), vI r2, vI r4, vI r6, vI r8]) (S' := [vI (0 : Int32)]) (σ' := σ) 1 rfl trivial ?_
                      exact WS.ret rfl rfl (by decide) rfl (h0 (fun z => z.elim (fun z => by have w := (cut_of (l := lnM σ a b) (m := lnM σ c e) (by rw [e2, e1]; rfl) (by rw [e4, e3]; rfl) (by rw [e6, e5]; rfl) (by rw [e8, e7]; rfl)).mp z; simp only [t_le, t_0] at c31; omega) (fun z => by have w := ((over_iff _ _).mpr z).2.2.2.2.2.2; clear h1 h0 z; unfold lnM mX mY at w; dsimp only at w; simp only [t_lt, t_le, t_eq] at c38 c52; omega)))
                    · refine WS.run (C := []) (pc' := 201) (L' := [vR 51 0, vI (nI a), vI (nI b), vI (nI c), vI (nI e), vI r2, vI r4, vI r6, vI r8]) (S' := [vI (1 : Int32)]) (σ' := σ) 2 rfl trivial ?_
                      exact WS.ret rfl rfl (by decide) rfl (h1 (Or.inr ((over_iff _ _).mp ⟨(sgn_eq.mp (by have y := c32; rw [t_eq, t_0, e2, e1] at y; exact y)), (sgn_eq.mp (by have y := c33; rw [t_eq, t_0, e4, e3] at y; exact y)), (sgn_eq.mp (by have y := c34; rw [t_eq, t_0, e6, e5] at y; exact y)), (sgn_eq.mp (by have y := c35; rw [t_eq, t_0, e8, e7] at y; exact y)), q36, q37, (by clear h1 h0; unfold lnM mX mY; dsimp only; simp only [t_lt, t_le, t_eq] at c38 c52; omega)⟩)))
            · refine WS.run (C := []) (pc' := 109) (L' := [vR 51 0, vI (nI a), vI (nI b), vI (nI c), vI (nI e), vI r2, vI r4, vI r6, vI r8]) (S' := [vI (0 : Int32)]) (σ' := σ) 1 rfl trivial ?_
              exact WS.ret rfl rfl (by decide) rfl (h0 (fun z => z.elim (fun z => by have w := (cut_of (l := lnM σ a b) (m := lnM σ c e) (by rw [e2, e1]; rfl) (by rw [e4, e3]; rfl) (by rw [e6, e5]; rfl) (by rw [e8, e7]; rfl)).mp z; simp only [t_le, t_0] at c31; omega) (fun z => c35 (by rw [t_eq, t_0, e8, e7]; exact sgn_eq.mpr ((over_iff _ _).mpr z).2.2.2.1))))
          · refine WS.run (C := []) (pc' := 109) (L' := [vR 51 0, vI (nI a), vI (nI b), vI (nI c), vI (nI e), vI r2, vI r4, vI r6, vI r8]) (S' := [vI (0 : Int32)]) (σ' := σ) 1 rfl trivial ?_
            exact WS.ret rfl rfl (by decide) rfl (h0 (fun z => z.elim (fun z => by have w := (cut_of (l := lnM σ a b) (m := lnM σ c e) (by rw [e2, e1]; rfl) (by rw [e4, e3]; rfl) (by rw [e6, e5]; rfl) (by rw [e8, e7]; rfl)).mp z; simp only [t_le, t_0] at c31; omega) (fun z => c34 (by rw [t_eq, t_0, e6, e5]; exact sgn_eq.mpr ((over_iff _ _).mpr z).2.2.1))))
        · refine WS.run (C := []) (pc' := 109) (L' := [vR 51 0, vI (nI a), vI (nI b), vI (nI c), vI (nI e), vI r2, vI r4, vI r6, vI r8]) (S' := [vI (0 : Int32)]) (σ' := σ) 1 rfl trivial ?_
          exact WS.ret rfl rfl (by decide) rfl (h0 (fun z => z.elim (fun z => by have w := (cut_of (l := lnM σ a b) (m := lnM σ c e) (by rw [e2, e1]; rfl) (by rw [e4, e3]; rfl) (by rw [e6, e5]; rfl) (by rw [e8, e7]; rfl)).mp z; simp only [t_le, t_0] at c31; omega) (fun z => c33 (by rw [t_eq, t_0, e4, e3]; exact sgn_eq.mpr ((over_iff _ _).mpr z).2.1))))
      · refine WS.run (C := []) (pc' := 109) (L' := [vR 51 0, vI (nI a), vI (nI b), vI (nI c), vI (nI e), vI r2, vI r4, vI r6, vI r8]) (S' := [vI (0 : Int32)]) (σ' := σ) 1 rfl trivial ?_
        exact WS.ret rfl rfl (by decide) rfl (h0 (fun z => z.elim (fun z => by have w := (cut_of (l := lnM σ a b) (m := lnM σ c e) (by rw [e2, e1]; rfl) (by rw [e4, e3]; rfl) (by rw [e6, e5]; rfl) (by rw [e8, e7]; rfl)).mp z; simp only [t_le, t_0] at c31; omega) (fun z => c32 (by rw [t_eq, t_0, e2, e1]; exact sgn_eq.mpr ((over_iff _ _).mpr z).1))))
    · refine WS.run (C := []) (pc' := 68) (L' := [vR 51 0, vI (nI a), vI (nI b), vI (nI c), vI (nI e), vI r2, vI r4, vI r6, vI r8]) (S' := [vI (1 : Int32)]) (σ' := σ) 1 rfl trivial ?_
      exact WS.ret rfl rfl (by decide) rfl (h1 (Or.inl ((cut_of (l := lnM σ a b) (m := lnM σ c e) (by rw [e2, e1]; rfl) (by rw [e4, e3]; rfl) (by rw [e6, e5]; rfl) (by rw [e8, e7]; rfl)).mpr ⟨by simp only [t_le, t_0] at c9; omega, by simp only [t_le, t_0] at c31; omega⟩)))
