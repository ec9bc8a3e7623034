/-! contracts: boxes and lines of the model -/
theorem j_ng {y : Int64} (h : -1000000 ≤ y.toInt ∧ y.toInt ≤ 1000000) : (-y).toInt = -y.toInt := j_neg (by omega)
set_option maxHeartbeats 1000000 in
/-- from the six numbers on -/
theorem c_thr {d : Nat} {σ : Mem} {Post : Option AV → Mem → Prop} {x1 x2 x3 : Int32} {y4 y6 y8 y10 y12 y14 : Int64} (b4 : -1000 ≤ y4.toInt ∧ y4.toInt ≤ 1000) (b6 : -1000 ≤ y6.toInt ∧ y6.toInt ≤ 1000) (b8 : -1000 ≤ y8.toInt ∧ y8.toInt ≤ 1000) (b10 : -1000 ≤ y10.toInt ∧ y10.toInt ≤ 1000) (b12 : -1000 ≤ y12.toInt ∧ y12.toInt ≤ 1000) (b14 : -1000 ≤ y14.toInt ∧ y14.toInt ≤ 1000) (h1 : thrZ y4.toInt y6.toInt y8.toInt y10.toInt y12.toInt y14.toInt → Post (some (vI 1)) σ) (h0 : ¬ thrZ y4.toInt y6.toInt y8.toInt y10.toInt y12.toInt y14.toInt → Post (some (vI 0)) σ) : WS d M_MD_isThrough 84 [vR 51 0, vI x1, vI x2, vI x3, vJ y4, vU, vJ y6, vU, vJ y8, vU, vJ y10, vU, vJ y12, vU, vJ y14, vU, vU, vU, vU, vU, vU, vU, vU, vU, vU, vU, vU, vU] [] σ Post := by
  unfold thrZ at h1 h0
  have bd : ∀ y : Int64, (-1000 ≤ y.toInt ∧ y.toInt ≤ 1000) → (-y).toInt = -y.toInt := fun y hy => j_ng (by omega)
  have k276 : ∀ y16 y18 y20 y22 y24 y26 : Int64, y16.toInt = (if 0 < y4.toInt then y8.toInt else -y10.toInt) → y18.toInt = (if 0 < y4.toInt then y10.toInt else -y8.toInt) → y20.toInt = (if 0 < y4.toInt then y4.toInt else -y4.toInt) → y22.toInt = (if 0 < y6.toInt then y12.toInt else -y14.toInt) → y24.toInt = (if 0 < y6.toInt then y14.toInt else -y12.toInt) → y26.toInt = (if 0 < y6.toInt then y6.toInt else -y6.toInt) → ¬ (y4.toInt = 0 ∧ (0 ≤ y8.toInt ∨ y10.toInt ≤ 0)) → ¬ (y6.toInt = 0 ∧ (0 ≤ y12.toInt ∨ y14.toInt ≤ 0)) → ¬ (y4.toInt ≠ 0 ∧ (y20.toInt ≤ y16.toInt ∨ y18.toInt ≤ 0)) → ¬ (y6.toInt ≠ 0 ∧ (y26.toInt ≤ y22.toInt ∨ y24.toInt ≤ 0)) → WS d M_MD_isThrough 276 [vR 51 0, vI x1, vI x2, vI x3, vJ y4, vU, vJ y6, vU, vJ y8, vU, vJ y10, vU, vJ y12, vU, vJ y14, vU, vJ y16, vU, vJ y18, vU, vJ y20, vU, vJ y22, vU, vJ y24, vU, vJ y26, vU] [] σ Post := by
    intro y16 y18 y20 y22 y24 y26 e16 e18 e20 e22 e24 e26 n1 n2 n3 n4
    have B : ∀ {p : Prop} [Decidable p] {u v : Int}, (-1000 ≤ u ∧ u ≤ 1000) → (-1000 ≤ v ∧ v ≤ 1000) → -1000 ≤ (if p then u else -v) ∧ (if p then u else -v) ≤ 1000 := by
      intro p _ u v hu hv; split <;> omega
    have B' : ∀ {p : Prop} [Decidable p] {u v : Int}, (-1000 ≤ u ∧ u ≤ 1000) → (-1000 ≤ v ∧ v ≤ 1000) → -1000 ≤ (if p then u else v) ∧ (if p then u else v) ≤ 1000 := by
      intro p _ u v hu hv; split <;> omega
    have c16 : -1000 ≤ y16.toInt ∧ y16.toInt ≤ 1000 := by rw [e16]; exact B b8 b10
    have c18 : -1000 ≤ y18.toInt ∧ y18.toInt ≤ 1000 := by rw [e18]; exact B b10 b8
    have c20 : -1000 ≤ y20.toInt ∧ y20.toInt ≤ 1000 := by rw [e20]; exact B b4 b4
    have c22 : -1000 ≤ y22.toInt ∧ y22.toInt ≤ 1000 := by rw [e22]; exact B b12 b14
    have c24 : -1000 ≤ y24.toInt ∧ y24.toInt ≤ 1000 := by rw [e24]; exact B b14 b12
    have c26 : -1000 ≤ y26.toInt ∧ y26.toInt ≤ 1000 := by rw [e26]; exact B b6 b6
    have P : ∀ u v : Int64, (-1000 ≤ u.toInt ∧ u.toInt ≤ 1000) → (-1000 ≤ v.toInt ∧ v.toInt ≤ 1000) → (u * v).toInt = u.toInt * v.toInt := fun u v hu hv => by
      have := mul_bd hu.1 hu.2 hv.1 hv.2 (by omega) (by omega)
      exact j_mul (by omega) (by omega)
    rw [← e16, ← e18, ← e20, ← e22, ← e24, ← e26] at h1 h0
    refine b_MD_isThrough_276 ?_
    rw [lg_eq, lg_eq, lg_le, lg_le, j_0, P _ _ c16 c26, P _ _ c24 c20, P _ _ c22 c20, P _ _ c18 c26]
    refine ⟨fun z => h1 ⟨n1, n2, n3, n4, Or.inl z⟩, fun z => ⟨fun z2 => h1 ⟨n1, n2, n3, n4, Or.inr (Or.inl z2)⟩, fun z2 => ⟨fun z3 => h0 (fun y => ?_), fun z3 => ⟨fun z4 => h0 (fun y => ?_), fun z4 => h1 ⟨n1, n2, n3, n4, Or.inr (Or.inr ⟨by omega, by omega⟩)⟩⟩⟩⟩⟩
    · rcases y.2.2.2.2 with u | u | u
      · exact z u
      · exact z2 u
      · omega
    · rcases y.2.2.2.2 with u | u | u
      · exact z u
      · exact z2 u
      · omega
  have k228 : ∀ y16 y18 y20 y22 y24 y26 : Int64, y16.toInt = (if 0 < y4.toInt then y8.toInt else -y10.toInt) → y18.toInt = (if 0 < y4.toInt then y10.toInt else -y8.toInt) → y20.toInt = (if 0 < y4.toInt then y4.toInt else -y4.toInt) → y22.toInt = (if 0 < y6.toInt then y12.toInt else -y14.toInt) → y24.toInt = (if 0 < y6.toInt then y14.toInt else -y12.toInt) → y26.toInt = (if 0 < y6.toInt then y6.toInt else -y6.toInt) → ¬ (y4.toInt = 0 ∧ (0 ≤ y8.toInt ∨ y10.toInt ≤ 0)) → ¬ (y6.toInt = 0 ∧ (0 ≤ y12.toInt ∨ y14.toInt ≤ 0)) → WS d M_MD_isThrough 228 [vR 51 0, vI x1, vI x2, vI x3, vJ y4, vU, vJ y6, vU, vJ y8, vU, vJ y10, vU, vJ y12, vU, vJ y14, vU, vJ y16, vU, vJ y18, vU, vJ y20, vU, vJ y22, vU, vJ y24, vU, vU, vU] [vJ y26] σ Post := by
    intro y16 y18 y20 y22 y24 y26 e16 e18 e20 e22 e24 e26 n1 n2
    have k := k276 y16 y18 y20 y22 y24 y26 e16 e18 e20 e22 e24 e26 n1 n2
    rw [← e16, ← e18, ← e20, ← e22, ← e24, ← e26] at h0
    refine b_MD_isThrough_228 ?_
    rw [lg_eq, lg_eq, lg_le, lg_pos, lg_le, lg_np, j_0]
    refine ⟨fun z => ⟨fun z2 => k (fun y => y.1 z) (fun y => y.1 z2), fun z2 => ⟨fun z3 => h0 (fun y => y.2.2.2.1 ⟨z2, Or.inl z3⟩), fun z3 => ⟨fun z4 => k (fun y => y.1 z) (fun y => by omega), fun z4 => h0 (fun y => y.2.2.2.1 ⟨z2, Or.inr (by omega)⟩)⟩⟩⟩, fun z => ⟨fun z3 => h0 (fun y => y.2.2.1 ⟨z, Or.inl z3⟩), fun z3 => ⟨fun z4 => h0 (fun y => y.2.2.1 ⟨z, Or.inr z4⟩), fun z4 => ⟨fun z2 => k (fun y => by omega) (fun y => y.1 z2), fun z2 => ⟨fun z5 => h0 (fun y => y.2.2.2.1 ⟨z2, Or.inl z5⟩), fun z5 => ⟨fun z6 => k (fun y => by omega) (fun y => by omega), fun z6 => h0 (fun y => y.2.2.2.1 ⟨z2, Or.inr (by omega)⟩)⟩⟩⟩⟩⟩⟩
  have k128 : ¬ (y4.toInt = 0 ∧ (0 ≤ y8.toInt ∨ y10.toInt ≤ 0)) → ¬ (y6.toInt = 0 ∧ (0 ≤ y12.toInt ∨ y14.toInt ≤ 0)) → WS d M_MD_isThrough 128 [vR 51 0, vI x1, vI x2, vI x3, vJ y4, vU, vJ y6, vU, vJ y8, vU, vJ y10, vU, vJ y12, vU, vJ y14, vU, vU, vU, vU, vU, vU, vU, vU, vU, vU, vU, vU, vU] [] σ Post := by
    intro n1 n2
    have s211 : ∀ y16 y18 y20 y22 y24 : Int64, y16.toInt = (if 0 < y4.toInt then y8.toInt else -y10.toInt) → y18.toInt = (if 0 < y4.toInt then y10.toInt else -y8.toInt) → y20.toInt = (if 0 < y4.toInt then y4.toInt else -y4.toInt) → y22.toInt = (if 0 < y6.toInt then y12.toInt else -y14.toInt) → y24.toInt = (if 0 < y6.toInt then y14.toInt else -y12.toInt) → WS d M_MD_isThrough 211 [vR 51 0, vI x1, vI x2, vI x3, vJ y4, vU, vJ y6, vU, vJ y8, vU, vJ y10, vU, vJ y12, vU, vJ y14, vU, vJ y16, vU, vJ y18, vU, vJ y20, vU, vJ y22, vU, vU, vU, vU, vU] [vJ y24] σ Post := by
      intro y16 y18 y20 y22 y24 e1 e2 e3 e4 e5
      refine b_MD_isThrough_211 ⟨fun z => ?_, fun z => ?_⟩
      · rw [lg_np, j_0] at z
        exact k228 _ _ _ _ _ _ e1 e2 e3 e4 e5 (by rw [bd y6 b6, if_neg (by omega)]) n1 n2
      · rw [lg_np, j_0] at z
        exact k228 _ _ _ _ _ _ e1 e2 e3 e4 e5 (by rw [if_pos (by omega)]) n1 n2
    have s194 : ∀ y16 y18 y20 y22 : Int64, y16.toInt = (if 0 < y4.toInt then y8.toInt else -y10.toInt) → y18.toInt = (if 0 < y4.toInt then y10.toInt else -y8.toInt) → y20.toInt = (if 0 < y4.toInt then y4.toInt else -y4.toInt) → y22.toInt = (if 0 < y6.toInt then y12.toInt else -y14.toInt) → WS d M_MD_isThrough 194 [vR 51 0, vI x1, vI x2, vI x3, vJ y4, vU, vJ y6, vU, vJ y8, vU, vJ y10, vU, vJ y12, vU, vJ y14, vU, vJ y16, vU, vJ y18, vU, vJ y20, vU, vU, vU, vU, vU, vU, vU] [vJ y22] σ Post := by
      intro y16 y18 y20 y22 e1 e2 e3 e4
      refine b_MD_isThrough_194 ⟨fun z => ?_, fun z => ?_⟩
      · rw [lg_np, j_0] at z
        exact s211 _ _ _ _ _ e1 e2 e3 e4 (by rw [bd y12 b12, if_neg (by omega)])
      · rw [lg_np, j_0] at z
        exact s211 _ _ _ _ _ e1 e2 e3 e4 (by rw [if_pos (by omega)])
    have s177 : ∀ y16 y18 y20 : Int64, y16.toInt = (if 0 < y4.toInt then y8.toInt else -y10.toInt) → y18.toInt = (if 0 < y4.toInt then y10.toInt else -y8.toInt) → y20.toInt = (if 0 < y4.toInt then y4.toInt else -y4.toInt) → WS d M_MD_isThrough 177 [vR 51 0, vI x1, vI x2, vI x3, vJ y4, vU, vJ y6, vU, vJ y8, vU, vJ y10, vU, vJ y12, vU, vJ y14, vU, vJ y16, vU, vJ y18, vU, vU, vU, vU, vU, vU, vU, vU, vU] [vJ y20] σ Post := by
      intro y16 y18 y20 e1 e2 e3
      refine b_MD_isThrough_177 ⟨fun z => ?_, fun z => ?_⟩
      · rw [lg_np, j_0] at z
        exact s194 _ _ _ _ e1 e2 e3 (by rw [bd y14 b14, if_neg (by omega)])
      · rw [lg_np, j_0] at z
        exact s194 _ _ _ _ e1 e2 e3 (by rw [if_pos (by omega)])
    have s160 : ∀ y16 y18 : Int64, y16.toInt = (if 0 < y4.toInt then y8.toInt else -y10.toInt) → y18.toInt = (if 0 < y4.toInt then y10.toInt else -y8.toInt) → WS d M_MD_isThrough 160 [vR 51 0, vI x1, vI x2, vI x3, vJ y4, vU, vJ y6, vU, vJ y8, vU, vJ y10, vU, vJ y12, vU, vJ y14, vU, vJ y16, vU, vU, vU, vU, vU, vU, vU, vU, vU, vU, vU] [vJ y18] σ Post := by
      intro y16 y18 e1 e2
      refine b_MD_isThrough_160 ⟨fun z => ?_, fun z => ?_⟩
      · rw [lg_np, j_0] at z
        exact s177 _ _ _ e1 e2 (by rw [bd y4 b4, if_neg (by omega)])
      · rw [lg_np, j_0] at z
        exact s177 _ _ _ e1 e2 (by rw [if_pos (by omega)])
    have s143 : ∀ y16 : Int64, y16.toInt = (if 0 < y4.toInt then y8.toInt else -y10.toInt) → WS d M_MD_isThrough 143 [vR 51 0, vI x1, vI x2, vI x3, vJ y4, vU, vJ y6, vU, vJ y8, vU, vJ y10, vU, vJ y12, vU, vJ y14, vU, vU, vU, vU, vU, vU, vU, vU, vU, vU, vU, vU, vU] [vJ y16] σ Post := by
      intro y16 e1
      refine b_MD_isThrough_143 ⟨fun z => ?_, fun z => ?_⟩
      · rw [lg_np, j_0] at z
        exact s160 _ _ e1 (by rw [bd y8 b8, if_neg (by omega)])
      · rw [lg_np, j_0] at z
        exact s160 _ _ e1 (by rw [if_pos (by omega)])
    refine b_MD_isThrough_128 ⟨fun z => ?_, fun z => ?_⟩
    · rw [lg_np, j_0] at z
      exact s143 _ (by rw [bd y10 b10, if_neg (by omega)])
    · rw [lg_np, j_0] at z
      exact s143 _ (by rw [if_pos (by omega)])
  refine b_MD_isThrough_84 ?_
  rw [lg_eq, lg_eq, lg_le, lg_le, lg_np, lg_pos, j_0]
  refine ⟨fun z => ⟨fun z2 => h0 (fun y => y.1 ⟨z, Or.inl z2⟩), fun z2 => ⟨fun z3 => h0 (fun y => y.1 ⟨z, Or.inr z3⟩), fun z3 => ⟨fun z4 => ⟨fun z5 => h0 (fun y => y.2.1 ⟨z4, Or.inl z5⟩), fun z5 => ⟨fun z6 => k128 (by omega) (by omega), fun z6 => h0 (fun y => y.2.1 ⟨z4, Or.inr (by omega)⟩)⟩⟩, fun z4 => k128 (by omega) (by omega)⟩⟩⟩, fun z => ⟨fun z4 => ⟨fun z5 => h0 (fun y => y.2.1 ⟨z4, Or.inl z5⟩), fun z5 => ⟨fun z6 => k128 (by omega) (by omega), fun z6 => h0 (fun y => y.2.1 ⟨z4, Or.inr (by omega)⟩)⟩⟩, fun z4 => k128 (by omega) (by omega)⟩⟩
def mBx (σ : Mem) (q : Nat) : Int := (gI σ 74 0 q).toInt
def mBy (σ : Mem) (q : Nat) : Int := (gI σ 75 0 q).toInt
def mBw (σ : Mem) (q : Nat) : Int := (gI σ 76 0 q).toInt
theorem j_10 : (10 : Int64).toInt = 10 := by decide
theorem t_10 : (10 : Int32).toInt = 10 := by decide
theorem c_MisThrough {d : Nat} {σ : Mem} {Post : Option AV → Mem → Prop} {a b q : Nat} (ha : mP σ a) (hb : mP σ b) (hq : q < 32) (k1 : co (mBx σ q)) (k2 : co (mBy σ q)) (k3 : 0 < mBw σ q) (k4 : mBw σ q ≤ 72) (h1 : entZ (lnM σ a b) (mBx σ q) (mBy σ q) (mBx σ q + mBw σ q) (mBy σ q + 10) → Post (some (vI 1)) σ) (h0 : ¬ entZ (lnM σ a b) (mBx σ q) (mBy σ q) (mBx σ q + mBw σ q) (mBy σ q + 10) → Post (some (vI 0)) σ) : MM d M_MD_isThrough [vR 51 0, vI (nI a), vI (nI b), vI (nI q)] σ Post := by
  refine MM.of ok_MD_isThrough rfl ?_
  have va : vp_in (nI a) 240 := vp_n ha.1 (by omega)
  have vb : vp_in (nI b) 240 := vp_n hb.1 (by omega)
  have vq : vp_in (nI q) 32 := vp_n hq (by omega)
  have ea : (nI a).toNatClampNeg = a := cl_n (by have := ha.1; omega)
  have eb : (nI b).toNatClampNeg = b := cl_n (by have := hb.1; omega)
  have eq : (nI q).toNatClampNeg = q := cl_n (by omega)
  have a1 := ha.2.1; have a2 := ha.2.2; have b1 := hb.2.1; have b2 := hb.2.2
  unfold co at a1 a2 b1 b2
  refine b_MD_isThrough_0 ⟨vb, va, ?_⟩
  refine b_MD_isThrough_16 ⟨vb, va, ?_⟩
  refine b_MD_isThrough_32 ⟨vq, va, ?_⟩
  refine b_MD_isThrough_48 ⟨vq, ?_⟩
  refine b_MD_isThrough_60 ⟨vq, va, ?_⟩
  refine b_MD_isThrough_76 ?_
  rw [ea, eb, eq]
  have e4 : (gI σ 56 0 b - gI σ 56 0 a).toInt64.toInt = mX σ b - mX σ a := j_co hb.2.1 ha.2.1
  have e6 : (gI σ 57 0 b - gI σ 57 0 a).toInt64.toInt = mY σ b - mY σ a := j_co hb.2.2 ha.2.2
  have e8 : (gI σ 74 0 q - gI σ 56 0 a).toInt64.toInt = mBx σ q - mX σ a := j_co k1 ha.2.1
  have e12 : (gI σ 75 0 q - gI σ 57 0 a).toInt64.toInt = mBy σ q - mY σ a := j_co k2 ha.2.2
  unfold co at k1 k2
  have ew : (gI σ 76 0 q).toInt64.toInt = mBw σ q := j_of _
  have e10 : ((gI σ 74 0 q - gI σ 56 0 a).toInt64 + (gI σ 76 0 q).toInt64).toInt = mBx σ q + mBw σ q - mX σ a := by
    rw [j_add (by rw [e8, ew]; omega) (by rw [e8, ew]; omega), e8, ew]; omega
  have e14 : ((gI σ 75 0 q - gI σ 57 0 a).toInt64 + (10 : Int64)).toInt = mBy σ q + 10 - mY σ a := by
    rw [j_add (by rw [e12, j_10]; omega) (by rw [e12, j_10]; omega), e12, j_10]; omega
  have key : thrZ (mX σ b - mX σ a) (mY σ b - mY σ a) (mBx σ q - mX σ a) (mBx σ q + mBw σ q - mX σ a) (mBy σ q - mY σ a) (mBy σ q + 10 - mY σ a) ↔ entZ (lnM σ a b) (mBx σ q) (mBy σ q) (mBx σ q + mBw σ q) (mBy σ q + 10) := by
    rw [ent_S, thr_ent (by omega) (by omega)]
    exact Iff.rfl
  refine c_thr (by rw [e4]; omega) (by rw [e6]; omega) (by rw [e8]; omega) (by rw [e10]; omega) (by rw [e12]; omega) (by rw [e14]; omega) (fun z => ?_) (fun z => ?_)
  · rw [e4, e6, e8, e10, e12, e14, key] at z; exact h1 z
  · rw [e4, e6, e8, e10, e12, e14, key] at z; exact h0 z
