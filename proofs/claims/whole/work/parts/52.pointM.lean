/-! contracts: point and crossings of the model; drawn, turn, kept -/
theorem t_2 : (2 : Int32).toInt = 2 := by decide
def poiM (σ : Mem) (v x y : Int32) (j : Nat) : Prop := j < 12 ∧ v = nI j ∧ gI σ 52 0 j ≠ 0 ∧ co x.toInt ∧ co y.toInt ∧ ctM σ j < 20 ∧ (ctM σ j = 0 ∨ gI σ 56 0 (20 * j + (ctM σ j - 1)) ≠ x ∨ gI σ 57 0 (20 * j + (ctM σ j - 1)) ≠ y)
def AddM (σ τ : Mem) (w c : Nat) (x y : Int32) : Prop := Eqs [55, 56, 57, 58, 59] σ τ ∧ (∀ j, gI τ 55 0 j = if j = w then nI (c + 1) else gI σ 55 0 j) ∧ (∀ j, gI τ 58 0 j = if j = w then nI (c + 1) else gI σ 58 0 j) ∧ (∀ j, gI τ 56 0 j = if j = 20 * w + c then x else gI σ 56 0 j) ∧ (∀ j, gI τ 57 0 j = if j = 20 * w + c then y else gI σ 57 0 j) ∧ (∀ i, i < c + 1 → gI τ 59 0 (20 * w + i) = nI i) ∧ ∀ j, ¬ (20 * w ≤ j ∧ j < 20 * w + 20) → gI τ 59 0 j = gI σ 59 0 j
theorem c_Mpoint {d : Nat} {σ : Mem} {Post : Option AV → Mem → Prop} {v x y : Int32} (hv : AllM σ) (h1 : ∀ (j : Nat) (τ : Mem), poiM σ v x y j → AddM σ τ j (ctM σ j) x y → Post (some (vI (nI (ctM σ j + 1)))) τ) (h0 : (∀ j : Nat, ¬ poiM σ v x y j) → Post (some (vI (-1))) σ) : MM (d + 2) M_MD_point [vR 51 0, vI v, vI x, vI y] σ Post := by
  refine MM.of ok_MD_point rfl ?_
  refine b_MD_point_0 ?_
  refine c_MisWay (fun w hw ew qw => ?_) (fun q => b_MD_point_5f (h0 (fun j z => z.2.2.1 (q j (by have := z.1; omega) z.2.1))))
  subst ew
  have vw : vp_in (nI w) 12 := vp_n (by omega) (by omega)
  have e_w : (nI w).toNatClampNeg = w := cl_n (by omega)
  obtain ⟨g1, g2, hc20, hsc, hP, hnum⟩ := hv w (by omega)
  have inj : ∀ j, nI w = nI j → j < 12 → j = w := fun j a b => ((nI_eq (by omega) (by omega)).mp a).symm
  refine b_MD_point_5t ?_
  refine c_MisIn (fun q1 q2 => ?_) (fun q => b_MD_point_16f (h0 (fun j z => q (by rw [t_0, t_400']; exact z.2.2.2.1))))
  refine b_MD_point_16t ?_
  refine c_MisIn (fun q3 q4 => ?_) (fun q => b_MD_point_27f (h0 (fun j z => q (by rw [t_0, t_400']; exact z.2.2.2.2.1))))
  rw [t_0] at q1 q3
  rw [t_400'] at q2 q4
  refine b_MD_point_27t ⟨vw, ?_⟩
  rw [e_w, g1]
  refine pk_eq (ctM σ w) 20 (fun z => h0 (fun j y => ?_)) (fun z => ⟨vw, vw, ?_⟩)
  · have := inj j y.2.1 y.1
    subst this
    have := y.2.2.2.2.2.1
    omega
  have h1' := h1 w
  have h0' : ¬ (ctM σ w = 0 ∨ gI σ 56 0 (20 * w + (ctM σ w - 1)) ≠ x ∨ gI σ 57 0 (20 * w + (ctM σ w - 1)) ≠ y) → Post (some (vI (-1))) σ := fun hz => h0 (fun j y => by
    have := inj j y.2.1 y.1
    subst this
    exact hz y.2.2.2.2.2.2)
  have hO : (ctM σ w = 0 ∨ gI σ 56 0 (20 * w + (ctM σ w - 1)) ≠ x ∨ gI σ 57 0 (20 * w + (ctM σ w - 1)) ≠ y) → poiM σ (nI w) x y w := fun hz => ⟨by omega, rfl, qw, ⟨q1, q2⟩, ⟨q3, q4⟩, by omega, hz⟩
  generalize ctM σ w = c at *
  rw [m20, nI_add, cl_n (i := 20 * w + c) (by omega)]
  have v240 : vp_in (nI (20 * w + c)) 240 := vp_n (by omega) (by omega)
  have add : (c = 0 ∨ gI σ 56 0 (20 * w + (c - 1)) ≠ x ∨ gI σ 57 0 (20 * w + (c - 1)) ≠ y) → vp_in (nI (20 * w + c)) 240 ∧ (∀ σ1 : Mem, σ1 = pI σ 56 0 (20 * w + c) x → vp_in (nI (20 * w + c)) 240 ∧ (∀ σ2 : Mem, σ2 = pI σ1 57 0 (20 * w + c) y → vp_in (nI w) 12 ∧ vp_in (nI w) 12 ∧ (∀ σ3 : Mem, σ3 = pI σ2 55 0 w ((gI σ2 55 0 w) + 1) → WS (d + 1 + 1) M_MD_point 122 [vR 51 0, vI (nI w), vI x, vI y, vI (nI (20 * w + c)), vI 0] [] σ3 Post))) := by
    intro hz
    refine ⟨v240, fun σ1 e1 => ⟨v240, fun σ2 e2 => ⟨vw, vw, fun σ3 e3 => ?_⟩⟩⟩
    have e55 : gI σ2 55 0 w = nI c := by rw [e2, gI_pI, if_neg (by omega), e1, gI_pI, if_neg (by omega)]; exact g1
    rw [e55, nI_1] at e3
    have kk : ∀ a i j, gI σ3 a i j = if a = 55 ∧ i = 0 ∧ j = w then nI (c + 1) else if a = 57 ∧ i = 0 ∧ j = 20 * w + c then y else if a = 56 ∧ i = 0 ∧ j = 20 * w + c then x else gI σ a i j := by
      intro a i j; rw [e3, gI_pI, e2, gI_pI, e1, gI_pI]
    have kJ : ∀ a i j, gJ σ3 a i j = gJ σ a i j := by intro a i j; rw [e3, gJ_pI, e2, gJ_pI, e1, gJ_pI]
    have key : ∀ i, i ≤ c + 1 → ∀ υ : Mem, Eqs [59] σ3 υ → (∀ i', i' < i → gI υ 59 0 (20 * w + i') = nI i') → (∀ j, ¬ (20 * w ≤ j ∧ j < 20 * w + 20) → gI υ 59 0 j = gI σ 59 0 j) → WS (d + 1 + 1) M_MD_point 122 [vR 51 0, vI (nI w), vI x, vI y, vI (nI (20 * w + c)), vI (nI i)] [] υ Post := by
      refine upto (c + 1) ?_ ?_
      · intro υ hU hi ho
        have e5 : gI υ 55 0 w = nI (c + 1) := by rw [hU.1 55 0 w (by decide), kk, if_pos ⟨rfl, rfl, rfl⟩]
        refine b_MD_point_122 ⟨vw, ?_⟩
        rw [e_w, e5]
        refine pk_le (c + 1) (c + 1) (fun _ => ⟨vw, vw, fun σ4 e4 => ⟨vw, ?_⟩⟩) (fun z => absurd z (Nat.lt_irrefl _))
        have e6 : gI σ4 55 0 w = nI (c + 1) := by rw [e4, gI_pI, if_neg (by omega)]; exact e5
        rw [e6]
        refine h1' σ4 (hO hz) ⟨⟨fun a i j hn => ?_, fun a i j => ?_⟩, fun j => ?_, fun j => ?_, fun j => ?_, fun j => ?_, fun i hi' => ?_, fun j hj => ?_⟩
        · simp only [List.mem_cons, List.not_mem_nil, or_false] at hn
          rw [e4, gI_pI, if_neg (by omega), hU.1 a i j (by simp; omega), kk, if_neg (by omega), if_neg (by omega), if_neg (by omega)]
        · rw [e4, gJ_pI, hU.2]; exact kJ a i j
        · rw [e4, gI_pI, if_neg (by omega), hU.1 55 0 j (by decide), kk]
          by_cases p : j = w
          · rw [if_pos ⟨rfl, rfl, p⟩, if_pos p]
          · rw [if_neg (by omega), if_neg p, if_neg (by omega), if_neg (by omega)]
        · rw [e4, gI_pI]
          by_cases p : j = w
          · rw [if_pos ⟨rfl, rfl, p⟩, if_pos p]
          · rw [if_neg (by omega), if_neg p, hU.1 58 0 j (by decide), kk, if_neg (by omega), if_neg (by omega), if_neg (by omega)]
        · rw [e4, gI_pI, if_neg (by omega), hU.1 56 0 j (by decide), kk, if_neg (by omega), if_neg (by omega)]
          by_cases p : j = 20 * w + c
          · rw [if_pos ⟨rfl, rfl, p⟩, if_pos p]
          · rw [if_neg (by omega), if_neg p]
        · rw [e4, gI_pI, if_neg (by omega), hU.1 57 0 j (by decide), kk, if_neg (by omega)]
          by_cases p : j = 20 * w + c
          · rw [if_pos ⟨rfl, rfl, p⟩, if_pos p]
          · rw [if_neg (by omega), if_neg p, if_neg (by omega)]
        · rw [e4, gI_pI, if_neg (by omega)]; exact hi i hi'
        · rw [e4, gI_pI, if_neg (by omega)]; exact ho j hj
      · intro i hic ih υ hU hi ho
        have e5 : gI υ 55 0 w = nI (c + 1) := by rw [hU.1 55 0 w (by decide), kk, if_pos ⟨rfl, rfl, rfl⟩]
        refine b_MD_point_122 ⟨vw, ?_⟩
        rw [e_w, e5, m20, nI_add, cl_n (i := 20 * w + i) (by omega), nI_1]
        refine pk_le (c + 1) i (fun z => by omega) (fun _ => ⟨vp_n (by omega) (by omega), fun σ4 e4 => ?_⟩)
        refine ih σ4 (by rw [e4]; exact hU.pI (by decide)) (fun i' hi' => ?_) (fun j hj => ?_)
        · rw [e4, gI_pI]
          by_cases p : i' = i
          · rw [if_pos ⟨rfl, rfl, by omega⟩, p]
          · rw [if_neg (by omega)]; exact hi i' (by omega)
        · rw [e4, gI_pI, if_neg (by omega)]; exact ho j hj
    exact key 0 (by omega) σ3 Eqs.rf (fun i' hi' => by omega) (fun j _ => by rw [kk, if_neg (by omega), if_neg (by omega), if_neg (by omega)])
  refine pk_le c 0 (fun p => add (Or.inl (by omega))) (fun p => ?_)
  rw [show nI (20 * w + c) = nI (20 * w + (c - 1) + 1) from congrArg nI (by omega), nI_pred, show nI (20 * w + (c - 1) + 1) = nI (20 * w + c) from congrArg nI (by omega), cl_n (i := 20 * w + (c - 1)) (by omega)]
  have v2 : vp_in (nI (20 * w + (c - 1))) 240 := vp_n (by omega) (by omega)
  refine ⟨v2, fun e1 => ⟨v2, fun e2 => h0' ?_, fun e2 => add (Or.inr (Or.inr e2))⟩, fun e1 => add (Or.inr (Or.inl e1))⟩
  rintro (z1 | z1 | z1)
  · omega
  · exact z1 e1
  · exact z1 e2
theorem c_Mcrossings {d : Nat} {σ : Mem} {Post : Option AV → Mem → Prop} {v w : Int32} (hv : AllM σ) (h : ∀ (i j : Nat), TwoM σ v w i j → Post (some (vI (nI (crM σ i j (shM σ i) (shM σ j))))) σ) (hn : (∀ i j : Nat, ¬ TwoM σ v w i j) → Post (some (vI (-1))) σ) : MM (d + 3) M_MD_crossings [vR 51 0, vI v, vI w] σ Post := by
  refine MM.of ok_MD_crossings rfl ?_
  refine b_MD_crossings_0 ?_
  refine c_MisThere (fun i hi ei qia qib => ?_) (fun q => b_MD_crossings_5f (hn (fun i j z => q i (by have := z.1; omega) z.2.2.2.1 z.2.2.2.2.2.1.1 z.2.2.2.2.2.1.2)))
  subst ei
  refine b_MD_crossings_5t ?_
  refine c_MisThere (fun j hj ej qja qjb => ?_) (fun q => b_MD_crossings_13f (hn (fun i j z => q j (by have := z.2.1; omega) z.2.2.2.2.1 z.2.2.2.2.2.2.1 z.2.2.2.2.2.2.2)))
  subst ej
  refine b_MD_crossings_13t (pk_eq i j (fun e => hn (fun a b z => z.2.2.1 ?_)) (fun e => ?_))
  · have e1 := (nI_eq (by omega) (by have := z.1; omega)).mp z.2.2.2.1
    have e2 := (nI_eq (by omega) (by have := z.2.1; omega)).mp z.2.2.2.2.1
    omega
  have hT : TwoM σ (nI i) (nI j) i j := ⟨by omega, by omega, e, rfl, rfl, ⟨qia, qib⟩, qja, qjb⟩
  have hp := h i j hT
  have va := hv i (by omega)
  have vb := hv j (by omega)
  have h20a : shM σ i ≤ 20 := by have := va.2.2.1; have := va.2.2.2.1; omega
  have h20b : shM σ j ≤ 20 := by have := vb.2.2.1; have := vb.2.2.2.1; omega
  have vi : vp_in (nI i) 12 := vp_n (by omega) (by omega)
  have vj : vp_in (nI j) 12 := vp_n (by omega) (by omega)
  have key : ∀ a, a ≤ shM σ i - 1 → ∀ v5 : AV, WS (d + 2 + 1) M_MD_crossings 28 [vR 51 0, vI (nI i), vI (nI j), vI (nI (sN (fun a => cN (fun b => crossZ (lnMW σ i a) (lnMW σ j b)) (shM σ j - 1)) a)), vI (nI a), v5] [] σ Post := by
    refine upto (shM σ i - 1) ?_ ?_
    · intro v5
      refine b_MD_crossings_28 ⟨vi, ?_⟩
      rw [cl_n (by omega), va.2.1, nI_1]
      exact pk_le (shM σ i) (shM σ i - 1 + 1) (fun _ => hp) (fun z => by omega)
    · intro a ha ih v5
      refine b_MD_crossings_28 ⟨vi, ?_⟩
      rw [cl_n (by omega), va.2.1, nI_1]
      refine pk_le (shM σ i) (a + 1) (fun z => by omega) (fun _ => ?_)
      have inn : ∀ b, b ≤ shM σ j - 1 → WS (d + 2 + 1) M_MD_crossings 44 [vR 51 0, vI (nI i), vI (nI j), vI (nI (sN (fun a => cN (fun b => crossZ (lnMW σ i a) (lnMW σ j b)) (shM σ j - 1)) a + cN (fun b => crossZ (lnMW σ i a) (lnMW σ j b)) b)), vI (nI a), vI (nI b)] [] σ Post := by
        refine upto (shM σ j - 1) ?_ ?_
        · refine b_MD_crossings_44 ⟨vj, ?_⟩
          rw [cl_n (by omega), vb.2.1, nI_1, nI_1]
          exact pk_le (shM σ j) (shM σ j - 1 + 1) (fun _ => ih _) (fun z => by omega)
        · intro b hb ihb
          refine b_MD_crossings_44 ⟨vj, ?_⟩
          rw [cl_n (by omega), vb.2.1, nI_1, nI_1]
          refine pk_le (shM σ j) (b + 1) (fun z => by omega) (fun _ => ?_)
          refine c_Mat (by omega) va (by omega) ?_
          refine b_MD_crossings_65 ?_
          rw [nI_1]
          refine c_Mat (by omega) va (by omega) ?_
          refine b_MD_crossings_74 (c_Mat (by omega) vb (by omega) ?_)
          refine b_MD_crossings_81 ?_
          rw [nI_1]
          refine c_Mat (by omega) vb (by omega) ?_
          refine b_MD_crossings_90 (c_Mcrosses (mP_at va (by omega)) (mP_at va (by omega)) (mP_at vb (by omega)) (mP_at vb (by omega)) (fun q => ?_) (fun q => ?_))
          · refine b_MD_crossings_93t ?_
            rw [nI_1, nI_1]
            rw [cN_t (p := fun b => crossZ (lnMW σ i a) (lnMW σ j b)) q] at ihb
            exact ihb
          · refine b_MD_crossings_93f ?_
            rw [nI_1, ← cN_f (p := fun b => crossZ (lnMW σ i a) (lnMW σ j b)) q]
            exact ihb
      exact inn 0 (by omega)
  exact key 0 (by omega) vU
def drwW (σ : Mem) (v x : Int32) (j k : Nat) : Prop := j < 12 ∧ v = nI j ∧ k < shW σ j ∧ x = nI k
theorem c_TMdrawn {d : Nat} {σ : Mem} {Post : Option AV → Mem → Prop} {v x : Int32} (hv : AllV σ) (h1 : ∀ j k, drwW σ v x j k → Post (some (vI (gI σ 5 j k))) σ) (h0 : (∀ j k, ¬ drwW σ v x j k) → Post (some (vI (-1))) σ) : MM (d + 2) M_TM_drawn [vR 0 0, vI v, vI x] σ Post := by
  refine MM.of ok_TM_drawn rfl ?_
  refine b_TM_drawn_0 ?_
  refine c_hasPoints (fun j hj ej qj => ?_) (fun q => b_TM_drawn_5f (h0 (fun j k z => q j (by have := z.1; omega) z.2.1 ?_)))
  · subst ej
    have vv := hv j (by omega)
    have h20 : shW σ j ≤ 20 := by have := vv.2.2.1; have := vv.2.2.2.1; omega
    refine b_TM_drawn_5t ⟨vp_n (by omega) (by omega), ?_⟩
    rw [cl_n (by omega)]
    have em : (gI σ 2 j 4 - 1).toInt = (shW σ j : Int) - 1 := l_m1 vv.2.1 (by omega)
    refine c_inRange (fun q1 q2 => ?_) (fun q => b_TM_drawn_23f (h0 (fun i k z => q ?_)))
    · rw [em] at q2
      obtain ⟨k, hk, rfl⟩ := t_nat (x := x) (n := 20) q1 (by omega) (by omega)
      rw [nI_t (by omega)] at q2
      refine b_TM_drawn_23t ⟨vp_n (by omega) (by omega), vp_n (by omega) (by omega), ?_⟩
      rw [cl_n (by omega), cl_n (by omega)]
      exact h1 j k ⟨by omega, rfl, by omega, rfl⟩
    · have z1 := z.1
      obtain rfl : i = j := ((nI_eq (by omega) (by omega)).mp z.2.1).symm
      have z2 := z.2.2.1
      rw [em, z.2.2.2, nI_t (by omega)]
      omega
  · have vv := hv j z.1
    have := vv.2.2.1
    have := vv.2.2.2.1
    have := z.2.2.1
    rw [vv.1, nI_t (by omega)]
    omega
def drwM (σ : Mem) (v x : Int32) (j k : Nat) : Prop := j < 12 ∧ v = nI j ∧ gI σ 52 0 j ≠ 0 ∧ k < shM σ j ∧ x = nI k
theorem c_Mdrawn {d : Nat} {σ : Mem} {Post : Option AV → Mem → Prop} {v x : Int32} (hv : AllM σ) (h1 : ∀ j k, drwM σ v x j k → Post (some (vI (gI σ 59 0 (20 * j + k)))) σ) (h0 : (∀ j k, ¬ drwM σ v x j k) → Post (some (vI (-1))) σ) : MM (d + 2) M_MD_drawn [vR 51 0, vI v, vI x] σ Post := by
  refine MM.of ok_MD_drawn rfl ?_
  refine b_MD_drawn_0 ?_
  refine c_MisWay (fun j hj ej qj => ?_) (fun q => b_MD_drawn_5f (h0 (fun j k z => z.2.2.1 (q j (by have := z.1; omega) z.2.1))))
  subst ej
  have vv := hv j (by omega)
  have h20 : shM σ j ≤ 20 := by have := vv.2.2.1; have := vv.2.2.2.1; omega
  have inj : ∀ i, nI j = nI i → i < 12 → i = j := fun i a b => ((nI_eq (by omega) (by omega)).mp a).symm
  refine b_MD_drawn_5t ⟨fun z => h0 (fun i k y => ?_), fun z => ⟨vp_n (by omega) (by omega), ?_⟩⟩
  · rw [t_lt, t_0, y.2.2.2.2] at z
    obtain rfl := inj i y.2.1 y.1
    have := y.2.2.2.1
    rw [nI_t (by omega)] at z
    omega
  · rw [t_lt, t_0] at z
    rw [cl_n (by omega), vv.2.1]
    refine ⟨fun y => h0 (fun i k u => ?_), fun y => ?_⟩
    · obtain rfl := inj i u.2.1 u.1
      have := u.2.2.2.1
      rw [u.2.2.2.2, t_le, nI_t (by omega), nI_t (by omega)] at y
      omega
    · rw [t_le, nI_t (by omega)] at y
      obtain ⟨k, hk, rfl⟩ := t_nat (x := x) (n := 20) (by omega) (by omega) (by omega)
      rw [nI_t (by omega)] at y
      rw [m20, nI_add, cl_n (by omega)]
      exact ⟨vp_n (by omega) (by omega), h1 j k ⟨by omega, rfl, qj, by omega, rfl⟩⟩
theorem bend_sd (ax ay bx by' cx cy : Int) : (bx - ax) * (cy - by') - (by' - ay) * (cx - bx) = sd ax ay bx by' cx cy := by unfold sd; grind
theorem c_bend {d : Nat} {σ : Mem} {Post : Option AV → Mem → Prop} {w e c s : Nat} (hv : WayV σ w c s) (he : e + 2 < s) (h : ∀ r : Int32, r.toInt = (sdL (lnW σ w e) (px σ w (nb σ w (e + 2))) (py σ w (nb σ w (e + 2)))).sign → Post (some (vI r)) σ) : MM d M_Way_bend [vR 2 w, vI (nI (e + 1))] σ Post := by
  obtain ⟨g1, g2, hc, hs, hco, hnb⟩ := hv
  refine MM.of ok_Way_bend rfl ?_
  refine b_Way_bend_0 ?_
  rw [nI_pred, nI_1, cl_n (i := e) (by omega), cl_n (i := e + 1) (by omega), cl_n (i := e + 1 + 1) (by omega)]
  have n0 := hnb e (by omega)
  have n1 := hnb (e + 1) (by omega)
  have n2 := hnb (e + 2) he
  have v0 : vp_in (gI σ 5 w e) 20 := by rw [n0.2]; exact vp_n (by omega) (by omega)
  have v1 : vp_in (gI σ 5 w (e + 1)) 20 := by rw [n1.2]; exact vp_n (by omega) (by omega)
  have v2 : vp_in (gI σ 5 w (e + 1 + 1)) 20 := by rw [show e + 1 + 1 = e + 2 from rfl, n2.2]; exact vp_n (by omega) (by omega)
  have c0 := hco _ n0.1
  have c1 := hco _ n1.1
  have c2 := hco _ n2.1
  have ez : ((gI σ 3 w (gI σ 5 w (e + 1)).toNatClampNeg - gI σ 3 w (gI σ 5 w e).toNatClampNeg) * (gI σ 4 w (gI σ 5 w (e + 1 + 1)).toNatClampNeg - gI σ 4 w (gI σ 5 w (e + 1)).toNatClampNeg) - (gI σ 4 w (gI σ 5 w (e + 1)).toNatClampNeg - gI σ 4 w (gI σ 5 w e).toNatClampNeg) * (gI σ 3 w (gI σ 5 w (e + 1 + 1)).toNatClampNeg - gI σ 3 w (gI σ 5 w (e + 1)).toNatClampNeg)).toInt = sdL (lnW σ w e) (px σ w (nb σ w (e + 2))) (py σ w (nb σ w (e + 2))) := by
    have e1 := co_prod c1.1 c0.1 c2.2 c1.2
    have e2 := co_prod c1.2 c0.2 c2.1 c1.1
    have a1 := co_mul c1.1 c0.1 c2.2 c1.2
    have a2 := co_mul c1.2 c0.2 c2.1 c1.1
    unfold nb at e1 e2
    unfold px py nb at a1 a2
    rw [t_sub (by rw [e1, e2]; omega) (by rw [e1, e2]; omega), e1, e2]
    exact bend_sd _ _ _ _ _ _
  refine ⟨vp_n (by omega) (by omega), vp_n (by omega) (by omega), vp_n (by omega) (by omega), v1, v0, v2, v1, v1, v0, v2, v1, fun z => ⟨fun y => h 0 ?_, fun y => h (-1) ?_⟩, fun z => h 1 ?_⟩
  · rw [t_le, t_0, ez] at z y
    rw [t_0, show sdL (lnW σ w e) (px σ w (nb σ w (e + 2))) (py σ w (nb σ w (e + 2))) = 0 by omega]; rfl
  · rw [t_le, t_0, ez] at z y
    rw [Int.sign_eq_neg_one_of_neg (by omega)]; decide
  · rw [t_le, t_0, ez] at z
    rw [Int.sign_eq_one_of_pos (by omega)]; decide
def trnW (σ : Mem) (v x : Int32) (j e : Nat) : Prop := j < 12 ∧ v = nI j ∧ e + 2 < shW σ j ∧ x = nI (e + 1)
theorem l_m2 {x : Int32} {l : Nat} (h : x = nI l) (hl : l ≤ 1000) : (x - 2).toInt = (l : Int) - 2 := by
  rw [h, t_sub] <;> rw [nI_t (by omega), t_2] <;> omega
theorem c_TMturn {d : Nat} {σ : Mem} {Post : Option AV → Mem → Prop} {v x : Int32} (hv : AllV σ) (h1 : ∀ j e (r : Int32), trnW σ v x j e → r.toInt = (sdL (lnW σ j e) (px σ j (nb σ j (e + 2))) (py σ j (nb σ j (e + 2)))).sign → Post (some (vI r)) σ) (h0 : (∀ j e, ¬ trnW σ v x j e) → Post (some (vI (-2))) σ) : MM (d + 2) M_TM_turn [vR 0 0, vI v, vI x] σ Post := by
  refine MM.of ok_TM_turn rfl ?_
  refine b_TM_turn_0 ?_
  refine c_hasPoints (fun j hj ej qj => ?_) (fun q => b_TM_turn_5f (h0 (fun j e z => q j (by have := z.1; omega) z.2.1 ?_)))
  · subst ej
    have vv := hv j (by omega)
    have h20 : shW σ j ≤ 20 := by have := vv.2.2.1; have := vv.2.2.2.1; omega
    have inj : ∀ i, nI j = nI i → i < 12 → i = j := fun i a b => ((nI_eq (by omega) (by omega)).mp a).symm
    have em : (gI σ 2 j 4 - 2).toInt = (shW σ j : Int) - 2 := l_m2 vv.2.1 (by omega)
    refine b_TM_turn_5t ⟨fun z => h0 (fun i e y => ?_), fun z => ⟨vp_n (by omega) (by omega), ?_⟩⟩
    · obtain rfl := inj i y.2.1 y.1
      have := y.2.2.1
      rw [t_lt, t_1, y.2.2.2, nI_t (by omega)] at z
      omega
    · rw [t_lt, t_1] at z
      rw [cl_n (by omega)]
      refine c_inRange (fun q1 q2 => ?_) (fun q => b_TM_turn_28f (h0 (fun i e y => q ?_)))
      · rw [em] at q2
        obtain ⟨k, hk, rfl⟩ := t_nat (x := x) (n := 20) q1 (by omega) (by omega)
        rw [nI_t (by omega)] at q2 z
        obtain ⟨e, rfl⟩ : ∃ e, k = e + 1 := ⟨k - 1, by omega⟩
        refine b_TM_turn_28t ⟨vp_n (by omega) (by omega), ?_⟩
        rw [cl_n (by omega)]
        exact c_bend vv (by omega) (fun r hr => b_TM_turn_44 (h1 j e r ⟨by omega, rfl, by omega, rfl⟩ hr))
      · obtain rfl := inj i y.2.1 y.1
        have := y.2.2.1
        rw [em, y.2.2.2, nI_t (by omega)]
        omega
  · have vv := hv j z.1
    have := vv.2.2.1
    have := vv.2.2.2.1
    have := z.2.2.1
    rw [vv.1, nI_t (by omega)]
    omega
def trnM (σ : Mem) (v x : Int32) (j e : Nat) : Prop := j < 12 ∧ v = nI j ∧ gI σ 52 0 j ≠ 0 ∧ e + 2 < shM σ j ∧ x = nI (e + 1)
theorem c_Mturn {d : Nat} {σ : Mem} {Post : Option AV → Mem → Prop} {v x : Int32} (hv : AllM σ) (h1 : ∀ j e (r : Int32), trnM σ v x j e → r.toInt = (sdL (lnMW σ j e) (mX σ (20 * j + mn σ j (e + 2))) (mY σ (20 * j + mn σ j (e + 2)))).sign → Post (some (vI r)) σ) (h0 : (∀ j e, ¬ trnM σ v x j e) → Post (some (vI (-2))) σ) : MM (d + 2) M_MD_turn [vR 51 0, vI v, vI x] σ Post := by
  refine MM.of ok_MD_turn rfl ?_
  refine b_MD_turn_0 ?_
  refine c_MisWay (fun j hj ej qj => ?_) (fun q => b_MD_turn_5f (h0 (fun j e z => z.2.2.1 (q j (by have := z.1; omega) z.2.1))))
  subst ej
  have vv := hv j (by omega)
  have h20 : shM σ j ≤ 20 := by have := vv.2.2.1; have := vv.2.2.2.1; omega
  have inj : ∀ i, nI j = nI i → i < 12 → i = j := fun i a b => ((nI_eq (by omega) (by omega)).mp a).symm
  have em : (gI σ 58 0 j - 2).toInt = (shM σ j : Int) - 2 := l_m2 vv.2.1 (by omega)
  refine b_MD_turn_5t ⟨fun z => h0 (fun i e y => ?_), fun z => ⟨vp_n (by omega) (by omega), ?_⟩⟩
  · obtain rfl := inj i y.2.1 y.1
    have := y.2.2.2.1
    rw [t_lt, t_1, y.2.2.2.2, nI_t (by omega)] at z
    omega
  · rw [t_lt, t_1] at z
    rw [cl_n (by omega)]
    refine ⟨fun q2 => ?_, fun q => h0 (fun i e y => q ?_)⟩
    · rw [t_le, em] at q2
      obtain ⟨k, hk, rfl⟩ := t_nat (x := x) (n := 20) (by omega) (by omega) (by omega)
      rw [nI_t (by omega)] at q2 z
      obtain ⟨e, rfl⟩ : ∃ e, k = e + 1 := ⟨k - 1, by omega⟩
      rw [nI_pred]
      refine c_Mat (by omega) vv (by omega) ?_
      refine b_MD_turn_37 (c_Mat (by omega) vv (by omega) ?_)
      refine b_MD_turn_43 ?_
      rw [nI_1]
      refine c_Mat (by omega) vv (by omega) ?_
      refine b_MD_turn_51 (c_Mcross (mP_at vv (by omega)) (mP_at vv (by omega)) (mP_at vv (by omega)) (fun r hr => ?_))
      refine b_MD_turn_54 (c_MsignOf (fun r2 hr2 => ?_))
      exact b_MD_turn_57 (h1 j e r2 ⟨by omega, rfl, qj, by omega, rfl⟩ (by rw [hr2, hr]; rfl))
    · obtain rfl := inj i y.2.1 y.1
      have := y.2.2.2.1
      rw [t_le, em, y.2.2.2.2, nI_t (by omega)]
      omega
theorem c_TMkept {d : Nat} {σ : Mem} {Post : Option AV → Mem → Prop} {v : Int32} (h1 : ∀ j, j < 12 → v = nI j → gI σ 15 0 1 ≠ 0 → Post (some (vI (if gI σ 21 0 j = 0 then 1 else 0))) σ) (h0 : (∀ j, j < 12 → v = nI j → gI σ 15 0 1 = 0) → Post (some (vI (-1))) σ) : MM (d + 1) M_TM_kept [vR 0 0, vI v] σ Post := by
  refine MM.of ok_TM_kept rfl ?_
  refine b_TM_kept_0 ?_
  refine c_inRange (fun q1 q2 => ?_) (fun q => b_TM_kept_6f (h0 (fun j hj e => absurd (by rw [e, nI_t (by omega), t_11]; omega) q)))
  rw [t_11] at q2
  obtain ⟨j, hj, rfl⟩ := t_nat (x := v) (n := 11) q1 q2 (by omega)
  refine b_TM_kept_6t ⟨fun z => h0 (fun _ _ _ => z), fun z => ?_⟩
  refine c_holds (by omega) (fun y => b_TM_kept_29t ?_) (fun y => b_TM_kept_29f ?_)
  · have := h1 j (by omega) rfl z
    rw [if_pos y.2] at this; exact this
  · have := h1 j (by omega) rfl z
    rw [if_neg (fun u => y ⟨z, u⟩)] at this; exact this
theorem c_Mkept {d : Nat} {σ : Mem} {Post : Option AV → Mem → Prop} {v : Int32} (h1 : ∀ j, j < 12 → v = nI j → gI σ 51 0 11 ≠ 0 → Post (some (vI (if bI (gI σ 51 0 10) j = true then 1 else 0))) σ) (h0 : (∀ j, j < 12 → v = nI j → gI σ 51 0 11 = 0) → Post (some (vI (-1))) σ) : MM (d + 1) M_MD_kept [vR 51 0, vI v] σ Post := by
  refine MM.of ok_MD_kept rfl ?_
  refine b_MD_kept_0 ⟨fun z => h0 (fun _ _ _ => z), fun z => ?_⟩
  refine c_MisIn (fun q1 q2 => ?_) (fun q => b_MD_kept_14f (h0 (fun j hj e => absurd (by rw [e, nI_t (by omega), t_0, t_11]; omega) q)))
  rw [t_0] at q1
  rw [t_11] at q2
  obtain ⟨j, hj, rfl⟩ := t_nat (x := v) (n := 11) q1 q2 (by omega)
  refine b_MD_kept_14t ?_
  rw [shr1 _ (by omega)]
  exact h1 j (by omega) rfl z
