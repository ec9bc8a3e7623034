/-! contracts: areas' marks -/
theorem m8 (a : Nat) : (8 : Int32) * nI a = nI (8 * a) := pk_mul 8 a
theorem m5 (a : Nat) : (5 : Int32) * nI a = nI (5 * a) := pk_mul 5 a
theorem m5r (a : Nat) : nI a * (5 : Int32) = nI (a * 5) := pk_mul a 5
/-- two marks set or taken away -/
def Joi (σ τ : Mem) (K a b : Nat) (v : Bool) : Prop := Eqs [K] σ τ ∧ ∀ c i, i < 32 → bI (gI τ K 0 c) i = if (c = a ∧ i = b) ∨ (c = b ∧ i = a) then v else bI (gI σ K 0 c) i
theorem joi {σ σ1 σ2 : Mem} {K a b : Nat} {v : Bool} (hab : a ≠ b) (ha : a < 32) (hb : b < 32) (f : Int32 → Nat → Int32) (hf : ∀ x c i, c < 32 → i < 32 → bI (f x c) i = if i = c then v else bI x i) (h1 : σ1 = pI σ K 0 a (f (gI σ K 0 a) b)) (h2 : σ2 = pI σ1 K 0 b (f (gI σ1 K 0 b) a)) : Joi σ σ2 K a b v := by
  refine ⟨?_, fun c i hi => ?_⟩
  · rw [h2, h1]; exact (Eqs.rf.pI List.mem_cons_self).pI List.mem_cons_self
  · have e1 : gI σ1 K 0 b = gI σ K 0 b := by rw [h1, gI_pI, if_neg (by omega)]
    rw [h2, gI_pI]
    by_cases hcb : c = b
    · subst hcb
      rw [if_pos ⟨rfl, rfl, rfl⟩, hf _ _ _ ha hi, e1]
      by_cases hia : i = a
      · rw [if_pos hia, if_pos (Or.inr ⟨rfl, hia⟩)]
      · rw [if_neg hia, if_neg (by omega)]
    · rw [if_neg (by omega), h1, gI_pI]
      by_cases hca : c = a
      · subst hca
        rw [if_pos ⟨rfl, rfl, rfl⟩, hf _ _ _ hb hi]
        by_cases hib : i = b
        · rw [if_pos hib, if_pos (Or.inl ⟨rfl, hib⟩)]
        · rw [if_neg hib, if_neg (by omega)]
      · rw [if_neg (by omega), if_neg (by omega)]
theorem f_or (x : Int32) (c i : Nat) (hc : c < 32) (hi : i < 32) : bI (x ||| ((1 : Int32) <<< (nI c &&& 31))) i = if i = c then true else bI x i := by
  rw [bI_or, bI_shl hc]
  by_cases h : i = c <;> simp [h]
theorem f_an (x : Int32) (c i : Nat) (hc : c < 32) (hi : i < 32) : bI (x &&& (((1 : Int32) <<< (nI c &&& 31)) ^^^ (-1))) i = if i = c then false else bI x i := by
  rw [bI_and, bI_not _ hi, bI_shl hc]
  by_cases h : i = c <;> simp [h]
theorem c_join46 {d : Nat} {σ : Mem} {Post : Option AV → Mem → Prop} {a b : Nat} {x : Int32} (hab : a ≠ b) (ha : a < 8) (hb : b < 8) (h : ∀ τ : Mem, Joi σ τ 46 a b (decide (x ≠ 0)) → Post none τ) : MM d M_TM_join [vR 46 0, vI (nI a), vI (nI b), vI x] σ Post := by
  refine MM.of ok_TM_join rfl ?_
  have ea : (nI a).toNatClampNeg = a := cl_n (by omega)
  have eb : (nI b).toNatClampNeg = b := cl_n (by omega)
  have va : vp_in (nI a) 8 := vp_n ha (by omega)
  have vb : vp_in (nI b) 8 := vp_n hb (by omega)
  refine b_TM_join46_0 ?_
  rw [ea, eb]
  refine ⟨fun c => ⟨va, va, fun σ1 h1 => ⟨fun _ => ⟨vb, vb, fun σ2 h2 => h _ ?_⟩, fun q => absurd c q⟩⟩, fun c => ⟨va, va, fun σ1 h1 => ⟨fun q => absurd q c, fun _ => ⟨vb, vb, fun σ2 h2 => h _ ?_⟩⟩⟩⟩
  · rw [decide_eq_false (by simpa using c)]
    exact joi hab (by omega) (by omega) (fun x c => x &&& (((1 : Int32) <<< (nI c &&& 31)) ^^^ (-1))) f_an h1 h2
  · rw [decide_eq_true c]
    exact joi hab (by omega) (by omega) (fun x c => x ||| ((1 : Int32) <<< (nI c &&& 31))) f_or h1 h2
theorem c_join47 {d : Nat} {σ : Mem} {Post : Option AV → Mem → Prop} {a b : Nat} {x : Int32} (hab : a ≠ b) (ha : a < 5) (hb : b < 5) (h : ∀ τ : Mem, Joi σ τ 47 a b (decide (x ≠ 0)) → Post none τ) : MM d M_TM_join [vR 47 0, vI (nI a), vI (nI b), vI x] σ Post := by
  refine MM.of ok_TM_join rfl ?_
  have ea : (nI a).toNatClampNeg = a := cl_n (by omega)
  have eb : (nI b).toNatClampNeg = b := cl_n (by omega)
  have va : vp_in (nI a) 5 := vp_n ha (by omega)
  have vb : vp_in (nI b) 5 := vp_n hb (by omega)
  refine b_TM_join47_0 ?_
  rw [ea, eb]
  refine ⟨fun c => ⟨va, va, fun σ1 h1 => ⟨fun _ => ⟨vb, vb, fun σ2 h2 => h _ ?_⟩, fun q => absurd c q⟩⟩, fun c => ⟨va, va, fun σ1 h1 => ⟨fun q => absurd q c, fun _ => ⟨vb, vb, fun σ2 h2 => h _ ?_⟩⟩⟩⟩
  · rw [decide_eq_false (by simpa using c)]
    exact joi hab (by omega) (by omega) (fun x c => x &&& (((1 : Int32) <<< (nI c &&& 31)) ^^^ (-1))) f_an h1 h2
  · rw [decide_eq_true c]
    exact joi hab (by omega) (by omega) (fun x c => x ||| ((1 : Int32) <<< (nI c &&& 31))) f_or h1 h2
theorem c_join17 {d : Nat} {σ : Mem} {Post : Option AV → Mem → Prop} {a b : Nat} {x : Int32} (hab : a ≠ b) (ha : a < 12) (hb : b < 12) (h : ∀ τ : Mem, Joi σ τ 17 a b (decide (x ≠ 0)) → Post none τ) : MM d M_TM_join [vR 17 0, vI (nI a), vI (nI b), vI x] σ Post := by
  refine MM.of ok_TM_join rfl ?_
  have ea : (nI a).toNatClampNeg = a := cl_n (by omega)
  have eb : (nI b).toNatClampNeg = b := cl_n (by omega)
  have va : vp_in (nI a) 12 := vp_n ha (by omega)
  have vb : vp_in (nI b) 12 := vp_n hb (by omega)
  refine b_TM_join17_0 ?_
  rw [ea, eb]
  refine ⟨fun c => ⟨va, va, fun σ1 h1 => ⟨fun _ => ⟨vb, vb, fun σ2 h2 => h _ ?_⟩, fun q => absurd c q⟩⟩, fun c => ⟨va, va, fun σ1 h1 => ⟨fun q => absurd q c, fun _ => ⟨vb, vb, fun σ2 h2 => h _ ?_⟩⟩⟩⟩
  · rw [decide_eq_false (by simpa using c)]
    exact joi hab (by omega) (by omega) (fun x c => x &&& (((1 : Int32) <<< (nI c &&& 31)) ^^^ (-1))) f_an h1 h2
  · rw [decide_eq_true c]
    exact joi hab (by omega) (by omega) (fun x c => x ||| ((1 : Int32) <<< (nI c &&& 31))) f_or h1 h2
theorem c_join35 {d : Nat} {σ : Mem} {Post : Option AV → Mem → Prop} {a b : Nat} {x : Int32} (hab : a ≠ b) (ha : a < 32) (hb : b < 32) (h : ∀ τ : Mem, Joi σ τ 35 a b (decide (x ≠ 0)) → Post none τ) : MM d M_TM_join [vR 35 0, vI (nI a), vI (nI b), vI x] σ Post := by
  refine MM.of ok_TM_join rfl ?_
  have ea : (nI a).toNatClampNeg = a := cl_n (by omega)
  have eb : (nI b).toNatClampNeg = b := cl_n (by omega)
  have va : vp_in (nI a) 32 := vp_n ha (by omega)
  have vb : vp_in (nI b) 32 := vp_n hb (by omega)
  refine b_TM_join35_0 ?_
  rw [ea, eb]
  refine ⟨fun c => ⟨va, va, fun σ1 h1 => ⟨fun _ => ⟨vb, vb, fun σ2 h2 => h _ ?_⟩, fun q => absurd c q⟩⟩, fun c => ⟨va, va, fun σ1 h1 => ⟨fun q => absurd q c, fun _ => ⟨vb, vb, fun σ2 h2 => h _ ?_⟩⟩⟩⟩
  · rw [decide_eq_false (by simpa using c)]
    exact joi hab (by omega) (by omega) (fun x c => x &&& (((1 : Int32) <<< (nI c &&& 31)) ^^^ (-1))) f_an h1 h2
  · rw [decide_eq_true c]
    exact joi hab (by omega) (by omega) (fun x c => x ||| ((1 : Int32) <<< (nI c &&& 31))) f_or h1 h2
/-- two unlike numbers below n -/
def Two8 (v w : Int32) (i j : Nat) : Prop := i < 8 ∧ j < 8 ∧ i ≠ j ∧ v = nI i ∧ w = nI j
theorem c_TMtouch {d : Nat} {σ : Mem} {Post : Option AV → Mem → Prop} {v w x : Int32} (h1 : ∀ (i j : Nat) (τ : Mem), Two8 v w i j → Joi σ τ 46 i j (decide (x ≠ 0)) → Post (some (vI 1)) τ) (h0 : (∀ i j : Nat, ¬ Two8 v w i j) → Post (some (vI 0)) σ) : MM (d + 2) M_TM_touch [vR 0 0, vI v, vI w, vI x] σ Post := by
  refine MM.of ok_TM_touch rfl ?_
  refine b_TM_touch_0 ?_
  refine c_areTwo (n := 8) (by omega) (by omega) (fun i j hi hj hij ei ej => ?_) (fun q => ?_)
  · subst ei ej
    refine b_TM_touch_7t ?_
    refine c_join46 hij hi hj (fun τ hτ => ?_)
    exact b_TM_touch_25 (h1 i j τ ⟨hi, hj, hij, rfl, rfl⟩ hτ)
  · refine b_TM_touch_7f (h0 (fun i j z => q ?_))
    obtain ⟨hi, hj, hij, rfl, rfl⟩ := z
    rw [nI_t (by omega), nI_t (by omega)]
    exact ⟨by omega, by omega, by omega, by omega, fun e => hij ((nI_eq (by omega) (by omega)).mp e)⟩
/-- two unlike numbers below n -/
def Two5 (v w : Int32) (i j : Nat) : Prop := i < 5 ∧ j < 5 ∧ i ≠ j ∧ v = nI i ∧ w = nI j
theorem c_TMapart {d : Nat} {σ : Mem} {Post : Option AV → Mem → Prop} {v w x : Int32} (h1 : ∀ (i j : Nat) (τ : Mem), Two5 v w i j → Joi σ τ 47 i j (decide (x ≠ 0)) → Post (some (vI 1)) τ) (h0 : (∀ i j : Nat, ¬ Two5 v w i j) → Post (some (vI 0)) σ) : MM (d + 2) M_TM_apart [vR 0 0, vI v, vI w, vI x] σ Post := by
  refine MM.of ok_TM_apart rfl ?_
  refine b_TM_apart_0 ?_
  refine c_areTwo (n := 5) (by omega) (by omega) (fun i j hi hj hij ei ej => ?_) (fun q => ?_)
  · subst ei ej
    refine b_TM_apart_6t ?_
    refine c_join47 hij hi hj (fun τ hτ => ?_)
    exact b_TM_apart_24 (h1 i j τ ⟨hi, hj, hij, rfl, rfl⟩ hτ)
  · refine b_TM_apart_6f (h0 (fun i j z => q ?_))
    obtain ⟨hi, hj, hij, rfl, rfl⟩ := z
    rw [nI_t (by omega), nI_t (by omega)]
    exact ⟨by omega, by omega, by omega, by omega, fun e => hij ((nI_eq (by omega) (by omega)).mp e)⟩
/-- the model's two marks -/
def JoM (σ τ : Mem) (K n a b : Nat) (x : Int32) : Prop := Eqs [K] σ τ ∧ ∀ c, gI τ K 0 c = if c = n * a + b ∨ c = n * b + a then x else gI σ K 0 c
theorem joM {σ σ1 σ2 : Mem} {K n a b : Nat} {x : Int32} (h1 : σ1 = pI σ K 0 (n * a + b) x) (h2 : σ2 = pI σ1 K 0 (n * b + a) x) : JoM σ σ2 K n a b x := by
  refine ⟨?_, fun c => ?_⟩
  · rw [h2, h1]; exact (Eqs.rf.pI List.mem_cons_self).pI List.mem_cons_self
  · rw [h2, gI_pI]
    by_cases hcb : c = n * b + a
    · rw [if_pos ⟨rfl, rfl, hcb⟩, if_pos (Or.inr hcb)]
    · rw [if_neg (by omega), h1, gI_pI]
      by_cases hca : c = n * a + b
      · rw [if_pos ⟨rfl, rfl, hca⟩, if_pos (Or.inl hca)]
      · rw [if_neg (by omega), if_neg (by omega)]
theorem t_4 : (4 : Int32).toInt = 4 := by decide
theorem c_Mtouch {d : Nat} {σ : Mem} {Post : Option AV → Mem → Prop} {v w x : Int32} (hx : x = 0 ∨ x = 1) (h1 : ∀ (i j : Nat) (τ : Mem), Two8 v w i j → JoM σ τ 81 8 i j x → Post (some (vI 1)) τ) (h0 : (∀ i j : Nat, ¬ Two8 v w i j) → Post (some (vI 0)) σ) : MM (d + 1) M_MD_touch [vR 51 0, vI v, vI w, vI x] σ Post := by
  refine MM.of ok_MD_touch rfl ?_
  refine b_MD_touch_0 ?_
  refine c_MisIn (fun q1 q2 => ?_) (fun q => ?_)
  · refine b_MD_touch_7t ?_
    refine c_MisIn (fun q3 q4 => ?_) (fun q => ?_)
    · rw [t_0] at q1 q3
      rw [t_7] at q2 q4
      obtain ⟨i, hi, rfl⟩ := t_nat (x := v) (n := 7) q1 (by omega) (by omega)
      obtain ⟨j, hj, rfl⟩ := t_nat (x := w) (n := 7) q3 (by omega) (by omega)
      refine b_MD_touch_17t ⟨fun e => h0 (fun a b z => ?_), fun e => ?_⟩
      · obtain ⟨z1, z2, z3, z4, z5⟩ := z
        exact z3 ((nI_eq (by omega) (by omega)).mp (z4.symm.trans (e.trans z5)))
      · rw [m8, nI_add, m8, nI_add, cl_n (by omega), cl_n (by omega)]
        exact ⟨vp_n (by omega) (by omega), hx, fun σ1 h3 => ⟨vp_n (by omega) (by omega), hx, fun σ2 h4 => h1 i j _ ⟨by omega, by omega, fun z => e (by rw [z]), rfl, rfl⟩ (joM h3 h4)⟩⟩
    · refine b_MD_touch_17f (h0 (fun i j z => q ?_))
      obtain ⟨hi, hj, hij, rfl, rfl⟩ := z
      rw [nI_t (by omega), t_0, t_7]; omega
  · refine b_MD_touch_7f (h0 (fun i j z => q ?_))
    obtain ⟨hi, hj, hij, rfl, rfl⟩ := z
    rw [nI_t (by omega), t_0, t_7]; omega
theorem c_Mapart_ {d : Nat} {σ : Mem} {Post : Option AV → Mem → Prop} {v w x : Int32} (hx : x = 0 ∨ x = 1) (h1 : ∀ (i j : Nat) (τ : Mem), Two5 v w i j → JoM σ τ 82 5 i j x → Post (some (vI 1)) τ) (h0 : (∀ i j : Nat, ¬ Two5 v w i j) → Post (some (vI 0)) σ) : MM (d + 1) M_MD_apart_ [vR 51 0, vI v, vI w, vI x] σ Post := by
  refine MM.of ok_MD_apart_ rfl ?_
  refine b_MD_apart__0 ?_
  refine c_MisIn (fun q1 q2 => ?_) (fun q => ?_)
  · refine b_MD_apart__6t ?_
    refine c_MisIn (fun q3 q4 => ?_) (fun q => ?_)
    · rw [t_0] at q1 q3
      rw [t_4] at q2 q4
      obtain ⟨i, hi, rfl⟩ := t_nat (x := v) (n := 4) q1 (by omega) (by omega)
      obtain ⟨j, hj, rfl⟩ := t_nat (x := w) (n := 4) q3 (by omega) (by omega)
      refine b_MD_apart__15t ⟨fun e => h0 (fun a b z => ?_), fun e => ?_⟩
      · obtain ⟨z1, z2, z3, z4, z5⟩ := z
        exact z3 ((nI_eq (by omega) (by omega)).mp (z4.symm.trans (e.trans z5)))
      · rw [m5, nI_add, m5, nI_add, cl_n (by omega), cl_n (by omega)]
        exact ⟨vp_n (by omega) (by omega), hx, fun σ1 h3 => ⟨vp_n (by omega) (by omega), hx, fun σ2 h4 => h1 i j _ ⟨by omega, by omega, fun z => e (by rw [z]), rfl, rfl⟩ (joM h3 h4)⟩⟩
    · refine b_MD_apart__15f (h0 (fun i j z => q ?_))
      obtain ⟨hi, hj, hij, rfl, rfl⟩ := z
      rw [nI_t (by omega), t_0, t_4]; omega
  · refine b_MD_apart__6f (h0 (fun i j z => q ?_))
    obtain ⟨hi, hj, hij, rfl, rfl⟩ := z
    rw [nI_t (by omega), t_0, t_4]; omega
