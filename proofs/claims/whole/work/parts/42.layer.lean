/-! contracts: the layer -/
theorem bitc : ∀ m, m < 32 → (((((((((nI m) - ((((nI m).toUInt32 >>> ((1 : Int32).toUInt32 &&& Int32.toUInt32 31)).toInt32) &&& (1431655765 : Int32))) &&& (858993459 : Int32)) + (((((nI m) - ((((nI m).toUInt32 >>> ((1 : Int32).toUInt32 &&& Int32.toUInt32 31)).toInt32) &&& (1431655765 : Int32))).toUInt32 >>> ((2 : Int32).toUInt32 &&& Int32.toUInt32 31)).toInt32) &&& (858993459 : Int32))) + ((((((nI m) - ((((nI m).toUInt32 >>> ((1 : Int32).toUInt32 &&& Int32.toUInt32 31)).toInt32) &&& (1431655765 : Int32))) &&& (858993459 : Int32)) + (((((nI m) - ((((nI m).toUInt32 >>> ((1 : Int32).toUInt32 &&& Int32.toUInt32 31)).toInt32) &&& (1431655765 : Int32))).toUInt32 >>> ((2 : Int32).toUInt32 &&& Int32.toUInt32 31)).toInt32) &&& (858993459 : Int32))).toUInt32 >>> ((4 : Int32).toUInt32 &&& Int32.toUInt32 31)).toInt32)) &&& (252645135 : Int32)) + ((((((((nI m) - ((((nI m).toUInt32 >>> ((1 : Int32).toUInt32 &&& Int32.toUInt32 31)).toInt32) &&& (1431655765 : Int32))) &&& (858993459 : Int32)) + (((((nI m) - ((((nI m).toUInt32 >>> ((1 : Int32).toUInt32 &&& Int32.toUInt32 31)).toInt32) &&& (1431655765 : Int32))).toUInt32 >>> ((2 : Int32).toUInt32 &&& Int32.toUInt32 31)).toInt32) &&& (858993459 : Int32))) + ((((((nI m) - ((((nI m).toUInt32 >>> ((1 : Int32).toUInt32 &&& Int32.toUInt32 31)).toInt32) &&& (1431655765 : Int32))) &&& (858993459 : Int32)) + (((((nI m) - ((((nI m).toUInt32 >>> ((1 : Int32).toUInt32 &&& Int32.toUInt32 31)).toInt32) &&& (1431655765 : Int32))).toUInt32 >>> ((2 : Int32).toUInt32 &&& Int32.toUInt32 31)).toInt32) &&& (858993459 : Int32))).toUInt32 >>> ((4 : Int32).toUInt32 &&& Int32.toUInt32 31)).toInt32)) &&& (252645135 : Int32)).toUInt32 >>> ((8 : Int32).toUInt32 &&& Int32.toUInt32 31)).toInt32)) + (((((((((nI m) - ((((nI m).toUInt32 >>> ((1 : Int32).toUInt32 &&& Int32.toUInt32 31)).toInt32) &&& (1431655765 : Int32))) &&& (858993459 : Int32)) + (((((nI m) - ((((nI m).toUInt32 >>> ((1 : Int32).toUInt32 &&& Int32.toUInt32 31)).toInt32) &&& (1431655765 : Int32))).toUInt32 >>> ((2 : Int32).toUInt32 &&& Int32.toUInt32 31)).toInt32) &&& (858993459 : Int32))) + ((((((nI m) - ((((nI m).toUInt32 >>> ((1 : Int32).toUInt32 &&& Int32.toUInt32 31)).toInt32) &&& (1431655765 : Int32))) &&& (858993459 : Int32)) + (((((nI m) - ((((nI m).toUInt32 >>> ((1 : Int32).toUInt32 &&& Int32.toUInt32 31)).toInt32) &&& (1431655765 : Int32))).toUInt32 >>> ((2 : Int32).toUInt32 &&& Int32.toUInt32 31)).toInt32) &&& (858993459 : Int32))).toUInt32 >>> ((4 : Int32).toUInt32 &&& Int32.toUInt32 31)).toInt32)) &&& (252645135 : Int32)) + ((((((((nI m) - ((((nI m).toUInt32 >>> ((1 : Int32).toUInt32 &&& Int32.toUInt32 31)).toInt32) &&& (1431655765 : Int32))) &&& (858993459 : Int32)) + (((((nI m) - ((((nI m).toUInt32 >>> ((1 : Int32).toUInt32 &&& Int32.toUInt32 31)).toInt32) &&& (1431655765 : Int32))).toUInt32 >>> ((2 : Int32).toUInt32 &&& Int32.toUInt32 31)).toInt32) &&& (858993459 : Int32))) + ((((((nI m) - ((((nI m).toUInt32 >>> ((1 : Int32).toUInt32 &&& Int32.toUInt32 31)).toInt32) &&& (1431655765 : Int32))) &&& (858993459 : Int32)) + (((((nI m) - ((((nI m).toUInt32 >>> ((1 : Int32).toUInt32 &&& Int32.toUInt32 31)).toInt32) &&& (1431655765 : Int32))).toUInt32 >>> ((2 : Int32).toUInt32 &&& Int32.toUInt32 31)).toInt32) &&& (858993459 : Int32))).toUInt32 >>> ((4 : Int32).toUInt32 &&& Int32.toUInt32 31)).toInt32)) &&& (252645135 : Int32)).toUInt32 >>> ((8 : Int32).toUInt32 &&& Int32.toUInt32 31)).toInt32)).toUInt32 >>> ((16 : Int32).toUInt32 &&& Int32.toUInt32 31)).toInt32)) &&& (63 : Int32)) = nI (pc5 m) := by decide +kernel
theorem c_bitCount {d : Nat} {σ : Mem} {Post : Option AV → Mem → Prop} {m : Nat} (hm : m < 32) (h : Post (some (vI (nI (pc5 m)))) σ) : MM d M_JInt_bitCount [vI (nI m)] σ Post := by
  refine MM.of ok_JInt_bitCount rfl ?_
  refine b_JInt_bitCount_0 ?_
  rw [bitc m hm]
  exact h
theorem lg_z {x y : Int64} : lg_cmp x y = 0 ↔ x = y := by rw [lg_eq, j_eq]
theorem bI_sm {m i : Nat} (hm : m < 32) (hi : 5 ≤ i) : bI (nI m) i = false := by
  rw [bI_nat, pk_tn (by omega)]
  have : 2 ^ 5 ≤ 2 ^ i := Nat.pow_le_pow_right (by decide) hi
  have e : m / 2 ^ i = 0 := Nat.div_eq_of_lt (by omega)
  rw [e]; rfl
theorem bJ_sm {m i : Nat} (hm : m < 32) (hi : i < 64) : bJ (nI m).toInt64 i = bI (nI m) i := by
  rw [bJ_of _ hi]
  by_cases h : i < 32
  · rw [if_pos h]
  · rw [if_neg h, bI_sm hm (by omega), bI_sm hm (by omega)]
def OJ (y : Int64) (b u : Nat) : Prop := bJ y (b * 5 + u) = true
def TA (σ : Mem) (a b : Nat) : Prop := bI (gI σ 46 0 a) b = true
def UA (σ : Mem) (t u : Nat) : Prop := bI (gI σ 47 0 t) u = true
/-- the bits of a row of textures at an area -/
theorem bJ_row (x : Int32) {e b u : Nat} (he : e < 8) (hb : b < 8) (hu : u < 5) (hx : ∀ i, 5 ≤ i → i < 32 → bI x i = false) : bJ (x.toInt64 <<< ((nI (e * 5)).toInt64 &&& 63)) (b * 5 + u) = (decide (b = e) && bI x u) := by
  rw [bJ_shl _ (by omega) (by omega)]
  rcases Nat.lt_trichotomy b e with q | q | q
  · rw [decide_eq_false (by omega), decide_eq_false (by omega)]; rfl
  · subst q
    rw [decide_eq_true (by omega), decide_eq_true rfl, show b * 5 + u - b * 5 = u by omega, bJ_of _ (by omega), if_pos (by omega)]
  · rw [decide_eq_true (by omega), decide_eq_false (by omega), bJ_of _ (by omega)]
    by_cases h : b * 5 + u - e * 5 < 32
    · rw [if_pos h, hx _ (by omega) h]; rfl
    · rw [if_neg h, hx 31 (by omega) (by omega)]; rfl
theorem c_openAll {d : Nat} {σ : Mem} {Post : Option AV → Mem → Prop} {n m : Nat} (hn : n ≤ 8) (hm : m < 32) (h : ∀ z : Int64, (∀ b u, b < 8 → u < 5 → (OJ z b u ↔ b < n ∧ bI (nI m) u = true)) → Post (some (vJ z)) σ) : MM d M_Layer_openAll [vI (nI n), vI (nI m)] σ Post := by
  refine MM.of ok_Layer_openAll rfl ?_
  have key : ∀ a, a ≤ n → ∀ y : Int64, (∀ b u, b < 8 → u < 5 → (OJ y b u ↔ b < a ∧ bI (nI m) u = true)) → WS d M_Layer_openAll 5 [vI (nI n), vI (nI m), vJ y, vU, vI (nI a)] [] σ Post := by
    refine upto n ?_ ?_
    · intro y hy
      exact b_Layer_openAll_5 (pk_le n n (fun _ => h y hy) (fun q => absurd q (Nat.lt_irrefl n)))
    · intro a ha ih y hy
      refine b_Layer_openAll_5 (pk_le n a (fun q => by omega) (fun _ => ?_))
      rw [nI_1, m5r]
      refine ih _ (fun b u hb hu => ?_)
      unfold OJ
      rw [bJ_or, bJ_row (nI m) (by omega) hb hu (fun i h1 h2 => bI_sm hm h1)]
      have q := hy b u hb hu
      unfold OJ at q
      rw [Bool.or_eq_true, q, Bool.and_eq_true, decide_eq_true_iff]
      constructor
      · rintro (⟨z1, z2⟩ | ⟨z1, z2⟩)
        · exact ⟨by omega, z2⟩
        · exact ⟨by omega, z2⟩
      · rintro ⟨z1, z2⟩
        rcases Nat.lt_or_ge b a with p | p
        · exact Or.inl ⟨p, z2⟩
        · exact Or.inr ⟨by omega, z2⟩
  refine b_Layer_openAll_0 ?_
  exact key 0 (by omega) 0 (fun b u _ _ => by unfold OJ; rw [bJ_0]; simp)
theorem b31 : ∀ u, u < 5 → bI 31 u = true := by decide
theorem x31 (x : Int32) : ∀ i, 5 ≤ i → i < 32 → bI (31 &&& (x ^^^ (-1))) i = false := by
  intro i h1 h2
  rw [bI_and, show (31 : Int32) = nI 31 from rfl, bI_sm (by omega) h1]; rfl
theorem c_narrow {d : Nat} {σ : Mem} {Post : Option AV → Mem → Prop} {a t n : Nat} {y : Int64} (ha : a < n) (hn : n ≤ 8) (ht : t < 5) (h : ∀ z : Int64, (∀ b u, b < 8 → u < 5 → (OJ z b u ↔ nrw (TA σ) (UA σ) (OJ y) a n t b u)) → Post (some (vJ z)) σ) : MM d M_Layer_narrow [vR 45 0, vI (nI a), vI (nI t), vI (nI n), vJ y] σ Post := by
  refine MM.of ok_Layer_narrow rfl ?_
  have key : ∀ e, e ≤ n → a < e → ∀ z : Int64, (∀ b u, b < 8 → u < 5 → (OJ z b u ↔ OJ y b u ∧ b ≠ a ∧ (a < b → b < e → TA σ a b → UA σ t u))) → WS d M_Layer_narrow 21 [vR 45 0, vI (nI a), vI (nI t), vI (nI n), vJ y, vU, vJ z, vU, vI (nI e)] [] σ Post := by
    refine upto n ?_ ?_
    · intro _ z hz
      exact b_Layer_narrow_21 (pk_le n n (fun _ => h z hz) (fun q => absurd q (Nat.lt_irrefl n)))
    · intro e he ih hae z hz
      refine b_Layer_narrow_21 (pk_le n e (fun q => by omega) (fun _ => ?_))
      refine ⟨vp_n (by omega) (by omega), ?_⟩
      rw [nI_1, cl_n (by omega), ush1 _ (by omega), bit_one]
      refine ⟨fun q => ⟨vp_n (by omega) (by omega), ?_⟩, fun q => ?_⟩
      · rw [cl_n (by omega), m5r]
        refine ih (by omega) _ (fun b u hb hu => ?_)
        have hzz := hz b u hb hu
        unfold OJ at hzz ⊢
        rw [bJ_and, bJ_not _ (by omega), bJ_row _ (by omega) hb hu (x31 _), bI_and, b31 u hu, bI_not _ (by omega), Bool.and_eq_true, hzz]
        have hq : TA σ a e := q
        constructor
        · rintro ⟨⟨z1, z2, z3⟩, z4⟩
          refine ⟨z1, z2, fun w1 w2 w3 => ?_⟩
          rcases Nat.lt_or_ge b e with p | p
          · exact z3 w1 p w3
          · have : b = e := by omega
            subst this
            unfold UA
            cases hv : bI (gI σ 47 0 t) u
            · rw [hv] at z4; simp at z4
            · rfl
        · rintro ⟨z1, z2, z3⟩
          refine ⟨⟨z1, z2, fun w1 w2 w3 => z3 w1 (by omega) w3⟩, ?_⟩
          by_cases p : b = e
          · subst p
            have := z3 (by omega) (by omega) hq
            unfold UA at this
            rw [this]; simp
          · rw [decide_eq_false p]; rfl
      · refine ih (by omega) _ (fun b u hb hu => ?_)
        rw [hz b u hb hu]
        constructor
        · rintro ⟨z1, z2, z3⟩
          refine ⟨z1, z2, fun w1 w2 w3 => ?_⟩
          rcases Nat.lt_or_ge b e with p | p
          · exact z3 w1 p w3
          · have : b = e := by omega
            subst this
            exact absurd w3 q
        · rintro ⟨z1, z2, z3⟩
          exact ⟨z1, z2, fun w1 w2 w3 => z3 w1 (by omega) w3⟩
  refine b_Layer_narrow_0 ?_
  rw [nI_1, m5r]
  refine key (a + 1) (by omega) (by omega) _ (fun b u hb hu => ?_)
  have e31 : (31 : Int64) = (31 : Int32).toInt64 := by decide
  unfold OJ
  rw [bJ_and, bJ_not _ (by omega), e31, bJ_row 31 (by omega) hb hu (fun i h1 h2 => by rw [show (31 : Int32) = nI 31 from rfl]; exact bI_sm (by omega) h1), b31 u hu, Bool.and_eq_true]
  constructor
  · rintro ⟨z1, z2⟩
    refine ⟨z1, fun p => ?_, fun w1 w2 => by omega⟩
    rw [decide_eq_true p] at z2
    simp at z2
  · rintro ⟨z1, z2, _⟩
    exact ⟨z1, by rw [decide_eq_false z2]; rfl⟩
def EqL (ks : List Nat) (σ τ : Mem) : Prop := (∀ a i j, a ∉ ks → gI τ a i j = gI σ a i j) ∧ ∀ a i j, a ≠ 50 → gJ τ a i j = gJ σ a i j
theorem EqL.rf {ks : List Nat} {σ : Mem} : EqL ks σ σ := ⟨fun _ _ _ _ => rfl, fun _ _ _ _ => rfl⟩
theorem EqL.tr {ks : List Nat} {σ τ υ : Mem} (h : EqL ks σ τ) (h2 : EqL ks τ υ) : EqL ks σ υ := ⟨fun a i j q => (h2.1 a i j q).trans (h.1 a i j q), fun a i j q => (h2.2 a i j q).trans (h.2 a i j q)⟩
theorem EqL.mono {ks ks' : List Nat} {σ τ : Mem} (h : EqL ks σ τ) (hk : ∀ k ∈ ks, k ∈ ks') : EqL ks' σ τ := ⟨fun a i j q => h.1 a i j (fun z => q (hk a z)), h.2⟩
theorem EqL.pI {ks : List Nat} {σ τ : Mem} (h : EqL ks σ τ) {k i j : Nat} {x : Int32} (hk : k ∈ ks) : EqL ks σ (pI τ k i j x) := by
  refine ⟨fun a b c q => ?_, fun a b c q => h.2 a b c q⟩
  rw [gI_pI, if_neg (fun z => q (by rw [z.1]; exact hk))]
  exact h.1 a b c q
theorem EqL.pC {ks : List Nat} {σ τ : Mem} (h : EqL ks σ τ) {k i k2 i2 sp dp n : Nat} (hk : k2 ∈ ks) : EqL ks σ (pC τ k i k2 i2 sp dp n) := by
  refine ⟨fun a b c q => ?_, fun a b c q => h.2 a b c q⟩
  rw [gI_pC, if_neg (fun z => q (by rw [z.1]; exact hk))]
  exact h.1 a b c q
theorem EqL.pJ {ks : List Nat} {σ τ : Mem} (h : EqL ks σ τ) {i j : Nat} {x : Int64} : EqL ks σ (pJ τ 50 i j x) := by
  refine ⟨fun a b c q => h.1 a b c q, fun a b c q => ?_⟩
  rw [gJ_pJ, if_neg (fun z => q z.1)]
  exact h.2 a b c q
theorem TA_eq {ks : List Nat} {σ τ : Mem} (h : EqL ks σ τ) (hk : 46 ∉ ks) : TA τ = TA σ := by funext a b; unfold TA; rw [h.1 46 0 a hk]
theorem UA_eq {ks : List Nat} {σ τ : Mem} (h : EqL ks σ τ) (hk : 47 ∉ ks) : UA τ = UA σ := by funext a b; unfold UA; rw [h.1 47 0 a hk]
/-- what is marked as dead is so -/
def DeadOK (T U : Nat → Nat → Prop) (σ : Mem) (n : Nat) : Prop := ∀ a, a < n → ∀ f, ¬ CpA T U (OJ (gJ σ 50 0 a)) a n f
theorem c_ldescend (T U : Nat → Nat → Prop) : ∀ (k : Nat) {d : Nat} {σ : Mem} {Post : Option AV → Mem → Prop} {a n : Nat} {y : Int64}, a + k = n → n ≤ 8 → TA σ = T → UA σ = U → DeadOK T U σ n →
    (∀ (τ : Mem) (f : Nat → Nat), EqL [48] σ τ → (∀ b, b < a → gI τ 48 0 b = gI σ 48 0 b) → DeadOK T U τ n → LL T U (OJ y) a n f → (∀ b, a ≤ b → b < n → gI τ 48 0 b = nI (f b)) → Post (some (vI 1)) τ) →
    (∀ τ : Mem, EqL [48] σ τ → (∀ b, b < a → gI τ 48 0 b = gI σ 48 0 b) → DeadOK T U τ n → (∀ f, ¬ CpA T U (OJ y) a n f) → Post (some (vI 0)) τ) → MM (d + k + 1) M_Layer_descend [vR 45 0, vI (nI a), vI (nI n), vJ y] σ Post := by
  intro k
  induction k with
  | zero =>
    intro d σ Post a n y hk hn hT hU hD h1 h0
    refine MM.of ok_Layer_descend rfl ?_
    refine b_Layer_descend_0 (pk_lt a n (fun q => by omega) (fun _ => ?_))
    exact h1 σ (fun _ => 0) EqL.rf (fun _ _ => rfl) hD ⟨fun b z1 z2 => by omega, fun g _ => Or.inl (fun c z1 z2 => by omega)⟩ (fun b z1 z2 => by omega)
  | succ k ih =>
    intro d σ Post a n y hk hn hT hU hD h1 h0
    refine MM.of ok_Layer_descend rfl ?_
    have ea : (nI a).toNatClampNeg = a := cl_n (by omega)
    have va : vp_in (nI a) 8 := vp_n (by omega) (by omega)
    have key : ∀ t, t ≤ 5 → ∀ τ : Mem, EqL [48] σ τ → (∀ b, b < a → gI τ 48 0 b = gI σ 48 0 b) → DeadOK T U τ n → (∀ f, CpA T U (OJ y) a n f → t ≤ f a) → WS (d + k + 1 + 1) M_Layer_descend 29 [vR 45 0, vI (nI a), vI (nI n), vJ y, vU, vI (nI t)] [] τ Post := by
      refine upto 5 ?_ ?_
      · intro τ hE hP hDt hN
        have hno : ∀ f, ¬ CpA T U (OJ y) a n f := fun f hf => by
          have := hN f hf
          have := (hf a (Nat.le_refl a) (by omega)).1
          omega
        refine b_Layer_descend_29 (pk_le 5 5 (fun _ => ⟨va, fun σ1 e1 => ?_⟩) (fun q => by omega))
        rw [ea] at e1
        subst e1
        refine h0 _ hE.pJ hP (fun b hb f hf => ?_) hno
        rw [gJ_pJ] at hf
        by_cases hba : b = a
        · subst hba
          rw [if_pos ⟨rfl, rfl, rfl⟩] at hf
          exact hno f hf
        · rw [if_neg (by omega)] at hf
          exact hDt b hb f hf
      · intro t ht ihl τ hE hP hDt hN
        refine b_Layer_descend_29 (pk_le 5 t (fun q => by omega) (fun _ => ?_))
        rw [m5r, nI_add, nI_1, uJ1 y (by omega), lg_z]
        have e1 : ((if bJ y (a * 5 + t) = true then (1 : Int64) else 0) = 1) ↔ OJ y a t := by
          unfold OJ
          by_cases q : bJ y (a * 5 + t) = true
          · simp [q]
          · simp [q]
        rw [e1]
        refine ⟨fun q => ⟨va, fun σ2 e2 => ?_⟩, fun q => ?_⟩
        · rw [ea] at e2
          have hE2 : EqL [48] σ σ2 := by rw [e2]; exact hE.pI List.mem_cons_self
          have hP2 : ∀ b, b < a → gI σ2 48 0 b = gI σ 48 0 b := fun b hb => by rw [e2, gI_pI, if_neg (by omega)]; exact hP b hb
          have hD2 : DeadOK T U σ2 n := by rw [e2]; exact hDt
          have ht2 : gI σ2 48 0 a = nI t := by rw [e2, gI_pI, if_pos ⟨rfl, rfl, rfl⟩]
          refine c_narrow (by omega) hn ht (fun z hz => ?_)
          refine b_Layer_descend_72 ?_
          rw [TA_eq hE2 (by decide), UA_eq hE2 (by decide), hT, hU] at hz
          have hto : ∀ f, CpA T U (OJ z) (a + 1) n f → CpA T U (nrw T U (OJ y) a n t) (a + 1) n f := fun f hf => hf.mono (fun b u hb hu hz2 => (hz b u (by omega) hu).mp hz2)
          have hfr : ∀ f, CpA T U (nrw T U (OJ y) a n t) (a + 1) n f → CpA T U (OJ z) (a + 1) n f := fun f hf => hf.mono (fun b u hb hu hz2 => (hz b u (by omega) hu).mpr hz2)
          refine ih (by omega) hn ((TA_eq hE2 (by decide)).trans hT) ((UA_eq hE2 (by decide)).trans hU) hD2 (fun υ f hF hPf hDf hL hR => ?_) (fun υ hF hPf hDf hL => ?_)
          · refine b_Layer_descend_75t ?_
            have hta : gI υ 48 0 a = nI t := by rw [hPf a (by omega), ht2]
            refine h1 υ (fun c => if c = a then t else f c) (hE2.tr hF) (fun b hb => by rw [hPf b (by omega), hP2 b hb]) hDf ?_ (fun b b1 b2 => ?_)
            · have hag : ∀ c, a + 1 ≤ c → (fun c => if c = a then t else f c) c = f c := fun c hc => if_neg (by omega)
              have hcg : ∀ g : Nat → Nat, CpA T U (nrw T U (OJ y) a n t) (a + 1) n f → CpA T U (nrw T U (OJ y) a n t) (a + 1) n (fun c => if c = a then t else f c) := by
                intro _ hg b b1 b2
                have hb := hg b b1 b2
                rw [hag b b1]
                exact ⟨hb.1, hb.2.1, fun c c1 c2 c3 => by rw [hag c c1]; exact hb.2.2 c c1 c2 c3⟩
              refine LL.up (by omega) (by simpa using ht) (by simpa using q) ⟨?_, fun g hg => ?_⟩ (fun g hg => by simpa using hN g hg)
              · simp only [if_pos]
                exact hcg f (hto f hL.1)
              · simp only [if_pos] at hg
                rcases hL.2 g (hfr g hg) with z | ⟨b, b1, b2, b3, b4⟩
                · exact Or.inl (fun c c1 c2 => (hag c c1).trans (z c c1 c2))
                · exact Or.inr ⟨b, b1, b2, fun c c1 c2 => (hag c c1).trans (b3 c c1 c2), by rw [hag b b1]; exact b4⟩
            · by_cases hba : b = a
              · subst hba; simp [hta]
              · simp only [if_neg hba]; exact hR b (by omega) b2
          · refine b_Layer_descend_75f ?_
            rw [nI_1]
            refine ihl υ (hE2.tr hF) (fun b hb => by rw [hPf b (by omega), hP2 b hb]) hDf (fun f hf => ?_)
            have := hN f hf
            rcases Nat.lt_or_ge t (f a) with p | p
            · exact p
            · have e : f a = t := by omega
              have g2 := (hf.down (by omega)).2.2
              rw [e] at g2
              exact absurd (hfr f g2) (hL f)
        · rw [nI_1]
          refine ihl τ hE hP hDt (fun f hf => ?_)
          have := hN f hf
          rcases Nat.lt_or_ge t (f a) with p | p
          · exact p
          · have e : f a = t := by omega
            have g2 := (hf.down (by omega)).2.1
            rw [e] at g2
            exact absurd g2 q
    refine b_Layer_descend_0 (pk_lt a n (fun _ => ?_) (fun q => by omega))
    rw [ea, lg_z]
    refine ⟨va, fun q => ?_, fun q => ?_⟩
    · refine h0 σ EqL.rf (fun _ _ => rfl) hD (fun f hf => hD a (by omega) f (hf.mono (fun b u hb hu ho => ?_)))
      have z := bJ_ext0.mp q (b * 5 + u) (by omega)
      rw [bJ_and, bJ_not _ (by omega)] at z
      unfold OJ at ho ⊢
      rw [ho] at z
      simpa using z
    · exact key 0 (by omega) σ EqL.rf (fun _ _ => rfl) hD (fun f _ => Nat.zero_le _)

