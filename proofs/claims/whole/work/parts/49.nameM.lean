/-! contracts: name, contract, cell of the model -/
theorem t_400' : (400 : Int32).toInt = 400 := by decide
/-- a contraction set -/
def CtM (σ τ : Mem) (k t : Nat) (x : Int32) : Prop := Eqs [51, 64, 65, 66] σ τ ∧ (∀ j, gI τ 51 0 j = if j = 15 then 0 else gI σ 51 0 j) ∧ (∀ j, gI τ 64 0 j = if j = k then (if x = 0 then 0 else nI t) else gI σ 64 0 j) ∧ (∀ j, gI τ 66 0 j = if j = k then x else gI σ 66 0 j) ∧ (x ≠ 0 → ∀ j, j < t → gI τ 65 0 (4 * k + j) = gI σ 63 0 j) ∧ ∀ c, ¬ (4 * k ≤ c ∧ c < 4 * k + 4) → gI τ 65 0 c = gI σ 65 0 c
theorem c_Mcontract {d : Nat} {σ : Mem} {Post : Option AV → Mem → Prop} {v x : Int32} {t : Nat} (ht : gI σ 51 0 15 = nI t) (h12 : t ≤ 12) (h1 : ∀ (k : Nat) (τ : Mem), ctrO v x t k → CtM σ τ k t x → Post (some (vI 1)) τ) (h0 : (∀ k, ¬ ctrO v x t k) → Post (some (vI 0)) (pI σ 51 0 15 0)) : MM (d + 1) M_MD_contract [vR 51 0, vI v, vI x] σ Post := by
  refine MM.of ok_MD_contract rfl ?_
  refine b_MD_contract_0 (fun σ1 e1 => ?_)
  rw [ht]
  have h0' : (∀ k, ¬ ctrO v x t k) → Post (some (vI 0)) σ1 := fun z => by rw [e1]; exact h0 z
  refine c_MisIn (fun q1 q2 => ?_) (fun q => ?_)
  · rw [t_0] at q1
    rw [t_9] at q2
    obtain ⟨k, hk, rfl⟩ := t_nat (x := v) (n := 9) q1 q2 (by omega)
    have vk : vp_in (nI k) 10 := vp_n (by omega) (by omega)
    have ek : (nI k).toNatClampNeg = k := cl_n (by omega)
    -- the letters
    have fill : ctrO (nI k) x t k → ∀ σ2 σ3 : Mem, σ2 = pI σ1 64 0 k (if x = 0 then 0 else nI t) → σ3 = pI σ2 66 0 k x → WS (d + 1) M_MD_contract 71 [vR 51 0, vI (nI k), vI x, vI (nI t), vI (0 : Int32)] [] σ3 Post := by
      intro hO σ2 σ3 e2 e3
      have kk : ∀ a i j, gI σ3 a i j = if a = 66 ∧ i = 0 ∧ j = k then x else if a = 64 ∧ i = 0 ∧ j = k then (if x = 0 then 0 else nI t) else if a = 51 ∧ i = 0 ∧ j = 15 then 0 else gI σ a i j := by
        intro a i j; rw [e3, gI_pI, e2, gI_pI, e1, gI_pI]
      have kJ : ∀ a i j, gJ σ3 a i j = gJ σ a i j := by intro a i j; rw [e3, gJ_pI, e2, gJ_pI, e1, gJ_pI]
      have fin : ∀ υ : Mem, Eqs [65] σ3 υ → (x ≠ 0 → ∀ j, j < t → gI υ 65 0 (4 * k + j) = gI σ 63 0 j) → (∀ c, ¬ (4 * k ≤ c ∧ c < 4 * k + 4) → gI υ 65 0 c = gI σ 65 0 c) → CtM σ υ k t x := by
        intro υ hU hl ho
        refine ⟨⟨fun a i j hn => ?_, fun a i j => (hU.2 a i j).trans (kJ a i j)⟩, fun j => ?_, fun j => ?_, fun j => ?_, hl, ho⟩
        · simp only [List.mem_cons, List.not_mem_nil, or_false] at hn
          rw [hU.1 a i j (by simp; omega), kk, if_neg (by omega), if_neg (by omega), if_neg (by omega)]
        · rw [hU.1 51 0 j (by decide), kk, if_neg (by omega), if_neg (by omega)]
          by_cases z : j = 15
          · rw [if_pos ⟨rfl, rfl, z⟩, if_pos z]
          · rw [if_neg (by omega), if_neg z]
        · rw [hU.1 64 0 j (by decide), kk, if_neg (by omega)]
          by_cases z : j = k
          · rw [if_pos ⟨rfl, rfl, z⟩, if_pos z]
          · rw [if_neg (by omega), if_neg z, if_neg (by omega)]
        · rw [hU.1 66 0 j (by decide), kk]
          by_cases z : j = k
          · rw [if_pos ⟨rfl, rfl, z⟩, if_pos z]
          · rw [if_neg (by omega), if_neg z, if_neg (by omega), if_neg (by omega)]
      by_cases hx : x = 0
      · refine b_MD_contract_71 ⟨fun _ => ?_, fun _ => ⟨fun _ => ?_, fun z => absurd hx z⟩⟩
        · exact h1 k σ3 hO (fin σ3 Eqs.rf (fun z => absurd hx z) (fun c _ => by rw [kk, if_neg (by omega), if_neg (by omega), if_neg (by omega)]))
        · exact h1 k σ3 hO (fin σ3 Eqs.rf (fun z => absurd hx z) (fun c _ => by rw [kk, if_neg (by omega), if_neg (by omega), if_neg (by omega)]))
      · have t4 : t ≤ 4 := by
          rcases hO.2.2.2.2 with z | z
          · exact absurd z hx
          · exact z.2
        have key : ∀ j, j ≤ t → ∀ υ : Mem, Eqs [65] σ3 υ → (∀ j', j' < j → gI υ 65 0 (4 * k + j') = gI σ 63 0 j') → (∀ c, ¬ (4 * k ≤ c ∧ c < 4 * k + 4) → gI υ 65 0 c = gI σ 65 0 c) → WS (d + 1) M_MD_contract 71 [vR 51 0, vI (nI k), vI x, vI (nI t), vI (nI j)] [] υ Post := by
          refine upto t ?_ ?_
          · intro υ hU hl ho
            exact b_MD_contract_71 (pk_le t t (fun _ => h1 k υ hO (fin υ hU (fun _ => hl) ho)) (fun z => absurd z (Nat.lt_irrefl t)))
          · intro j hj ih υ hU hl ho
            refine b_MD_contract_71 (pk_le t j (fun z => by omega) (fun _ => ⟨fun z => absurd z hx, fun _ => ?_⟩))
            rw [m4, nI_add, cl_n (i := 4 * k + j) (by omega), cl_n (i := j) (by omega), nI_1]
            refine ⟨vp_n (by omega) (by omega), vp_n (by omega) (by omega), fun σ4 e4 => ?_⟩
            have e63 : gI υ 63 0 j = gI σ 63 0 j := by rw [hU.1 63 0 j (by decide), kk, if_neg (by omega), if_neg (by omega), if_neg (by omega)]
            rw [e63] at e4
            refine ih σ4 (by rw [e4]; exact hU.pI (by decide)) (fun j' hj' => ?_) (fun c hc => ?_)
            · rw [e4, gI_pI]
              by_cases z : j' = j
              · rw [if_pos ⟨rfl, rfl, by omega⟩, z]
              · rw [if_neg (by omega)]; exact hl j' (by omega)
            · rw [e4, gI_pI, if_neg (by omega)]; exact ho c hc
        exact key 0 (by omega) σ3 Eqs.rf (fun j' hj' => by omega) (fun c _ => by rw [kk, if_neg (by omega), if_neg (by omega), if_neg (by omega)])
    refine b_MD_contract_17t ⟨fun e => ?_, fun e => ?_⟩
    · refine ⟨fun _ => ?_, fun z => absurd e z⟩
      rw [ek]
      have hO : ctrO (nI k) x t k := ⟨by omega, rfl, by rw [e]; decide, by rw [e]; decide, Or.inl e⟩
      exact ⟨vk, fun σ2 e2 => ⟨vk, fun σ3 e3 => fill hO σ2 σ3 (by rw [if_pos e]; exact e2) e3⟩⟩
    · refine c_MisIn (fun q3 q4 => ?_) (fun q => ?_)
      · rw [t_1] at q3
        rw [t_63] at q4
        have two : (2 : Int32) = nI 2 := rfl
        refine b_MD_contract_31t (pk_lt t 2 (fun z => h0' (fun k' y => ?_)) (fun z => pk_le t 4 (fun z2 => ⟨fun y => absurd y e, fun _ => ?_⟩) (fun z2 => h0' (fun k' y => ?_))))
        · rcases y.2.2.2.2 with y | y
          · exact e y
          · omega
        · rw [ek]
          have hO : ctrO (nI k) x t k := ⟨by omega, rfl, by omega, q4, Or.inr ⟨z, z2⟩⟩
          exact ⟨vk, fun σ2 e2 => ⟨vk, fun σ3 e3 => fill hO σ2 σ3 (by rw [if_neg e]; exact e2) e3⟩⟩
        · rcases y.2.2.2.2 with y | y
          · exact e y
          · omega
      · refine b_MD_contract_31f (h0' (fun k' y => q ?_))
        rw [t_1, t_63]
        refine ⟨?_, y.2.2.2.1⟩
        have a := y.2.2.1
        have b : x.toInt ≠ 0 := fun z => e (by rw [t_eq, t_0]; exact z)
        omega
  · refine b_MD_contract_17f (h0' (fun k y => q ?_))
    have := y.1
    rw [y.2.1, nI_t (by omega), t_0, t_9]
    omega
/-- a name set -/
def NmM (σ τ : Mem) (n t : Nat) (x y u : Int32) : Prop := Eqs [51, 67, 68, 69, 70, 71] σ τ ∧ (∀ j, gI τ 51 0 j = if j = 15 then 0 else gI σ 51 0 j) ∧ (∀ j, gI τ 67 0 j = if j = n then nI t else gI σ 67 0 j) ∧ (∀ j, j < t → gI τ 68 0 (12 * n + j) = gI σ 63 0 j) ∧ (∀ c, ¬ (12 * n ≤ c ∧ c < 12 * n + 12) → gI τ 68 0 c = gI σ 68 0 c) ∧ (∀ j, gI τ 69 0 j = if j = n then x else gI σ 69 0 j) ∧ (∀ j, gI τ 70 0 j = if j = n then y else gI σ 70 0 j) ∧ ∀ j, gI τ 71 0 j = if j = n then u else gI σ 71 0 j
theorem c_Mname {d : Nat} {σ : Mem} {Post : Option AV → Mem → Prop} {v x y u : Int32} {t : Nat} (ht : gI σ 51 0 15 = nI t) (h12 : t ≤ 12) (hl : ∀ j, j < t → 97 ≤ (gI σ 63 0 j).toInt ∧ (gI σ 63 0 j).toInt ≤ 122) (hC : CtrM σ) (h1 : ∀ (n : Nat) (τ υ : Mem) (N : Nat) (cells : Nat → Int32), nmO v x y u t n → NmM σ τ n t x y u → Eqs [72, 73] τ υ → N ≤ t → SpO t (stM τ n t) (lnS τ) (lcM τ n) (ckM τ) N cells → Post (some (vI (nI N))) υ) (h0 : (∀ n, ¬ nmO v x y u t n) → Post (some (vI (-1))) (pI σ 51 0 15 0)) : MM (d + 2) M_MD_name [vR 51 0, vI v, vI x, vI y, vI u] σ Post := by
  refine MM.of ok_MD_name rfl ?_
  refine b_MD_name_0 (fun σ1 e1 => ?_)
  rw [ht]
  have h0' : (∀ n, ¬ nmO v x y u t n) → Post (some (vI (-1))) σ1 := fun z => by rw [e1]; exact h0 z
  refine c_MisIn (fun q1 q2 => ?_) (fun q => ?_)
  · rw [t_0] at q1
    rw [t_7] at q2
    obtain ⟨n, hn, rfl⟩ := t_nat (x := v) (n := 7) q1 q2 (by omega)
    have vn : vp_in (nI n) 8 := vp_n (by omega) (by omega)
    have en : (nI n).toNatClampNeg = n := cl_n (by omega)
    refine b_MD_name_18t (pk_eq t 0 (fun z => h0' (fun n y => by have := y.2.2.2.2.2.2; omega)) (fun t0 => ?_))
    refine c_MisIn (fun q3 q4 => ?_) (fun q => b_MD_name_34f (h0' (fun n y => q (by rw [t_0, t_400']; exact y.2.2.1))))
    refine b_MD_name_34t ?_
    refine c_MisIn (fun q5 q6 => ?_) (fun q => b_MD_name_45f (h0' (fun n y => q (by rw [t_0, t_400']; exact y.2.2.2.1))))
    refine b_MD_name_45t ?_
    refine c_MisIn (fun q7 q8 => ?_) (fun q => b_MD_name_57f (h0' (fun n y => q (by rw [t_0, t_1000]; exact ⟨y.2.2.2.2.1, y.2.2.2.2.2.1⟩))))
    rw [t_0] at q3 q5 q7
    rw [t_400'] at q4 q6
    rw [t_1000] at q8
    have hO : nmO (nI n) x y u t n := ⟨by omega, rfl, ⟨q3, q4⟩, ⟨q5, q6⟩, q7, q8, by omega⟩
    refine b_MD_name_57t ⟨vn, fun σ2 e2 => ?_⟩
    rw [en] at e2
    have kk : ∀ a i j, gI σ2 a i j = if a = 67 ∧ i = 0 ∧ j = n then nI t else if a = 51 ∧ i = 0 ∧ j = 15 then 0 else gI σ a i j := by
      intro a i j; rw [e2, gI_pI, e1, gI_pI]
    have kJ : ∀ a i j, gJ σ2 a i j = gJ σ a i j := by intro a i j; rw [e2, gJ_pI, e1, gJ_pI]
    have key : ∀ j, j ≤ t → ∀ υ : Mem, Eqs [68] σ2 υ → (∀ j', j' < j → gI υ 68 0 (12 * n + j') = gI σ 63 0 j') → (∀ c, ¬ (12 * n ≤ c ∧ c < 12 * n + 12) → gI υ 68 0 c = gI σ 68 0 c) → WS (d + 1 + 1) M_MD_name 73 [vR 51 0, vI (nI n), vI x, vI y, vI u, vI (nI t), vI (nI j)] [] υ Post := by
      refine upto t ?_ ?_
      · intro υ hU hl1 ho
        refine b_MD_name_73 (pk_le t t (fun _ => ?_) (fun z => absurd z (Nat.lt_irrefl t)))
        rw [en]
        refine ⟨vn, fun σ3 e3 => ⟨vn, fun σ4 e4 => ⟨vn, fun σ5 e5 => ?_⟩⟩⟩
        have k5 : ∀ a i j, gI σ5 a i j = if a = 71 ∧ i = 0 ∧ j = n then u else if a = 70 ∧ i = 0 ∧ j = n then y else if a = 69 ∧ i = 0 ∧ j = n then x else gI υ a i j := by
          intro a i j; rw [e5, gI_pI, e4, gI_pI, e3, gI_pI]
        have k6 : ∀ a i j, ¬ (a = 71 ∧ j = n) → ¬ (a = 70 ∧ j = n) → ¬ (a = 69 ∧ j = n) → a ≠ 68 → gI σ5 a i j = gI σ2 a i j := fun a i j z1 z2 z3 z4 => by
          rw [k5, if_neg (by omega), if_neg (by omega), if_neg (by omega)]; exact hU.1 a i j (by simp; omega)
        have hN : NmM σ σ5 n t x y u := by
          refine ⟨⟨fun a i j hn => ?_, fun a i j => ?_⟩, fun j => ?_, fun j => ?_, fun j hj => ?_, fun c hc => ?_, fun j => ?_, fun j => ?_, fun j => ?_⟩
          · simp only [List.mem_cons, List.not_mem_nil, or_false] at hn
            rw [k6 a i j (by omega) (by omega) (by omega) (by omega), kk, if_neg (by omega), if_neg (by omega)]
          · rw [e5, gJ_pI, e4, gJ_pI, e3, gJ_pI, hU.2]; exact kJ a i j
          · rw [k6 51 0 j (by omega) (by omega) (by omega) (by omega), kk, if_neg (by omega)]
            by_cases z : j = 15
            · rw [if_pos ⟨rfl, rfl, z⟩, if_pos z]
            · rw [if_neg (by omega), if_neg z]
          · rw [k6 67 0 j (by omega) (by omega) (by omega) (by omega), kk]
            by_cases z : j = n
            · rw [if_pos ⟨rfl, rfl, z⟩, if_pos z]
            · rw [if_neg (by omega), if_neg z, if_neg (by omega)]
          · rw [k5, if_neg (by omega), if_neg (by omega), if_neg (by omega)]; exact hl1 j hj
          · rw [k5, if_neg (by omega), if_neg (by omega), if_neg (by omega)]; exact ho c hc
          · rw [k5, if_neg (by omega), if_neg (by omega)]
            by_cases z : j = n
            · rw [if_pos ⟨rfl, rfl, z⟩, if_pos z]
            · rw [if_neg (by omega), if_neg z, hU.1 69 0 j (by decide), kk, if_neg (by omega), if_neg (by omega)]
          · rw [k5, if_neg (by omega)]
            by_cases z : j = n
            · rw [if_pos ⟨rfl, rfl, z⟩, if_pos z]
            · rw [if_neg (by omega), if_neg z, if_neg (by omega), hU.1 70 0 j (by decide), kk, if_neg (by omega), if_neg (by omega)]
          · rw [k5]
            by_cases z : j = n
            · rw [if_pos ⟨rfl, rfl, z⟩, if_pos z]
            · rw [if_neg (by omega), if_neg z, if_neg (by omega), if_neg (by omega), hU.1 71 0 j (by decide), kk, if_neg (by omega), if_neg (by omega)]
        have hW : WdM σ5 n t := ⟨by rw [hN.2.2.1, if_pos rfl], h12, fun j hj => by rw [hN.2.2.2.1 j hj]; exact hl j hj⟩
        have hC5 : CtrM σ5 := fun k hk => by unfold lnS; rw [hN.1.1 64 0 k (by decide)]; exact hC k hk
        refine c_Mwrites (by omega) hW hC5 (fun τ N cells hE hNt hS hc => ?_)
        exact b_MD_name_132 (h1 n σ5 τ N cells hO hN hE hNt hS)
      · intro j hj ih υ hU hl1 ho
        refine b_MD_name_73 (pk_le t j (fun z => by omega) (fun _ => ?_))
        rw [m12, nI_add, cl_n (i := 12 * n + j) (by omega), cl_n (i := j) (by omega), nI_1]
        refine ⟨vp_n (by omega) (by omega), vp_n (by omega) (by omega), fun σ4 e4 => ?_⟩
        have e63 : gI υ 63 0 j = gI σ 63 0 j := by rw [hU.1 63 0 j (by decide), kk, if_neg (by omega), if_neg (by omega)]
        rw [e63] at e4
        refine ih σ4 (by rw [e4]; exact hU.pI (by decide)) (fun j' hj' => ?_) (fun c hc => ?_)
        · rw [e4, gI_pI]
          by_cases z : j' = j
          · rw [if_pos ⟨rfl, rfl, by omega⟩, z]
          · rw [if_neg (by omega)]; exact hl1 j' (by omega)
        · rw [e4, gI_pI, if_neg (by omega)]; exact ho c hc
    exact key 0 (by omega) σ2 Eqs.rf (fun j' hj' => by omega) (fun c _ => by rw [kk, if_neg (by omega), if_neg (by omega)])
  · refine b_MD_name_18f (h0' (fun n y => q ?_))
    have := y.1
    rw [y.2.1, nI_t (by omega), t_0, t_7]
    omega
theorem c_Mcell {d : Nat} {σ : Mem} {Post : Option AV → Mem → Prop} {v x : Int32} {L : Nat → Nat} (hw : ∀ n, namM σ v n → WdM σ n (L n)) (hC : CtrM σ) (h1 : ∀ (n : Nat) (τ : Mem) (N : Nat) (cells : Nat → Int32) (i : Nat), namM σ v n → Eqs [72, 73] σ τ → SpO (L n) (stM σ n (L n)) (lnS σ) (lcM σ n) (ckM σ) N cells → i < N → x = nI i → Post (some (vI (cells i))) τ) (h2 : ∀ (n : Nat) (τ : Mem) (N : Nat) (cells : Nat → Int32), namM σ v n → Eqs [72, 73] σ τ → SpO (L n) (stM σ n (L n)) (lnS σ) (lcM σ n) (ckM σ) N cells → N ≤ 12 → (∀ i, i < N → x ≠ nI i) → Post (some (vI (-1))) τ) (h3 : ∀ n, namM σ v n → x.toInt < 0 → Post (some (vI (-1))) σ) (h0 : (∀ n, ¬ namM σ v n) → Post (some (vI (-1))) σ) : MM (d + 2) M_MD_cell [vR 51 0, vI v, vI x] σ Post := by
  refine MM.of ok_MD_cell rfl ?_
  refine b_MD_cell_0 ?_
  refine c_MisName (fun n hn => ?_) (fun q => b_MD_cell_5f (h0 q))
  have hwn := hw n hn
  obtain ⟨hn8, rfl, hn4⟩ := id hn
  refine b_MD_cell_5t ⟨fun q => h3 n hn (by rw [t_lt, t_0] at q; exact q), fun q => ?_⟩
  rw [t_lt, t_0] at q
  refine c_Mwrites hn8 hwn hC (fun τ N cells hE hN hS hc => ?_)
  have hL := hwn.2.1
  refine b_MD_cell_18 ⟨fun z => ?_, fun z => ?_⟩
  · rw [t_le, nI_t (by omega)] at z
    refine h2 n τ N cells hn hE hS (by omega) (fun i hi e => ?_)
    rw [e, nI_t (by omega)] at z
    omega
  · rw [t_le, nI_t (by omega)] at z
    obtain ⟨i, hi, rfl⟩ := t_nat (x := x) (n := N) (by omega) (by omega) (by omega)
    rw [nI_t (by omega)] at z
    refine ⟨vp_n (by omega) (by omega), ?_⟩
    rw [cl_n (by omega), hc i (by omega)]
    exact h1 n τ N cells i hn hE hS (by omega) rfl
