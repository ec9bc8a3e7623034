/-! contracts: words, names, contractions of the class -/
theorem t_63 : (63 : Int32).toInt = 63 := by decide
theorem t_9 : (9 : Int32).toInt = 9 := by decide
/-- a word copied from the tape -/
def Cpy (K N w t M : Nat) (σ τ : Mem) : Prop := (∀ a i j, ¬ (a = K ∧ i = w) → ¬ (a = N ∧ i = w) → gI τ a i j = gI σ a i j) ∧ (∀ a i j, gJ τ a i j = gJ σ a i j) ∧ gI τ K w 1 = nI (min t M) ∧ ∀ j, j < min t M → gI τ N w j = gI σ 23 0 j
theorem c_copy8 {d : Nat} {σ : Mem} {Post : Option AV → Mem → Prop} {w t : Nat} (ht : gI σ 22 0 1 = nI t) (h12 : t ≤ 12) (h : ∀ τ : Mem, Cpy 8 9 w t 12 σ τ → Post none τ) : MM (d + 1) M_Word_copy [vR 8 w, vR 22 0] σ Post := by
  refine MM.of ok_Word_copy rfl ?_
  have key : ∀ j, j ≤ t → ∀ τ : Mem, Cpy 8 9 w j 12 σ τ → WS (d + 1) M_Word_copy 6 [vR 8 w, vR 22 0, vI (nI j)] [] τ Post := by
    refine upto t ?_ ?_
    · intro τ hC
      have e : gI τ 22 0 1 = nI t := (hC.1 22 0 1 (by omega) (by omega)).trans ht
      refine b_Word_copy8_6 ?_
      rw [e]
      exact pk_le t t (fun _ => h τ hC) (fun q => absurd q (Nat.lt_irrefl t))
    · intro j hj ih τ hC
      have e : gI τ 22 0 1 = nI t := (hC.1 22 0 1 (by omega) (by omega)).trans ht
      refine b_Word_copy8_6 ?_
      rw [e, cl_n (by omega)]
      refine pk_le t j (fun q => by omega) (fun _ => ⟨vp_n (by omega) (by omega), ?_⟩)
      rw [hC.1 23 0 j (by omega) (by omega)]
      refine c_append8 (l := min j 12) hC.2.2.1 (by omega) (fun q => ?_) (fun q => ?_)
      · refine b_Word_copy8_24 ?_
        rw [nI_1]
        have e1 : min j 12 = j := by omega
        have e2 : min (j + 1) 12 = j + 1 := by omega
        rw [e1]
        refine ih _ ⟨fun a i f h1 h2 => ?_, fun a i f => hC.2.1 a i f, ?_, fun f hf => ?_⟩
        · rw [gI_pI, if_neg (fun z => h1 ⟨z.1, z.2.1⟩), gI_pI, if_neg (fun z => h2 ⟨z.1, z.2.1⟩)]; exact hC.1 a i f h1 h2
        · rw [gI_pI, if_pos ⟨rfl, rfl, rfl⟩, e2]
        · rw [gI_pI, if_neg (by omega), gI_pI]
          by_cases z : f = j
          · rw [if_pos ⟨rfl, rfl, z⟩, z]
          · rw [if_neg (by omega)]; exact hC.2.2.2 f (by omega)
      · refine b_Word_copy8_24 ?_
        rw [nI_1]
        have e2 : min (j + 1) 12 = min j 12 := by omega
        exact ih _ ⟨hC.1, hC.2.1, by rw [e2]; exact hC.2.2.1, fun f hf => hC.2.2.2 f (by omega)⟩
  refine b_Word_copy8_0 ?_
  refine c_clear8 ?_
  refine b_Word_copy8_4 ?_
  exact key 0 (by omega) _ ⟨fun a i f h1 h2 => by rw [gI_pI, if_neg (fun z => h1 ⟨z.1, z.2.1⟩)], fun a i f => rfl, by rw [gI_pI, if_pos ⟨rfl, rfl, rfl⟩, show min 0 12 = 0 by omega]; rfl, fun f hf => by omega⟩
theorem c_copy31 {d : Nat} {σ : Mem} {Post : Option AV → Mem → Prop} {w t : Nat} (ht : gI σ 22 0 1 = nI t) (h12 : t ≤ 12) (h : ∀ τ : Mem, Cpy 31 32 w t 4 σ τ → Post none τ) : MM (d + 1) M_Word_copy [vR 31 w, vR 22 0] σ Post := by
  refine MM.of ok_Word_copy rfl ?_
  have key : ∀ j, j ≤ t → ∀ τ : Mem, Cpy 31 32 w j 4 σ τ → WS (d + 1) M_Word_copy 6 [vR 31 w, vR 22 0, vI (nI j)] [] τ Post := by
    refine upto t ?_ ?_
    · intro τ hC
      have e : gI τ 22 0 1 = nI t := (hC.1 22 0 1 (by omega) (by omega)).trans ht
      refine b_Word_copy31_6 ?_
      rw [e]
      exact pk_le t t (fun _ => h τ hC) (fun q => absurd q (Nat.lt_irrefl t))
    · intro j hj ih τ hC
      have e : gI τ 22 0 1 = nI t := (hC.1 22 0 1 (by omega) (by omega)).trans ht
      refine b_Word_copy31_6 ?_
      rw [e, cl_n (by omega)]
      refine pk_le t j (fun q => by omega) (fun _ => ⟨vp_n (by omega) (by omega), ?_⟩)
      rw [hC.1 23 0 j (by omega) (by omega)]
      refine c_append31 (l := min j 4) hC.2.2.1 (by omega) (fun q => ?_) (fun q => ?_)
      · refine b_Word_copy31_24 ?_
        rw [nI_1]
        have e1 : min j 4 = j := by omega
        have e2 : min (j + 1) 4 = j + 1 := by omega
        rw [e1]
        refine ih _ ⟨fun a i f h1 h2 => ?_, fun a i f => hC.2.1 a i f, ?_, fun f hf => ?_⟩
        · rw [gI_pI, if_neg (fun z => h1 ⟨z.1, z.2.1⟩), gI_pI, if_neg (fun z => h2 ⟨z.1, z.2.1⟩)]; exact hC.1 a i f h1 h2
        · rw [gI_pI, if_pos ⟨rfl, rfl, rfl⟩, e2]
        · rw [gI_pI, if_neg (by omega), gI_pI]
          by_cases z : f = j
          · rw [if_pos ⟨rfl, rfl, z⟩, z]
          · rw [if_neg (by omega)]; exact hC.2.2.2 f (by omega)
      · refine b_Word_copy31_24 ?_
        rw [nI_1]
        have e2 : min (j + 1) 4 = min j 4 := by omega
        exact ih _ ⟨hC.1, hC.2.1, by rw [e2]; exact hC.2.2.1, fun f hf => hC.2.2.2 f (by omega)⟩
  refine b_Word_copy31_0 ?_
  refine c_clear31 ?_
  refine b_Word_copy31_4 ?_
  exact key 0 (by omega) _ ⟨fun a i f h1 h2 => by rw [gI_pI, if_neg (fun z => h1 ⟨z.1, z.2.1⟩)], fun a i f => rfl, by rw [gI_pI, if_pos ⟨rfl, rfl, rfl⟩, show min 0 4 = 0 by omega]; rfl, fun f hf => by omega⟩
/-- a contraction set -/
def ShW (σ τ : Mem) (k t : Nat) (x : Int32) : Prop := (∀ a i j, ¬ (a = 31 ∧ i = k) → ¬ (a = 32 ∧ i = k) → ¬ (a = 26 ∧ i = 0 ∧ j = k) → gI τ a i j = gI σ a i j) ∧ (∀ a i j, gJ τ a i j = gJ σ a i j) ∧ gI τ 31 k 1 = nI (min t 4) ∧ (∀ j, j < min t 4 → gI τ 32 k j = gI σ 23 0 j) ∧ gI τ 26 0 k = x
theorem c_shorten {d : Nat} {σ : Mem} {Post : Option AV → Mem → Prop} {k t : Nat} {x : Int32} (hk : k < 10) (ht : gI σ 22 0 1 = nI t) (h12 : t ≤ 12) (h : ∀ τ : Mem, ShW σ τ k t x → Post none τ) : MM (d + 2) M_Speller_shorten [vR 24 0, vI (nI k), vR 22 0, vI x] σ Post := by
  refine MM.of ok_Speller_shorten rfl ?_
  have vk : vp_in (nI k) 10 := vp_n hk (by omega)
  refine b_Speller_shorten_0 ⟨vk, ?_⟩
  rw [cl_n (by omega)]
  refine c_copy31 ht h12 (fun τ hC => ?_)
  refine b_Speller_shorten_10 ⟨vk, fun σ1 e1 => ?_⟩
  rw [cl_n (by omega)] at e1
  subst e1
  refine h _ ⟨fun a i j h1 h2 h3 => ?_, fun a i j => hC.2.1 a i j, ?_, fun j hj => ?_, ?_⟩
  · rw [gI_pI, if_neg h3]; exact hC.1 a i j h1 h2
  · rw [gI_pI, if_neg (by omega)]; exact hC.2.2.1
  · rw [gI_pI, if_neg (by omega)]; exact hC.2.2.2 j hj
  · rw [gI_pI, if_pos ⟨rfl, rfl, rfl⟩]
/-- a name set -/
def BgN (σ τ : Mem) (n t : Nat) (x y u : Int32) : Prop := (∀ a i j, ¬ (a = 7 ∧ i = n) → ¬ (a = 8 ∧ i = n) → ¬ (a = 9 ∧ i = n) → gI τ a i j = gI σ a i j) ∧ (∀ a i j, gJ τ a i j = gJ σ a i j) ∧ gI τ 8 n 1 = nI t ∧ (∀ j, j < t → gI τ 9 n j = gI σ 23 0 j) ∧ gI τ 7 n 1 = x ∧ gI τ 7 n 2 = y ∧ gI τ 7 n 3 = u ∧ gI τ 7 n 4 = 1
theorem c_nbegin {d : Nat} {σ : Mem} {Post : Option AV → Mem → Prop} {n t : Nat} {x y u : Int32} (ht : gI σ 22 0 1 = nI t) (h12 : t ≤ 12) (h : ∀ τ : Mem, BgN σ τ n t x y u → Post none τ) : MM (d + 2) M_Name_begin [vR 7 n, vR 22 0, vI x, vI y, vI u] σ Post := by
  refine MM.of ok_Name_begin rfl ?_
  refine b_Name_begin_0 ?_
  refine c_copy8 ht h12 (fun τ hC => ?_)
  refine b_Name_begin_8 (fun σ1 e1 σ2 e2 σ3 e3 σ4 e4 => ?_)
  have em : min t 12 = t := by omega
  rw [Cpy, em] at hC
  have k4 : ∀ a i j, gI σ4 a i j = if a = 7 ∧ i = n ∧ j = 4 then 1 else if a = 7 ∧ i = n ∧ j = 3 then u else if a = 7 ∧ i = n ∧ j = 2 then y else if a = 7 ∧ i = n ∧ j = 1 then x else gI τ a i j := by
    intro a i j
    rw [e4, gI_pI, e3, gI_pI, e2, gI_pI, e1, gI_pI]
  refine h σ4 ⟨fun a i j h1 h2 h3 => ?_, fun a i j => ?_, ?_, fun j hj => ?_, ?_, ?_, ?_, ?_⟩
  · rw [k4, if_neg (by omega), if_neg (by omega), if_neg (by omega), if_neg (by omega)]; exact hC.1 a i j h2 h3
  · rw [e4, gJ_pI, e3, gJ_pI, e2, gJ_pI, e1, gJ_pI]; exact hC.2.1 a i j
  · rw [k4, if_neg (by omega), if_neg (by omega), if_neg (by omega), if_neg (by omega)]; exact hC.2.2.1
  · rw [k4, if_neg (by omega), if_neg (by omega), if_neg (by omega), if_neg (by omega)]; exact hC.2.2.2 j hj
  · rw [k4, if_neg (by omega), if_neg (by omega), if_neg (by omega), if_pos ⟨rfl, rfl, rfl⟩]
  · rw [k4, if_neg (by omega), if_neg (by omega), if_pos ⟨rfl, rfl, rfl⟩]
  · rw [k4, if_neg (by omega), if_pos ⟨rfl, rfl, rfl⟩]
  · rw [k4, if_pos ⟨rfl, rfl, rfl⟩]
def ctrO (v x : Int32) (t k : Nat) : Prop := k < 10 ∧ v = nI k ∧ 0 ≤ x.toInt ∧ x.toInt ≤ 63 ∧ (x = 0 ∨ (2 ≤ t ∧ t ≤ 4))
theorem c_TMcontract {d : Nat} {σ : Mem} {Post : Option AV → Mem → Prop} {v x : Int32} {t : Nat} (ht : gI σ 22 0 1 = nI t) (h12 : t ≤ 12) (h1 : ∀ (k : Nat) (τ : Mem), ctrO v x t k → ShW σ τ k t x → Post (some (vI 1)) (pI τ 22 0 1 0)) (h0 : (∀ k, ¬ ctrO v x t k) → Post (some (vI 0)) (pI σ 22 0 1 0)) : MM (d + 3) M_TM_contract [vR 0 0, vI v, vI x] σ Post := by
  refine MM.of ok_TM_contract rfl ?_
  have no : (∀ k, ¬ ctrO v x t k) → ∀ x1 x2 : Int32, WS (d + 2 + 1) M_TM_contract 67 [vR 0 0, vI x1, vI x2, vI (0 : Int32)] [] σ Post := fun hn x1 x2 => by
    refine b_TM_contract_67 (c_clear22 ?_)
    exact b_TM_contract_74 ⟨Or.inl rfl, h0 hn⟩
  refine b_TM_contract_0 ?_
  refine c_inRange (fun q1 q2 => ?_) (fun q => ?_)
  · rw [t_9] at q2
    obtain ⟨k, hk, rfl⟩ := t_nat (x := v) (n := 9) q1 q2 (by omega)
    refine b_TM_contract_6t ?_
    refine c_inRange (fun q3 q4 => ?_) (fun q => ?_)
    · rw [t_63] at q4
      have yes : (x = 0 ∨ (2 ≤ t ∧ t ≤ 4)) → MM (d + 2) M_Speller_shorten [vR 24 0, vI (nI k), vR 22 0, vI x] σ (fun r τ => WS (d + 2 + 1) M_TM_contract 67 [vR 0 0, vI (nI k), vI x, vI (1 : Int32)] (r.toList ++ []) τ Post) := fun hx => by
        refine c_shorten (by omega) ht h12 (fun τ hS => ?_)
        refine b_TM_contract_67 (c_clear22 ?_)
        exact b_TM_contract_74 ⟨Or.inr rfl, h1 k τ ⟨by omega, rfl, q3, q4, hx⟩ hS⟩
      refine b_TM_contract_15t ⟨fun e => yes (Or.inl e), fun e => ?_⟩
      rw [ht]
      refine pk_lt t 2 (fun p => no (fun k z => ?_) _ _) (fun p => pk_lt 4 t (fun p2 => no (fun k z => ?_) _ _) (fun p2 => yes (Or.inr ⟨p, p2⟩)))
      · rcases z.2.2.2.2 with z | z
        · exact e z
        · omega
      · rcases z.2.2.2.2 with z | z
        · exact e z
        · omega
    · exact b_TM_contract_15f (no (fun k z => q ⟨z.2.2.1, by rw [t_63]; exact z.2.2.2.1⟩) _ _)
  · refine b_TM_contract_6f (no (fun k z => q ?_) _ _)
    rw [z.2.1, nI_t (by have := z.1; omega), t_9]
    have := z.1
    omega
def nmO (v x y u : Int32) (t j : Nat) : Prop := j < 8 ∧ v = nI j ∧ co x.toInt ∧ co y.toInt ∧ 0 ≤ u.toInt ∧ u.toInt ≤ 1000 ∧ 0 < t
theorem c_TMname {d : Nat} {σ : Mem} {Post : Option AV → Mem → Prop} {v x y u : Int32} {t : Nat} (hw : WdC22 σ 0 t) (hC : CtrOK σ) (h1 : ∀ (n : Nat) (τ υ : Mem) (N : Nat) (cells : Nat → Int32), nmO v x y u t n → BgN σ τ n t x y u → Eqs [27, 28, 29, 30] τ υ → N ≤ t → SpO t (stC22 σ 0 t) (lnP σ) (lcC22 σ 0) (ckC σ) N cells → Post (some (vI (nI N))) (pI υ 22 0 1 0)) (h0 : (∀ n, ¬ nmO v x y u t n) → Post (some (vI (-1))) (pI σ 22 0 1 0)) : MM (d + 3) M_TM_name [vR 0 0, vI v, vI x, vI y, vI u] σ Post := by
  refine MM.of ok_TM_name rfl ?_
  have no : (∀ n, ¬ nmO v x y u t n) → ∀ x1 : Int32, MM (d + 2) M_Word_clear [vR 22 0] σ (fun r τ => WS (d + 2 + 1) M_TM_name 90 [vR 0 0, vI x1, vI x, vI y, vI u, vI (0 : Int32), vI (-1 : Int32)] (r.toList ++ []) τ Post) := fun hn x1 => c_clear22 (b_TM_name_90 (h0 hn))
  refine b_TM_name_0 ?_
  refine c_inRange (fun q1 q2 => ?_) (fun q => ?_)
  · rw [t_7] at q2
    obtain ⟨n, hn, rfl⟩ := t_nat (x := v) (n := 7) q1 q2 (by omega)
    refine b_TM_name_6t ?_
    refine c_isPlace (fun q3 q4 => ?_) (fun q => ?_)
    · refine b_TM_name_14t ?_
      refine c_inRange (fun q5 q6 => ?_) (fun q => ?_)
      · rw [t_1000] at q6
        refine b_TM_name_25t ?_
        have h12 := hw.2.1
        rw [hw.1]
        refine pk_le t 0 (fun p => no (fun n z => ?_) _) (fun p => ⟨vp_n (by omega) (by omega), ?_⟩)
        · have := z.2.2.2.2.2.2; omega
        · rw [cl_n (by omega)]
          refine c_nbegin hw.1 hw.2.1 (fun τ hB => ?_)
          refine b_TM_name_70 ?_
          have e31 : ∀ k, gI τ 31 k 1 = gI σ 31 k 1 := fun k => hB.1 31 k 1 (by omega) (by omega) (by omega)
          have e26 : ∀ k, gI τ 26 0 k = gI σ 26 0 k := fun k => hB.1 26 0 k (by omega) (by omega) (by omega)
          have e23 : ∀ k, gI τ 23 0 k = gI σ 23 0 k := fun k => hB.1 23 0 k (by omega) (by omega) (by omega)
          have e32 : ∀ k j, gI τ 32 k j = gI σ 32 k j := fun k j => hB.1 32 k j (by omega) (by omega) (by omega)
          have e85 : ∀ k, gI τ 85 0 k = gI σ 85 0 k := fun k => hB.1 85 0 k (by omega) (by omega) (by omega)
          have eln : lnP τ = lnP σ := by funext k; unfold lnP; rw [e31]
          have eck : ckC τ = ckC σ := by funext k; exact e26 k
          have elc : lcC22 τ 0 = lcC22 σ 0 := by funext k; unfold lcC22; rw [e23, e85]
          have est : stC22 τ 0 t = stC22 σ 0 t := by
            funext k i
            unfold stC22
            rw [eln, e26]
            have : (∀ j, j < lnP σ k → gI τ 23 0 (i + j) = gI τ 32 k j) = (∀ j, j < lnP σ k → gI σ 23 0 (i + j) = gI σ 32 k j) := by
              apply forall_congr; intro j
              rw [e23, e32]
            rw [this]
          have eC : CtrOK τ := fun k hk => by
            unfold lnP
            rw [e31, e26]
            exact hC k hk
          have eW : WdC22 τ 0 t := ⟨(hB.1 22 0 1 (by omega) (by omega) (by omega)).trans hw.1, hw.2.1, fun j hj => by rw [e23]; exact hw.2.2 j hj⟩
          refine c_spell22 rfl eW eC (fun υ N cells hE hN hS hc => ?_)
          rw [eln, eck, elc, est] at hS
          refine b_TM_name_81 (c_clear22 (b_TM_name_90 ?_))
          exact h1 n τ υ N cells ⟨by omega, rfl, q3, q4, q5, q6, p⟩ hB hE hN hS
      · refine b_TM_name_25f (no (fun n z => q ?_) _)
        rw [t_1000]
        exact ⟨z.2.2.2.2.1, z.2.2.2.2.2.1⟩
    · exact b_TM_name_14f (no (fun n z => q ⟨z.2.2.1, z.2.2.2.1⟩) _)
  · refine b_TM_name_6f (no (fun n z => q ?_) _)
    have := z.1
    rw [z.2.1, nI_t (by omega), t_7]
    omega
theorem c_TMcell {d : Nat} {σ : Mem} {Post : Option AV → Mem → Prop} {v x : Int32} {L : Nat → Nat} (hw : ∀ n, namO σ v n → WdC8 σ n (L n)) (hC : CtrOK σ) (h1 : ∀ (n : Nat) (τ : Mem) (N : Nat) (cells : Nat → Int32) (i : Nat), namO σ v n → Eqs [27, 28, 29, 30] σ τ → SpO (L n) (stC8 σ n (L n)) (lnP σ) (lcC8 σ n) (ckC σ) N cells → i < N → x = nI i → Post (some (vI (cells i))) τ) (h2 : ∀ (n : Nat) (τ : Mem) (N : Nat) (cells : Nat → Int32), namO σ v n → Eqs [27, 28, 29, 30] σ τ → SpO (L n) (stC8 σ n (L n)) (lnP σ) (lcC8 σ n) (ckC σ) N cells → N ≤ 12 → (∀ i, i < N → x ≠ nI i) → Post (some (vI (-1))) τ) (h0 : (∀ n, ¬ namO σ v n) → Post (some (vI (-1))) σ) : MM (d + 3) M_TM_cell [vR 0 0, vI v, vI x] σ Post := by
  refine MM.of ok_TM_cell rfl ?_
  refine b_TM_cell_0 ?_
  refine c_isName (fun n hn => ?_) (fun q => b_TM_cell_5f (h0 q))
  have hwn := hw n hn
  obtain ⟨hn8, rfl, hn4⟩ := id hn
  refine b_TM_cell_5t ⟨vp_n hn8 (by omega), ?_⟩
  rw [cl_n (by omega)]
  refine c_spell8 trivial hwn hC (fun τ N cells hE hN hS hc => ?_)
  have hL := hwn.2.1
  refine b_TM_cell_26 ?_
  have em : (nI N - 1).toInt = (N : Int) - 1 := l_m1 rfl (by omega)
  refine c_inRange (fun q1 q2 => ?_) (fun q => ?_)
  · rw [em] at q2
    obtain ⟨i, hi, rfl⟩ := t_nat (x := x) (n := N) q1 (by omega) (by omega)
    rw [nI_t (by omega)] at q2
    refine b_TM_cell_34t ⟨vp_n (by omega) (by omega), ?_⟩
    rw [cl_n (by omega), hc i (by omega)]
    exact h1 n τ N cells i hn hE hS (by omega) rfl
  · refine b_TM_cell_34f (h2 n τ N cells hn hE hS (by omega) (fun i hi e => q ?_))
    rw [em, e, nI_t (by omega)]
    omega
