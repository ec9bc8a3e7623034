/-! contracts: ways, the ruler -/
/-- the same but for the cells of some kinds -/
def Eqs (ks : List Nat) (σ τ : Mem) : Prop := (∀ a i j, a ∉ ks → gI τ a i j = gI σ a i j) ∧ ∀ a i j, gJ τ a i j = gJ σ a i j
theorem Eqs.rf {ks : List Nat} {σ : Mem} : Eqs ks σ σ := ⟨fun _ _ _ _ => rfl, fun _ _ _ => rfl⟩
theorem Eqs.tr {ks : List Nat} {σ τ υ : Mem} (h : Eqs ks σ τ) (h2 : Eqs ks τ υ) : Eqs ks σ υ := ⟨fun a i j q => (h2.1 a i j q).trans (h.1 a i j q), fun a i j => (h2.2 a i j).trans (h.2 a i j)⟩
theorem Eqs.mono {ks ks' : List Nat} {σ τ : Mem} (h : Eqs ks σ τ) (hk : ∀ k ∈ ks, k ∈ ks') : Eqs ks' σ τ := ⟨fun a i j q => h.1 a i j (fun z => q (hk a z)), h.2⟩
theorem Eqs.pI {ks : List Nat} {σ τ : Mem} (h : Eqs ks σ τ) {k i j : Nat} {x : Int32} (hk : k ∈ ks) : Eqs ks σ (pI τ k i j x) := by
  refine ⟨fun a b c q => ?_, fun a b c => h.2 a b c⟩
  rw [gI_pI, if_neg (fun z => q (by rw [z.1]; exact hk))]
  exact h.1 a b c q
theorem Eqs.pC {ks : List Nat} {σ τ : Mem} (h : Eqs ks σ τ) {k i k2 i2 sp dp n : Nat} (hk : k2 ∈ ks) : Eqs ks σ (pC τ k i k2 i2 sp dp n) := by
  refine ⟨fun a b c q => ?_, fun a b c => h.2 a b c⟩
  rw [gI_pC, if_neg (fun z => q (by rw [z.1]; exact hk))]
  exact h.1 a b c q
def px (σ : Mem) (w i : Nat) : Int := (gI σ 3 w i).toInt
def py (σ : Mem) (w i : Nat) : Int := (gI σ 4 w i).toInt
def nb (σ : Mem) (w i : Nat) : Nat := (gI σ 5 w i).toNatClampNeg
def spn (σ : Mem) (w a b : Nat) : Ln := (px σ w a, py σ w a, px σ w b, py σ w b)
def lnW (σ : Mem) (w i : Nat) : Ln := spn σ w (nb σ w i) (nb σ w (i + 1))
theorem vp_t {x : Int32} {n : Nat} (h0 : 0 ≤ x.toInt) (h1 : x.toInt < n) : vp_in x n := vp_in_iff.mpr ⟨h0, h1⟩
theorem vp_n {i n : Nat} (h : i < n) (hn : n < 2147483648) : vp_in (nI i) n := vp_in_nI h hn
theorem cl_t {x : Int32} (h : 0 ≤ x.toInt) : (x.toNatClampNeg : Int) = x.toInt := Int.toNat_of_nonneg h
theorem cl_n {i : Nat} (h : i < 2147483648) : (nI i).toNatClampNeg = i := nI_clamp h
theorem span4 {σ σ1 σ2 σ3 σ4 : Mem} {k w a b : Nat} (hk : k ≠ 3 ∧ k ≠ 4) (h1 : σ1 = pI σ k 0 0 (gI σ 3 w a)) (h2 : σ2 = pI σ1 k 0 1 (gI σ1 4 w a)) (h3 : σ3 = pI σ2 k 0 2 (gI σ2 3 w b)) (h4 : σ4 = pI σ3 k 0 3 (gI σ3 4 w b)) : Eqs [k] σ σ4 ∧ lnC σ4 k = spn σ w a b := by
  have q1 : Eqs [k] σ σ1 := by rw [h1]; exact Eqs.rf.pI List.mem_cons_self
  have q2 : Eqs [k] σ σ2 := by rw [h2]; exact q1.pI List.mem_cons_self
  have q3 : Eqs [k] σ σ3 := by rw [h3]; exact q2.pI List.mem_cons_self
  have q4 : Eqs [k] σ σ4 := by rw [h4]; exact q3.pI List.mem_cons_self
  have n3 : (3 : Nat) ∉ [k] := by simp; omega
  have n4 : (4 : Nat) ∉ [k] := by simp; omega
  refine ⟨q4, ?_⟩
  have e3 : gI σ4 k 0 3 = gI σ 4 w b := by rw [h4, gI_pI, if_pos ⟨rfl, rfl, rfl⟩]; exact q3.1 _ _ _ n4
  have e2 : gI σ4 k 0 2 = gI σ 3 w b := by rw [h4, gI_pI, if_neg (by omega), h3, gI_pI, if_pos ⟨rfl, rfl, rfl⟩]; exact q2.1 _ _ _ n3
  have e1 : gI σ4 k 0 1 = gI σ 4 w a := by rw [h4, gI_pI, if_neg (by omega), h3, gI_pI, if_neg (by omega), h2, gI_pI, if_pos ⟨rfl, rfl, rfl⟩]; exact q1.1 _ _ _ n4
  have e0 : gI σ4 k 0 0 = gI σ 3 w a := by rw [h4, gI_pI, if_neg (by omega), h3, gI_pI, if_neg (by omega), h2, gI_pI, if_neg (by omega), h1, gI_pI, if_pos ⟨rfl, rfl, rfl⟩]
  unfold lnC
  rw [e0, e1, e2, e3]
  rfl
set_option maxRecDepth 4000 in
set_option maxHeartbeats 400000 in
theorem c_bringSpan {d : Nat} {σ : Mem} {Post : Option AV → Mem → Prop} {w k : Nat} {a b : Int32} (hk : isLn k) (ha : vp_in a 20) (hb : vp_in b 20) (h : ∀ τ : Mem, Eqs [k] σ τ → lnC τ k = spn σ w a.toNatClampNeg b.toNatClampNeg → Post none τ) : MM d M_Way_bringSpan [vR 2 w, vI a, vI b, vR k 0] σ Post := by
  rcases hk with rfl | rfl | rfl
  · refine MM.of ok_Way_bringSpan rfl ?_
    show WS _ M_Way_bringSpan 0 [vR 2 w, vI a, vI b, vR 11 0] [] σ _
    refine WS.run (C := [vp_in a 20]) (pc' := 10) (L' := [vR 2 w, vI a, vI b, vR 11 0]) (S' := []) (σ' := pI σ 11 0 0 (gI σ 3 w a.toNatClampNeg)) 6 rfl ⟨ha, trivial⟩ ?_
    refine WS.run (C := [vp_in a 20]) (pc' := 20) (L' := [vR 2 w, vI a, vI b, vR 11 0]) (S' := []) (σ' := pI (pI σ 11 0 0 (gI σ 3 w a.toNatClampNeg)) 11 0 1 (gI (pI σ 11 0 0 (gI σ 3 w a.toNatClampNeg)) 4 w a.toNatClampNeg)) 6 rfl ⟨ha, trivial⟩ ?_
    refine WS.run (C := [vp_in b 20]) (pc' := 30) (L' := [vR 2 w, vI a, vI b, vR 11 0]) (S' := []) (σ' := pI (pI (pI σ 11 0 0 (gI σ 3 w a.toNatClampNeg)) 11 0 1 (gI (pI σ 11 0 0 (gI σ 3 w a.toNatClampNeg)) 4 w a.toNatClampNeg)) 11 0 2 (gI (pI (pI σ 11 0 0 (gI σ 3 w a.toNatClampNeg)) 11 0 1 (gI (pI σ 11 0 0 (gI σ 3 w a.toNatClampNeg)) 4 w a.toNatClampNeg)) 3 w b.toNatClampNeg)) 6 rfl ⟨hb, trivial⟩ ?_
    refine WS.run (C := [vp_in b 20]) (pc' := 40) (L' := [vR 2 w, vI a, vI b, vR 11 0]) (S' := []) (σ' := pI (pI (pI (pI σ 11 0 0 (gI σ 3 w a.toNatClampNeg)) 11 0 1 (gI (pI σ 11 0 0 (gI σ 3 w a.toNatClampNeg)) 4 w a.toNatClampNeg)) 11 0 2 (gI (pI (pI σ 11 0 0 (gI σ 3 w a.toNatClampNeg)) 11 0 1 (gI (pI σ 11 0 0 (gI σ 3 w a.toNatClampNeg)) 4 w a.toNatClampNeg)) 3 w b.toNatClampNeg)) 11 0 3 (gI (pI (pI (pI σ 11 0 0 (gI σ 3 w a.toNatClampNeg)) 11 0 1 (gI (pI σ 11 0 0 (gI σ 3 w a.toNatClampNeg)) 4 w a.toNatClampNeg)) 11 0 2 (gI (pI (pI σ 11 0 0 (gI σ 3 w a.toNatClampNeg)) 11 0 1 (gI (pI σ 11 0 0 (gI σ 3 w a.toNatClampNeg)) 4 w a.toNatClampNeg)) 3 w b.toNatClampNeg)) 4 w b.toNatClampNeg)) 6 rfl ⟨hb, trivial⟩ ?_
    exact WS.vret rfl rfl (h _ (span4 (k := 11) (by decide) rfl rfl rfl rfl).1 (span4 (k := 11) (by decide) rfl rfl rfl rfl).2)
  · refine MM.of ok_Way_bringSpan rfl ?_
    show WS _ M_Way_bringSpan 0 [vR 2 w, vI a, vI b, vR 12 0] [] σ _
    refine WS.run (C := [vp_in a 20]) (pc' := 10) (L' := [vR 2 w, vI a, vI b, vR 12 0]) (S' := []) (σ' := pI σ 12 0 0 (gI σ 3 w a.toNatClampNeg)) 6 rfl ⟨ha, trivial⟩ ?_
    refine WS.run (C := [vp_in a 20]) (pc' := 20) (L' := [vR 2 w, vI a, vI b, vR 12 0]) (S' := []) (σ' := pI (pI σ 12 0 0 (gI σ 3 w a.toNatClampNeg)) 12 0 1 (gI (pI σ 12 0 0 (gI σ 3 w a.toNatClampNeg)) 4 w a.toNatClampNeg)) 6 rfl ⟨ha, trivial⟩ ?_
    refine WS.run (C := [vp_in b 20]) (pc' := 30) (L' := [vR 2 w, vI a, vI b, vR 12 0]) (S' := []) (σ' := pI (pI (pI σ 12 0 0 (gI σ 3 w a.toNatClampNeg)) 12 0 1 (gI (pI σ 12 0 0 (gI σ 3 w a.toNatClampNeg)) 4 w a.toNatClampNeg)) 12 0 2 (gI (pI (pI σ 12 0 0 (gI σ 3 w a.toNatClampNeg)) 12 0 1 (gI (pI σ 12 0 0 (gI σ 3 w a.toNatClampNeg)) 4 w a.toNatClampNeg)) 3 w b.toNatClampNeg)) 6 rfl ⟨hb, trivial⟩ ?_
    refine WS.run (C := [vp_in b 20]) (pc' := 40) (L' := [vR 2 w, vI a, vI b, vR 12 0]) (S' := []) (σ' := pI (pI (pI (pI σ 12 0 0 (gI σ 3 w a.toNatClampNeg)) 12 0 1 (gI (pI σ 12 0 0 (gI σ 3 w a.toNatClampNeg)) 4 w a.toNatClampNeg)) 12 0 2 (gI (pI (pI σ 12 0 0 (gI σ 3 w a.toNatClampNeg)) 12 0 1 (gI (pI σ 12 0 0 (gI σ 3 w a.toNatClampNeg)) 4 w a.toNatClampNeg)) 3 w b.toNatClampNeg)) 12 0 3 (gI (pI (pI (pI σ 12 0 0 (gI σ 3 w a.toNatClampNeg)) 12 0 1 (gI (pI σ 12 0 0 (gI σ 3 w a.toNatClampNeg)) 4 w a.toNatClampNeg)) 12 0 2 (gI (pI (pI σ 12 0 0 (gI σ 3 w a.toNatClampNeg)) 12 0 1 (gI (pI σ 12 0 0 (gI σ 3 w a.toNatClampNeg)) 4 w a.toNatClampNeg)) 3 w b.toNatClampNeg)) 4 w b.toNatClampNeg)) 6 rfl ⟨hb, trivial⟩ ?_
    exact WS.vret rfl rfl (h _ (span4 (k := 12) (by decide) rfl rfl rfl rfl).1 (span4 (k := 12) (by decide) rfl rfl rfl rfl).2)
  · refine MM.of ok_Way_bringSpan rfl ?_
    show WS _ M_Way_bringSpan 0 [vR 2 w, vI a, vI b, vR 40 0] [] σ _
    refine WS.run (C := [vp_in a 20]) (pc' := 10) (L' := [vR 2 w, vI a, vI b, vR 40 0]) (S' := []) (σ' := pI σ 40 0 0 (gI σ 3 w a.toNatClampNeg)) 6 rfl ⟨ha, trivial⟩ ?_
    refine WS.run (C := [vp_in a 20]) (pc' := 20) (L' := [vR 2 w, vI a, vI b, vR 40 0]) (S' := []) (σ' := pI (pI σ 40 0 0 (gI σ 3 w a.toNatClampNeg)) 40 0 1 (gI (pI σ 40 0 0 (gI σ 3 w a.toNatClampNeg)) 4 w a.toNatClampNeg)) 6 rfl ⟨ha, trivial⟩ ?_
    refine WS.run (C := [vp_in b 20]) (pc' := 30) (L' := [vR 2 w, vI a, vI b, vR 40 0]) (S' := []) (σ' := pI (pI (pI σ 40 0 0 (gI σ 3 w a.toNatClampNeg)) 40 0 1 (gI (pI σ 40 0 0 (gI σ 3 w a.toNatClampNeg)) 4 w a.toNatClampNeg)) 40 0 2 (gI (pI (pI σ 40 0 0 (gI σ 3 w a.toNatClampNeg)) 40 0 1 (gI (pI σ 40 0 0 (gI σ 3 w a.toNatClampNeg)) 4 w a.toNatClampNeg)) 3 w b.toNatClampNeg)) 6 rfl ⟨hb, trivial⟩ ?_
    refine WS.run (C := [vp_in b 20]) (pc' := 40) (L' := [vR 2 w, vI a, vI b, vR 40 0]) (S' := []) (σ' := pI (pI (pI (pI σ 40 0 0 (gI σ 3 w a.toNatClampNeg)) 40 0 1 (gI (pI σ 40 0 0 (gI σ 3 w a.toNatClampNeg)) 4 w a.toNatClampNeg)) 40 0 2 (gI (pI (pI σ 40 0 0 (gI σ 3 w a.toNatClampNeg)) 40 0 1 (gI (pI σ 40 0 0 (gI σ 3 w a.toNatClampNeg)) 4 w a.toNatClampNeg)) 3 w b.toNatClampNeg)) 40 0 3 (gI (pI (pI (pI σ 40 0 0 (gI σ 3 w a.toNatClampNeg)) 40 0 1 (gI (pI σ 40 0 0 (gI σ 3 w a.toNatClampNeg)) 4 w a.toNatClampNeg)) 40 0 2 (gI (pI (pI σ 40 0 0 (gI σ 3 w a.toNatClampNeg)) 40 0 1 (gI (pI σ 40 0 0 (gI σ 3 w a.toNatClampNeg)) 4 w a.toNatClampNeg)) 3 w b.toNatClampNeg)) 4 w b.toNatClampNeg)) 6 rfl ⟨hb, trivial⟩ ?_
    exact WS.vret rfl rfl (h _ (span4 (k := 40) (by decide) rfl rfl rfl rfl).1 (span4 (k := 40) (by decide) rfl rfl rfl rfl).2)
set_option maxRecDepth 4000 in
set_option maxHeartbeats 400000 in
theorem c_bringLine {d : Nat} {σ : Mem} {Post : Option AV → Mem → Prop} {w k i : Nat} (hk : isLn k) (hi : i + 1 < 20) (hn1 : vp_in (gI σ 5 w i) 20) (hn2 : vp_in (gI σ 5 w (i + 1)) 20) (h : ∀ τ : Mem, Eqs [k] σ τ → lnC τ k = lnW σ w i → Post none τ) : MM (d + 1) M_Way_bringLine [vR 2 w, vI (nI i), vR k 0] σ Post := by
  have hi2 : i < 2147483648 := by omega
  have e1i : (nI i + 1).toNatClampNeg = i + 1 := by rw [nI_1]; exact cl_n (by omega)
  rcases hk with rfl | rfl | rfl
  · refine MM.of ok_Way_bringLine rfl ?_
    show WS _ M_Way_bringLine 0 [vR 2 w, vI (nI i), vR 11 0] [] σ _
    refine WS.run (C := [vp_in (nI i) 20, vp_in ((nI i) + (1 : Int32)) 20]) (pc' := 16) (L' := [vR 2 w, vI (nI i), vR 11 0]) (S' := [vR 11 0, vI (gI σ 5 w ((nI i) + (1 : Int32)).toNatClampNeg), vI (gI σ 5 w (nI i).toNatClampNeg), vR 2 w]) (σ' := σ) 12 rfl ⟨(vp_n (by omega) (by omega)), (by rw [nI_1]; exact vp_n (by omega) (by omega)), trivial⟩ ?_
    simp only [cl_n hi2, e1i]
    refine WS.callV M_Way_bringSpan (k := 2) (i := w) (as := [vI (gI σ 5 w i), vI (gI σ 5 w (i + 1)), vR 11 0]) (rest := []) rfl lk_8_38 rfl rfl rfl (Nat.le_of_ble_eq_true rfl) ?_
    refine c_bringSpan (Or.inl rfl) hn1 hn2 (fun τ1 e1a e1b => ?_)
    show WS _ M_Way_bringLine 19 [vR 2 w, vI (nI i), vR 11 0] [] τ1 _
    exact WS.vret rfl rfl (h _ e1a e1b)
  · refine MM.of ok_Way_bringLine rfl ?_
    show WS _ M_Way_bringLine 0 [vR 2 w, vI (nI i), vR 12 0] [] σ _
    refine WS.run (C := [vp_in (nI i) 20, vp_in ((nI i) + (1 : Int32)) 20]) (pc' := 16) (L' := [vR 2 w, vI (nI i), vR 12 0]) (S' := [vR 12 0, vI (gI σ 5 w ((nI i) + (1 : Int32)).toNatClampNeg), vI (gI σ 5 w (nI i).toNatClampNeg), vR 2 w]) (σ' := σ) 12 rfl ⟨(vp_n (by omega) (by omega)), (by rw [nI_1]; exact vp_n (by omega) (by omega)), trivial⟩ ?_
    simp only [cl_n hi2, e1i]
    refine WS.callV M_Way_bringSpan (k := 2) (i := w) (as := [vI (gI σ 5 w i), vI (gI σ 5 w (i + 1)), vR 12 0]) (rest := []) rfl lk_8_38 rfl rfl rfl (Nat.le_of_ble_eq_true rfl) ?_
    refine c_bringSpan (Or.inr (Or.inl rfl)) hn1 hn2 (fun τ1 e1a e1b => ?_)
    show WS _ M_Way_bringLine 19 [vR 2 w, vI (nI i), vR 12 0] [] τ1 _
    exact WS.vret rfl rfl (h _ e1a e1b)
  · refine MM.of ok_Way_bringLine rfl ?_
    show WS _ M_Way_bringLine 0 [vR 2 w, vI (nI i), vR 40 0] [] σ _
    refine WS.run (C := [vp_in (nI i) 20, vp_in ((nI i) + (1 : Int32)) 20]) (pc' := 16) (L' := [vR 2 w, vI (nI i), vR 40 0]) (S' := [vR 40 0, vI (gI σ 5 w ((nI i) + (1 : Int32)).toNatClampNeg), vI (gI σ 5 w (nI i).toNatClampNeg), vR 2 w]) (σ' := σ) 12 rfl ⟨(vp_n (by omega) (by omega)), (by rw [nI_1]; exact vp_n (by omega) (by omega)), trivial⟩ ?_
    simp only [cl_n hi2, e1i]
    refine WS.callV M_Way_bringSpan (k := 2) (i := w) (as := [vI (gI σ 5 w i), vI (gI σ 5 w (i + 1)), vR 40 0]) (rest := []) rfl lk_8_38 rfl rfl rfl (Nat.le_of_ble_eq_true rfl) ?_
    refine c_bringSpan (Or.inr (Or.inr rfl)) hn1 hn2 (fun τ1 e1a e1b => ?_)
    show WS _ M_Way_bringLine 19 [vR 2 w, vI (nI i), vR 40 0] [] τ1 _
    exact WS.vret rfl rfl (h _ e1a e1b)
