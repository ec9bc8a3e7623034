/-! fields and arrays -/
theorem pfd_I : parseFieldDescriptor "I" = some .int := by decide +kernel
theorem pfd_Z : parseFieldDescriptor "Z" = some .boolean := by decide +kernel
theorem okR_lt {k i : Nat} (h : okR k i) (hk : k < 85) : i < cnt k := by
  rcases h with h | h | h
  · exact h.2
  · omega
  · omega
theorem LT_85 : LT[85]? = some (1, .inr (0, 26, 0)) := rfl
theorem LT_len : LT.length = 86 := rfl
theorem LT_lt {k : Nat} {e : LE} (h : LT[k]? = some e) : k < 86 := by
  have := (List.getElem?_eq_some_iff.mp h).1
  rw [LT_len] at this
  exact this
theorem LT_obj {k n c : Nat} {fs : List (Option Nat)} (h : LT[k]? = some (n, .inl (c, fs))) : k < 85 := by
  have h1 := LT_lt h
  rcases Nat.lt_or_ge k 85 with q | q
  · exact q
  · have : k = 85 := by omega
    subst this
    rw [LT_85] at h
    cases h
/-- a field that refers, refers to a cell that is there -/
def okL (e : LE) : Bool := match e with
  | (n, .inl (_, fs)) => fs.all (fun f => match f with
    | some k2 => decide (k2 < 85) && (cnt k2 == n)
    | none => true)
  | _ => true
theorem LT_ok : LT.all okL = true := by decide +kernel
theorem LT_ref {k n c j k2 : Nat} {fs : List (Option Nat)} (h : LT[k]? = some (n, .inl (c, fs))) (hj : fs[j]? = some (some k2)) : k2 < 85 ∧ cnt k2 = n := by
  have h1 := List.all_eq_true.mp LT_ok _ (List.mem_of_getElem? h)
  have h2 := List.all_eq_true.mp h1 _ (List.mem_of_getElem? hj)
  simpa using h2
theorem cnt_of {k : Nat} {e : LE} (h : LT[k]? = some e) : cnt k = e.1 := by unfold cnt; rw [h]
theorem cel_obj {G : GX} {s : Mem} {k i n c : Nat} {fs : List (Option Nat)} (h : LT[k]? = some (n, .inl (c, fs))) : cel G s k i = .inr (c, fvs G s k i 0 fs) := by unfold cel; rw [h]
theorem cel_int {G : GX} {s : Mem} {k i n m q : Nat} (h : LT[k]? = some (n, .inr (0, m, q))) : cel G s k i = .inl (G.ca 0, m, .inl (gI s k i)) := by unfold cel; rw [h]
theorem cel_boo {G : GX} {s : Mem} {k i n m q : Nat} (h : LT[k]? = some (n, .inr (1, m, q))) : cel G s k i = .inl (G.ca 1, m, .inl (gI s k i)) := by unfold cel; rw [h]
theorem cel_lon {G : GX} {s : Mem} {k i n m q : Nat} (h : LT[k]? = some (n, .inr (2, m, q))) : cel G s k i = .inl (G.ca 2, m, .inr (.inl (gJ s k i))) := by unfold cel; rw [h]
theorem cel_ref {G : GX} {s : Mem} {k i n t m q : Nat} (h : LT[k]? = some (n, .inr (t + 3, m, q))) : cel G s k i = .inl (G.ca (t + 3), m, .inr (.inr (.inr (.inr (fun j => some (G.ad q j)))))) := by unfold cel; rw [h]
theorem LT_tc : LT.all (fun e => match e with
    | (_, .inr (t + 3, _, _)) => decide (t < 3)
    | _ => true) = true := by decide +kernel
theorem vp_lt {i : Int32} {n : Nat} (h : vp_in i n) : i.toNatClampNeg < n := Nat.not_le.mp fun q => h (Or.inr q)
theorem pI_out {G : GX} {s : Mem} {k i j : Nat} {x : Int32} : ∀ a b, ¬ (a = k ∧ b = i) → cel G (pI s k i j x) a b = cel G s a b := by
  intro a b h
  refine cel_congr (fun q => ?_) (fun q => rfl)
  rw [gI_pI, if_neg]
  intro hq
  exact h ⟨hq.1, hq.2.1⟩
theorem pI_in {s : Mem} {k i j : Nat} {x : Int32} : gI (pI s k i j x) k i = upd (gI s k i) j x := by
  funext q
  rw [gI_pI]
  unfold upd
  by_cases h : q = j
  · rw [if_pos ⟨rfl, rfl, h⟩, if_pos h]
  · rw [if_neg (fun z => h z.2.2), if_neg h]
set_option maxHeartbeats 2000000 in
theorem sim_getfield (idx : Nat) : Sim (.getfield idx) := by
  intro d M pc pc2 L S L2 S2 σ σ2 Post C hdg0 hs hC k G A p l e R s m args below meth c H locs cells slots ls Q hCX hP hR hS hL hoL hoS hQ
  have go := fun (H1 : Heap) (locs1 : List Loc) (ls1 : Array Slot) => k G A p l e R s m args below meth c H1 locs1 cells slots ls1 Q hCX
  obtain ⟨hM, hx, hb, hml, hown, hts, hSX, hd1, hd2, hc1, hc2⟩ := hCX
  have hdg := hdg0 hM
  simp only [nxt] at hs
  split at hs
  · next kk i S1 =>
    split at hs
    · next cc j ty nn c2 fs hf hl =>
      have hko := hoS _ List.mem_cons_self
      have hk : kk < 85 := LT_obj hl
      have hi : i < cnt kk := okR_lt hko hk
      obtain ⟨n, hn1, hn2⟩ := ws_get G σ hk hi
      rw [cel_obj hl] at hn2
      obtain ⟨q, hq, hj, hlink, hty0, hty1⟩ := FA_use hf
      split at hs
      · next k2 hce hfj =>
        cases hs
        have ec : cc = c2 := by simpa using hce
        subst ec
        have hv : (fvs G σ kk i 0 fs)[j]? = some (.ref (G.ad k2 i)) := by rw [fvs_get, hfj]
        have hr := LT_ref hl hfj
        have hgo := go H locs ls hP hR hS hL hoL (fun v hv => by
          rcases List.mem_cons.mp hv with rfl | hv
          · exact Or.inl ⟨hr.1, hr.2.trans (cnt_of hl).symm ▸ hi⟩
          · exact hoS v (List.mem_cons_of_mem _ hv)) hQ
        rcases hlink with hlink | hlink
        · exact va_getN hx hb hts (cl_in hq).1 hown hSX.1 hP n hn2 hq j hj (va_Nw.use rfl (hSX.2.1 _ hlink)) (fun _ h9 => h9) hv hdg hgo
        · exact va_get hx hb hts (cl_in hq).1 hown hSX.1 hP n hn2 hq j hj (hts _ hlink) (fun _ h9 => h9) hv hdg hgo
      · next hce hfj =>
        cases hs
        have ec : cc = c2 := by simpa using hce
        subst ec
        have hv : (fvs G σ kk i 0 fs)[j]? = some (.int (gI σ kk i j)) := by rw [fvs_get, hfj]; simp
        have hgo := go H locs ls hP hR hS hL hoL (fun v hv => by
          rcases List.mem_cons.mp hv with rfl | hv
          · trivial
          · exact hoS v (List.mem_cons_of_mem _ hv)) hQ
        rcases hlink with hlink | hlink
        · exact va_getN hx hb hts (cl_in hq).1 hown hSX.1 hP n hn2 hq j hj (va_Nw.use rfl (hSX.2.1 _ hlink)) (fun _ h9 => h9) hv hdg hgo
        · exact va_get hx hb hts (cl_in hq).1 hown hSX.1 hP n hn2 hq j hj (hts _ hlink) (fun _ h9 => h9) hv hdg hgo
      · cases hs
    · cases hs
  · cases hs
set_option maxHeartbeats 2000000 in
theorem sim_putfield (idx : Nat) : Sim (.putfield idx) := by
  intro d M pc pc2 L S L2 S2 σ σ2 Post C hdg0 hs hC k G A p l e R s m args below meth c H locs cells slots ls Q hCX hP hR hS hL hoL hoS hQ
  have go := fun (H1 : Heap) (locs1 : List Loc) (ls1 : Array Slot) => k G A p l e R s m args below meth c H1 locs1 cells slots ls1 Q hCX
  obtain ⟨hM, hx, hb, hml, hown, hts, hSX, hd1, hd2, hc1, hc2⟩ := hCX
  have hdg := hdg0 hM
  simp only [nxt] at hs
  split at hs
  · next x kk i S1 =>
    split at hs
    · next cc j ty nn c2 fs hf hl =>
      have hko := hoS _ (List.mem_cons_of_mem _ List.mem_cons_self)
      have hk : kk < 85 := LT_obj hl
      have hi : i < cnt kk := okR_lt hko hk
      obtain ⟨n, hn1, hn2⟩ := ws_get G σ hk hi
      rw [cel_obj hl] at hn2
      obtain ⟨q, hq, hj, hlink, hty0, hty1⟩ := FA_use hf
      split at hs
      · next hce hfj =>
        have ec : cc = c2 := by simpa using hce
        subst ec
        have hj2 : j < (fvs G σ kk i 0 fs).length := by
          have h2 := fvs_get G σ kk i fs 0 j
          rw [hfj] at h2
          exact (List.getElem?_eq_some_iff.mp h2).1
        have hset : (wsW G σ).set n (G.ad kk i, .inr (cc, (fvs G σ kk i 0 fs).set j (.int x))) = wsW G (pI σ kk i j x) := by
          refine ws_set hn1 ?_ pI_out
          rw [cel_obj hl]
          have h3 := fvs_set (G := G) (s := σ) (k := kk) (i := i) (x := x) fs 0 j hfj
          rw [Nat.zero_add] at h3
          rw [h3]
        have key : ∀ ty : FieldType, (q.2.1 j).2.2.2 = false → parseFieldDescriptor (q.2.1 j).2.2.1 = some ty → narrow ty (.int x) = .int x → fits ty (.int x) = true → WS d M (pc + 3) L S1 (pI σ kk i j x) Post → W p l e R s m args below meth c H locs cells slots Q (F0 m pc ls ((vI x :: vR kk i :: S1).map (cv G))) := by
          intro ty h1 h2 h3 h4 k
          have hgo := fun (H1 : Heap) (locs1 : List Loc) (h5 : va_P G.D classes ((wsW G σ).set n (G.ad kk i, .inr (cc, (fvs G σ kk i 0 fs).set j (.int x)))) H1) (h6 : va_D A ((wsW G σ).set n (G.ad kk i, .inr (cc, (fvs G σ kk i 0 fs).set j (.int x))))) (h7 : va_S A s.heap H1 locs1) => k G A p l e R s m args below meth c H1 locs1 cells slots ls Q ⟨hM, hx, hb, hml, hown, hts, hSX, hd1, hd2, hc1, hc2⟩ (by rw [← hset]; exact h5) (hR.pI hk) h7 hL hoL (fun v hv => hoS v (List.mem_cons_of_mem _ (List.mem_cons_of_mem _ hv))) hQ
          rcases hlink with hlink | hlink
          · exact va_putN hx hb hts (cl_in hq).1 (tyOf cc) (cl_in hq).2.1 (cl_in hq).2.2 hown hSX.1 hP (hSX.2.2.1 σ) hS n hn2 hq j hj (va_Nw.use rfl (hSX.2.1 _ hlink)) (fun _ h9 => h9) h1 h2 h3 h4 hj2 hdg hgo
          · exact va_put hx hb hts (cl_in hq).1 (tyOf cc) (cl_in hq).2.1 (cl_in hq).2.2 hown hSX.1 hP (hSX.2.2.1 σ) hS n hn2 hq j hj (hts _ hlink) (fun _ h9 => h9) h1 h2 h3 h4 hj2 hdg hgo
        split at hs
        · cases hs
          exact key .int (hty0 rfl).2 (by rw [(hty0 rfl).1]; exact pfd_I) rfl rfl k
        · cases hs
          refine key .boolean (hty1 rfl).2 (by rw [(hty1 rfl).1]; exact pfd_Z) ?_ ?_ k
          · rcases hC.1 with h | h <;> rw [h] <;> rfl
          · rcases hC.1 with h | h <;> rw [h] <;> rfl
        · cases hs
      · cases hs
    · cases hs
  · cases hs
set_option maxHeartbeats 2000000 in
theorem sim_baload  : Sim (.baload) := by
  intro d M pc pc2 L S L2 S2 σ σ2 Post C hdg0 hs hC k G A p l e R s m args below meth c H locs cells slots ls Q hCX hP hR hS hL hoL hoS hQ
  have go := fun (H1 : Heap) (locs1 : List Loc) (ls1 : Array Slot) => k G A p l e R s m args below meth c H1 locs1 cells slots ls1 Q hCX
  obtain ⟨hM, hx, hb, hml, hown, hts, hSX, hd1, hd2, hc1, hc2⟩ := hCX
  have hdg := hdg0 hM
  simp only [nxt] at hs
  split at hs
  · next j kk i S1 =>
    split at hs
    · next nn mm qq hl =>
      cases hs
      have hko := hoS _ (List.mem_cons_of_mem _ List.mem_cons_self)
      have hk : kk < 85 := by
        have h1 := LT_lt hl
        rcases Nat.lt_or_ge kk 85 with q | q
        · exact q
        · have : kk = 85 := by omega
          subst this
          rw [LT_85] at hl
          cases hl
      have hi : i < cnt kk := okR_lt hko hk
      obtain ⟨n, hn1, hn2⟩ := ws_get G σ hk hi
      rw [cel_boo hl] at hn2
      exact va_zald hx hb hSX.1 hP n 1 hn2 rfl hC.1 hdg (go H locs ls hP hR hS hL hoL (fun v hv => by
        rcases List.mem_cons.mp hv with rfl | hv
        · trivial
        · exact hoS v (List.mem_cons_of_mem _ (List.mem_cons_of_mem _ hv))) hQ)
    · cases hs
  · cases hs
set_option maxHeartbeats 2000000 in
theorem sim_laload  : Sim (.laload) := by
  intro d M pc pc2 L S L2 S2 σ σ2 Post C hdg0 hs hC k G A p l e R s m args below meth c H locs cells slots ls Q hCX hP hR hS hL hoL hoS hQ
  have go := fun (H1 : Heap) (locs1 : List Loc) (ls1 : Array Slot) => k G A p l e R s m args below meth c H1 locs1 cells slots ls1 Q hCX
  obtain ⟨hM, hx, hb, hml, hown, hts, hSX, hd1, hd2, hc1, hc2⟩ := hCX
  have hdg := hdg0 hM
  simp only [nxt] at hs
  split at hs
  · next j kk i S1 =>
    split at hs
    · next nn mm qq hl =>
      cases hs
      have hko := hoS _ (List.mem_cons_of_mem _ List.mem_cons_self)
      have hk : kk < 85 := by
        have h1 := LT_lt hl
        rcases Nat.lt_or_ge kk 85 with q | q
        · exact q
        · have : kk = 85 := by omega
          subst this
          rw [LT_85] at hl
          cases hl
      have hi : i < cnt kk := okR_lt hko hk
      obtain ⟨n, hn1, hn2⟩ := ws_get G σ hk hi
      rw [cel_lon hl] at hn2
      exact va_lald hx hb hSX.1 hP n 2 hn2 rfl hC.1 hdg (go H locs ls hP hR hS hL hoL (fun v hv => by
        rcases List.mem_cons.mp hv with rfl | hv
        · trivial
        · exact hoS v (List.mem_cons_of_mem _ (List.mem_cons_of_mem _ hv))) hQ)
    · cases hs
  · cases hs
set_option maxHeartbeats 2000000 in
theorem sim_iaload  : Sim (.iaload) := by
  intro d M pc pc2 L S L2 S2 σ σ2 Post C hdg0 hs hC k G A p l e R s m args below meth c H locs cells slots ls Q hCX hP hR hS hL hoL hoS hQ
  have go := fun (H1 : Heap) (locs1 : List Loc) (ls1 : Array Slot) => k G A p l e R s m args below meth c H1 locs1 cells slots ls1 Q hCX
  obtain ⟨hM, hx, hb, hml, hown, hts, hSX, hd1, hd2, hc1, hc2⟩ := hCX
  have hdg := hdg0 hM
  simp only [nxt] at hs
  split at hs
  · next j kk i S1 =>
    have hko := hoS _ (List.mem_cons_of_mem _ List.mem_cons_self)
    split at hs
    · next hkk =>
      cases hs
      have ek : kk = 86 := by simpa using hkk
      subst ek
      have ei : i = 0 := by
        rcases hko with h | h | h
        · omega
        · omega
        · exact h.2
      subst ei
      have hz : (gI σ 87 0 0).toNatClampNeg = G.len := by rw [hR.2.2]; exact nI_clamp hSX.2.2.2.2.2.2
      have hin := hC.1
      rw [hz] at hin
      have e1 : gI σ 86 0 j.toNatClampNeg = G.xs j.toNatClampNeg := hR.2.1 _
      refine va_sld hx hb hSX.2.2.2.2.2.1.1 hSX.2.2.2.2.2.1.2.1 hSX.2.2.2.2.2.1.2.2 hS hin hdg ?_
      have hgo := go H locs ls hP hR hS hL hoL (fun v hv => by
        rcases List.mem_cons.mp hv with rfl | hv
        · trivial
        · exact hoS v (List.mem_cons_of_mem _ (List.mem_cons_of_mem _ hv))) hQ
      rw [← e1]
      exact hgo
    · next hkk =>
      split at hs
      · next nn mm qq hl =>
        cases hs
        have hgo := go H locs ls hP hR hS hL hoL (fun v hv => by
          rcases List.mem_cons.mp hv with rfl | hv
          · trivial
          · exact hoS v (List.mem_cons_of_mem _ (List.mem_cons_of_mem _ hv))) hQ
        rcases Nat.lt_or_ge kk 85 with hk | hk
        · have hi : i < cnt kk := okR_lt hko hk
          obtain ⟨n, hn1, hn2⟩ := ws_get G σ hk hi
          rw [cel_int hl] at hn2
          exact va_iald hx hb hSX.1 hP n 0 hn2 rfl hC.1 hdg hgo
        · have ek : kk = 85 := by have := LT_lt hl; omega
          subst ek
          have ei : i = 0 := by
            rcases hko with h | h | h
            · omega
            · exact h.2
            · exact h.2
          subst ei
          rw [LT_85] at hl
          cases hl
          exact va_ti hx hb hSX.2.2.2.2.1 hS hC.1 (by rw [hR.1]; rfl) hdg hgo
      · cases hs
  · cases hs
set_option maxHeartbeats 2000000 in
theorem sim_aaload  : Sim (.aaload) := by
  intro d M pc pc2 L S L2 S2 σ σ2 Post C hdg0 hs hC k G A p l e R s m args below meth c H locs cells slots ls Q hCX hP hR hS hL hoL hoS hQ
  have go := fun (H1 : Heap) (locs1 : List Loc) (ls1 : Array Slot) => k G A p l e R s m args below meth c H1 locs1 cells slots ls1 Q hCX
  obtain ⟨hM, hx, hb, hml, hown, hts, hSX, hd1, hd2, hc1, hc2⟩ := hCX
  have hdg := hdg0 hM
  simp only [nxt] at hs
  split at hs
  · next j kk i S1 =>
    have hko := hoS _ (List.mem_cons_of_mem _ List.mem_cons_self)
    split at hs
    · next nn tt mm k2 hl =>
      split at hs
      · next hm hk2 =>
        cases hs
        have hk : kk < 85 := by
          have h1 := LT_lt hl
          rcases Nat.lt_or_ge kk 85 with q | q
          · exact q
          · have : kk = 85 := by omega
            subst this
            rw [LT_85] at hl
            cases hl
        have hi : i < cnt kk := okR_lt hko hk
        obtain ⟨n, hn1, hn2⟩ := ws_get G σ hk hi
        rw [cel_ref hl] at hn2
        have ht := List.all_eq_true.mp LT_tc _ (List.mem_of_getElem? hl)
        simp only [decide_eq_true_eq] at ht
        have em : mm = cnt k2 := by simpa using hm
        have hgo := go H locs ls hP hR hS hL hoL (fun v hv => by
          rcases List.mem_cons.mp hv with rfl | hv
          · exact Or.inl ⟨by simpa using hk2, by rw [← em]; exact vp_lt hC.1⟩
          · exact hoS v (List.mem_cons_of_mem _ (List.mem_cons_of_mem _ hv))) hQ
        match tt, ht, hn2 with
        | 0, _, hn2 => exact va_aldq hx hb hSX.1 hP n 3 hn2 rfl hC.1 hdg hgo
        | 1, _, hn2 => exact va_aldq hx hb hSX.1 hP n 4 hn2 rfl hC.1 hdg hgo
        | 2, _, hn2 => exact va_aldq hx hb hSX.1 hP n 5 hn2 rfl hC.1 hdg hgo
      · cases hs
    · cases hs
  · cases hs
set_option maxHeartbeats 2000000 in
theorem sim_iastore  : Sim (.iastore) := by
  intro d M pc pc2 L S L2 S2 σ σ2 Post C hdg0 hs hC k G A p l e R s m args below meth c H locs cells slots ls Q hCX hP hR hS hL hoL hoS hQ
  have go := fun (H1 : Heap) (locs1 : List Loc) (ls1 : Array Slot) => k G A p l e R s m args below meth c H1 locs1 cells slots ls1 Q hCX
  obtain ⟨hM, hx, hb, hml, hown, hts, hSX, hd1, hd2, hc1, hc2⟩ := hCX
  have hdg := hdg0 hM
  simp only [nxt] at hs
  split at hs
  · next x j kk i S1 =>
    have hko := hoS _ (List.mem_cons_of_mem _ (List.mem_cons_of_mem _ List.mem_cons_self))
    split at hs
    · next nn mm qq hl hkd =>
      cases hs
      have hk : kk < 85 := by simpa using hkd
      have hi : i < cnt kk := okR_lt hko hk
      obtain ⟨n, hn1, hn2⟩ := ws_get G σ hk hi
      rw [cel_int hl] at hn2
      have hset : (wsW G σ).set n (G.ad kk i, .inl (G.ca 0, mm, .inl (upd (gI σ kk i) j.toNatClampNeg x))) = wsW G (pI σ kk i j.toNatClampNeg x) := by
        refine ws_set hn1 ?_ pI_out
        rw [cel_int hl, pI_in]
      refine va_iast hx hb hSX.1 hP (hSX.2.2.1 σ) hS n 0 hn2 rfl hC.1 hdg (fun H1 locs1 h5 h6 h7 => ?_)
      rw [hset] at h5
      exact go H1 locs1 ls h5 (hR.pI hk) h7 hL hoL (fun v hv => hoS v (List.mem_cons_of_mem _ (List.mem_cons_of_mem _ (List.mem_cons_of_mem _ hv)))) hQ
    · cases hs
  · cases hs
set_option maxHeartbeats 2000000 in
theorem sim_bastore  : Sim (.bastore) := by
  intro d M pc pc2 L S L2 S2 σ σ2 Post C hdg0 hs hC k G A p l e R s m args below meth c H locs cells slots ls Q hCX hP hR hS hL hoL hoS hQ
  have go := fun (H1 : Heap) (locs1 : List Loc) (ls1 : Array Slot) => k G A p l e R s m args below meth c H1 locs1 cells slots ls1 Q hCX
  obtain ⟨hM, hx, hb, hml, hown, hts, hSX, hd1, hd2, hc1, hc2⟩ := hCX
  have hdg := hdg0 hM
  simp only [nxt] at hs
  split at hs
  · next x j kk i S1 =>
    have hko := hoS _ (List.mem_cons_of_mem _ (List.mem_cons_of_mem _ List.mem_cons_self))
    split at hs
    · next nn mm qq hl hkd =>
      cases hs
      have hk : kk < 85 := by simpa using hkd
      have hi : i < cnt kk := okR_lt hko hk
      obtain ⟨n, hn1, hn2⟩ := ws_get G σ hk hi
      rw [cel_boo hl] at hn2
      have hnar : vp_nar .boolean x = x := by rcases hC.2.1 with h | h <;> rw [h] <;> rfl
      have hset : (wsW G σ).set n (G.ad kk i, .inl (G.ca 1, mm, .inl (upd (gI σ kk i) j.toNatClampNeg x))) = wsW G (pI σ kk i j.toNatClampNeg x) := by
        refine ws_set hn1 ?_ pI_out
        rw [cel_boo hl, pI_in]
      refine va_zast hx hb hSX.1 hP (hSX.2.2.1 σ) hS n 1 hn2 rfl hC.1 hdg (fun H1 locs1 h5 h6 h7 => ?_)
      rw [hnar, hset] at h5
      exact go H1 locs1 ls h5 (hR.pI hk) h7 hL hoL (fun v hv => hoS v (List.mem_cons_of_mem _ (List.mem_cons_of_mem _ (List.mem_cons_of_mem _ hv)))) hQ
    · cases hs
  · cases hs
set_option maxHeartbeats 2000000 in
theorem sim_lastore  : Sim (.lastore) := by
  intro d M pc pc2 L S L2 S2 σ σ2 Post C hdg0 hs hC k G A p l e R s m args below meth c H locs cells slots ls Q hCX hP hR hS hL hoL hoS hQ
  have go := fun (H1 : Heap) (locs1 : List Loc) (ls1 : Array Slot) => k G A p l e R s m args below meth c H1 locs1 cells slots ls1 Q hCX
  obtain ⟨hM, hx, hb, hml, hown, hts, hSX, hd1, hd2, hc1, hc2⟩ := hCX
  have hdg := hdg0 hM
  simp only [nxt] at hs
  split at hs
  · next x j kk i S1 =>
    have hko := hoS _ (List.mem_cons_of_mem _ (List.mem_cons_of_mem _ List.mem_cons_self))
    split at hs
    · next nn mm qq hl hkd =>
      cases hs
      have hk : kk < 85 := by simpa using hkd
      have hi : i < cnt kk := okR_lt hko hk
      obtain ⟨n, hn1, hn2⟩ := ws_get G σ hk hi
      rw [cel_lon hl] at hn2
      have hset : (wsW G σ).set n (G.ad kk i, .inl (G.ca 2, mm, .inr (.inl (vp_updL (gJ σ kk i) j.toNatClampNeg x)))) = wsW G (pJ σ kk i j.toNatClampNeg x) := by
        refine ws_set hn1 ?_ (fun a b h => cel_congr (fun q => rfl) (fun q => ?_))
        · rw [cel_lon hl]
          refine congrArg (fun f => (Sum.inl (G.ca 2, mm, Sum.inr (Sum.inl f)) : va_E)) ?_
          funext q
          rw [gJ_pJ]
          unfold vp_updL
          by_cases h : q = j.toNatClampNeg
          · rw [if_pos ⟨rfl, rfl, h⟩, if_pos h]
          · rw [if_neg (fun z => h z.2.2), if_neg h]
        · rw [gJ_pJ, if_neg (fun z => h ⟨z.1, z.2.1⟩)]
      refine va_last hx hb hSX.1 hP (hSX.2.2.1 σ) hS n 2 hn2 rfl hC.1 hdg (fun H1 locs1 h5 h6 h7 => ?_)
      rw [hset] at h5
      exact go H1 locs1 ls h5 hR h7 hL hoL (fun v hv => hoS v (List.mem_cons_of_mem _ (List.mem_cons_of_mem _ (List.mem_cons_of_mem _ hv)))) hQ
    · cases hs
  · cases hs
set_option maxHeartbeats 2000000 in
theorem sim_arraylength  : Sim (.arraylength) := by
  intro d M pc pc2 L S L2 S2 σ σ2 Post C hdg0 hs hC k G A p l e R s m args below meth c H locs cells slots ls Q hCX hP hR hS hL hoL hoS hQ
  have go := fun (H1 : Heap) (locs1 : List Loc) (ls1 : Array Slot) => k G A p l e R s m args below meth c H1 locs1 cells slots ls1 Q hCX
  obtain ⟨hM, hx, hb, hml, hown, hts, hSX, hd1, hd2, hc1, hc2⟩ := hCX
  have hdg := hdg0 hM
  simp only [nxt] at hs
  split at hs
  · next kk i S1 =>
    have hko := hoS _ List.mem_cons_self
    have hoS' : ∀ x : Int32, ∀ v ∈ (vI x :: S1), okV v := fun x v hv => by
      rcases List.mem_cons.mp hv with rfl | hv
      · trivial
      · exact hoS v (List.mem_cons_of_mem _ hv)
    split at hs
    · next hkk =>
      cases hs
      have ek : kk = 86 := by simpa using hkk
      subst ek
      have ei : i = 0 := by
        rcases hko with h | h | h
        · omega
        · omega
        · exact h.2
      subst ei
      have hgo := go H locs ls hP hR hS hL hoL (hoS' _) hQ
      rw [hR.2.2] at hgo
      exact va_slen hx hb hSX.2.2.2.2.2.1.1 hSX.2.2.2.2.2.1.2.1 hSX.2.2.2.2.2.1.2.2 hS hdg hgo
    · next hkk =>
      split at hs
      · next nn mm qq hl =>
        cases hs
        have hgo := go H locs ls hP hR hS hL hoL (hoS' _) hQ
        rcases Nat.lt_or_ge kk 85 with hk | hk
        · have hi : i < cnt kk := okR_lt hko hk
          obtain ⟨n, hn1, hn2⟩ := ws_get G σ hk hi
          rw [cel_int hl] at hn2
          exact va_alen hx hb hSX.1 hP n 0 hn2 rfl rfl hdg hgo
        · have ek : kk = 85 := by have := LT_lt hl; omega
          subst ek
          have ei : i = 0 := by
            rcases hko with h | h | h
            · omega
            · exact h.2
            · exact h.2
          subst ei
          rw [LT_85] at hl
          cases hl
          exact va_tlen hx hb hSX.2.2.2.2.1 hS rfl hdg hgo
      · cases hs
  · cases hs
set_option maxHeartbeats 2000000 in
theorem sim_getstatic (idx : Nat) : Sim (.getstatic idx) := by
  intro d M pc pc2 L S L2 S2 σ σ2 Post C hdg0 hs hC k G A p l e R s m args below meth c H locs cells slots ls Q hCX hP hR hS hL hoL hoS hQ
  have go := fun (H1 : Heap) (locs1 : List Loc) (ls1 : Array Slot) => k G A p l e R s m args below meth c H1 locs1 cells slots ls1 Q hCX
  obtain ⟨hM, hx, hb, hml, hown, hts, hSX, hd1, hd2, hc1, hc2⟩ := hCX
  have hdg := hdg0 hM
  simp only [nxt] at hs
  split at hs
  · next h1 =>
    cases hs
    have hl : Cond.fieldLinkNest (cn 7) 48 "TouchMap" "ALPHABET" "[I" "TouchMap" ∈ NN := by decide +kernel
    rw [h1] at hown
    exact va_getsN hx hb hSX.2.2.2.1 hS hown (va_Nw.use rfl (hSX.2.1 _ hl)) (fun _ h9 => h9) hdg (go H locs ls hP hR hS hL hoL (fun v hv => by
      rcases List.mem_cons.mp hv with rfl | hv
      · exact Or.inr (Or.inl ⟨rfl, rfl⟩)
      · exact hoS v hv) hQ)
  · cases hs
