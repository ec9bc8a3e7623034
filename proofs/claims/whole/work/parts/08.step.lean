/-! one step of the abstract machine is one of the Java machine -/
def okF (own : Nat) (e : Nat × Nat × Nat × Nat × Bool) : Bool := match classes[e.2.1]? with
  | none => false
  | some q => decide (e.2.2.1 < q.2.2) && (bif e.2.2.2.2 then decide (Cond.fieldLinkNest (cn own) e.1 (q.2.1 e.2.2.1).1 (q.2.1 e.2.2.1).2.1 (q.2.1 e.2.2.1).2.2.1 "TouchMap" ∈ NN) else decide (Cond.fieldLink (cn own) e.1 (q.2.1 e.2.2.1).1 (q.2.1 e.2.2.1).2.1 (q.2.1 e.2.2.1).2.2.1 ∈ tables_1)) && (match e.2.2.2.1 with
    | 0 => decide ((q.2.1 e.2.2.1).2.2.1 = "I" ∧ (q.2.1 e.2.2.1).2.2.2 = false)
    | 1 => decide ((q.2.1 e.2.2.1).2.2.1 = "Z" ∧ (q.2.1 e.2.2.1).2.2.2 = false)
    | _ => true)
theorem FA_ok : (List.range 12).all (fun own => (FA own).all (okF own)) = true := by decide +kernel
theorem FA_out {own : Nat} (h : 12 ≤ own) : FA own = [] := by
  match own, h with
  | own + 12, _ => rfl
theorem FA_use {own idx c j ty : Nat} (h : fre (FA own) idx = some (c, j, ty)) : ∃ q, classes[c]? = some q ∧ j < q.2.2 ∧ (Cond.fieldLinkNest (cn own) idx (q.2.1 j).1 (q.2.1 j).2.1 (q.2.1 j).2.2.1 "TouchMap" ∈ NN ∨ Cond.fieldLink (cn own) idx (q.2.1 j).1 (q.2.1 j).2.1 (q.2.1 j).2.2.1 ∈ TT) ∧ (ty = 0 → (q.2.1 j).2.2.1 = "I" ∧ (q.2.1 j).2.2.2 = false) ∧ (ty = 1 → (q.2.1 j).2.2.1 = "Z" ∧ (q.2.1 j).2.2.2 = false) := by
  obtain ⟨b, hb⟩ := fre_mem h
  by_cases ho : own < 12
  · have h1 := List.all_eq_true.mp (List.all_eq_true.mp FA_ok own (List.mem_range.mpr ho)) _ hb
    unfold okF at h1
    cases hq : classes[c]? with
    | none => simp only [hq] at h1; cases h1
    | some q =>
      simp only [hq, Bool.and_eq_true, decide_eq_true_eq] at h1
      refine ⟨q, rfl, h1.1.1, ?_, ?_, ?_⟩
      · cases b with
        | true => exact Or.inl (by simpa using h1.1.2)
        | false => exact Or.inr (TT_t (by simpa using h1.1.2) rfl)
      · intro e
        subst e
        simpa using h1.2
      · intro e
        subst e
        simpa using h1.2
  · rw [FA_out (by omega)] at hb
    cases hb
theorem cl_in {c : Nat} {q : vw_C} (h : classes[c]? = some q) : (∀ w ∈ u_ws q.1 q.2.1 q.2.2, w ∈ TT) ∧ (∀ k, k < q.2.2 → parseFieldDescriptor (q.2.1 k).2.2.1 = some (tyOf c k)) ∧ (∀ a, a < q.2.2 → ∀ b, b < q.2.2 → a ≠ b → (q.2.1 a).2.1 ≠ (q.2.1 b).2.1) := by
  match c, h with
  | 0, h => cases h; exact ⟨i_Chooser, t_Chooser_ok, n_Chooser⟩
  | 1, h => cases h; exact ⟨i_Keeper, t_Keeper_ok, n_Keeper⟩
  | 2, h => cases h; exact ⟨i_Layer, t_Layer_ok, n_Layer⟩
  | 3, h => cases h; exact ⟨i_Line, t_Line_ok, n_Line⟩
  | 4, h => cases h; exact ⟨i_Name, t_Name_ok, n_Name⟩
  | 5, h => cases h; exact ⟨i_Ruler, t_Ruler_ok, n_Ruler⟩
  | 6, h => cases h; exact ⟨i_Setter, t_Setter_ok, n_Setter⟩
  | 7, h => cases h; exact ⟨i_Speller, t_Speller_ok, n_Speller⟩
  | 8, h => cases h; exact ⟨i_Way, t_Way_ok, n_Way⟩
  | 9, h => cases h; exact ⟨i_Word, t_Word_ok, n_Word⟩
  | 10, h => cases h; exact ⟨i_TM, t_TM_ok, n_TM⟩
  | 11, h => cases h; exact ⟨i_MD, t_MD_ok, n_MD⟩
  | k + 12, h => cases h
theorem lcon_w {own q : Nat} {v : Int64} (h : lcon own q = some v) : Cond.constantLong (cn own) q v ∈ TT := by
  unfold lcon at h
  split at h <;> first | (cases h; exact TT_t (by decide +kernel) rfl) | cases h
theorem icon_w {own q : Nat} {v : Int32} (h : icon own q = some v) : Cond.constant (cn own) q v ∈ TT := by
  unfold icon at h
  split at h <;> first | (cases h; exact TT_t (by decide +kernel) rfl) | cases h
theorem va_D1 {A : Nat → Prop} {a : Nat} {e : va_E} (h : A a) : va_D A [(a, e)] := by
  refine ⟨fun i j p q h1 h2 _ => ?_, fun k q hq => ?_⟩
  · have l1 := (List.getElem?_eq_some_iff.mp h1).1
    have l2 := (List.getElem?_eq_some_iff.mp h2).1
    simp only [List.length_cons, List.length_nil] at l1 l2
    omega
  · have l1 := (List.getElem?_eq_some_iff.mp hq).1
    simp only [List.length_cons, List.length_nil] at l1
    have : k = 0 := by omega
    subst this
    cases hq
    exact h
def Sim (i : Instr) : Prop := ∀ (d : Nat) (M : MI) (pc pc' : Nat) (L S L' S' : List AV) (σ σ' : Mem) (Post : Option AV → Mem → Prop) (C : List Prop), (OkD M → decode M.bytes pc = .ok (i, ilen i)) → nxt M.own i (ilen i) pc L S σ = some (C, pc', L', S', σ') → allP C → WS d M pc' L' S' σ' Post → WS d M pc L S σ Post
set_option maxHeartbeats 1000000 in
theorem sim_iconst (v : Int) : Sim (.iconst v) := by
  intro d M pc pc2 L S L2 S2 σ σ2 Post C hdg0 hs hC k G A p l e R s m args below meth c H locs cells slots ls Q hCX hP hR hS hL hoL hoS hQ
  have go := fun (H1 : Heap) (locs1 : List Loc) (ls1 : Array Slot) => k G A p l e R s m args below meth c H1 locs1 cells slots ls1 Q hCX
  obtain ⟨hM, hx, hb, hml, hown, hts, hSX, hd1, hd2, hc1, hc2⟩ := hCX
  have hdg := hdg0 hM
  cases hs
  exact lv_iconst hx hb hdg rfl (go H locs ls hP hR hS hL hoL (fun v hv => by rcases List.mem_cons.mp hv with rfl | hv <;> first | trivial | exact hoS v hv) hQ)
set_option maxHeartbeats 1000000 in
theorem sim_bipush (v : Int) : Sim (.bipush v) := by
  intro d M pc pc2 L S L2 S2 σ σ2 Post C hdg0 hs hC k G A p l e R s m args below meth c H locs cells slots ls Q hCX hP hR hS hL hoL hoS hQ
  have go := fun (H1 : Heap) (locs1 : List Loc) (ls1 : Array Slot) => k G A p l e R s m args below meth c H1 locs1 cells slots ls1 Q hCX
  obtain ⟨hM, hx, hb, hml, hown, hts, hSX, hd1, hd2, hc1, hc2⟩ := hCX
  have hdg := hdg0 hM
  cases hs
  exact lv_bipush hx hb hdg rfl (go H locs ls hP hR hS hL hoL (fun v hv => by rcases List.mem_cons.mp hv with rfl | hv <;> first | trivial | exact hoS v hv) hQ)
set_option maxHeartbeats 1000000 in
theorem sim_sipush (v : Int) : Sim (.sipush v) := by
  intro d M pc pc2 L S L2 S2 σ σ2 Post C hdg0 hs hC k G A p l e R s m args below meth c H locs cells slots ls Q hCX hP hR hS hL hoL hoS hQ
  have go := fun (H1 : Heap) (locs1 : List Loc) (ls1 : Array Slot) => k G A p l e R s m args below meth c H1 locs1 cells slots ls1 Q hCX
  obtain ⟨hM, hx, hb, hml, hown, hts, hSX, hd1, hd2, hc1, hc2⟩ := hCX
  have hdg := hdg0 hM
  cases hs
  exact lv_sipush hx hb hdg rfl (go H locs ls hP hR hS hL hoL (fun v hv => by rcases List.mem_cons.mp hv with rfl | hv <;> first | trivial | exact hoS v hv) hQ)
set_option maxHeartbeats 1000000 in
theorem sim_lconst (v : Fin 2) : Sim (.lconst v) := by
  intro d M pc pc2 L S L2 S2 σ σ2 Post C hdg0 hs hC k G A p l e R s m args below meth c H locs cells slots ls Q hCX hP hR hS hL hoL hoS hQ
  have go := fun (H1 : Heap) (locs1 : List Loc) (ls1 : Array Slot) => k G A p l e R s m args below meth c H1 locs1 cells slots ls1 Q hCX
  obtain ⟨hM, hx, hb, hml, hown, hts, hSX, hd1, hd2, hc1, hc2⟩ := hCX
  have hdg := hdg0 hM
  cases hs
  exact lv_lconst hx hb hdg rfl (go H locs ls hP hR hS hL hoL (fun v hv => by rcases List.mem_cons.mp hv with rfl | hv <;> first | trivial | exact hoS v hv) hQ)
set_option maxHeartbeats 1000000 in
theorem sim_iload_n (q : Fin 4) : Sim (.iload_n q) := by
  intro d M pc pc2 L S L2 S2 σ σ2 Post C hdg0 hs hC k G A p l e R s m args below meth c H locs cells slots ls Q hCX hP hR hS hL hoL hoS hQ
  have go := fun (H1 : Heap) (locs1 : List Loc) (ls1 : Array Slot) => k G A p l e R s m args below meth c H1 locs1 cells slots ls1 Q hCX
  obtain ⟨hM, hx, hb, hml, hown, hts, hSX, hd1, hd2, hc1, hc2⟩ := hCX
  have hdg := hdg0 hM
  simp only [nxt, iLd] at hs
  split at hs
  · next x hv =>
    cases hs
    refine lv_iload_n hx hb hdg rfl (hL.get hv (by simp)) (go H locs ls hP hR hS hL hoL ?_ hQ)
    intro v hw
    rcases List.mem_cons.mp hw with rfl | hw
    · exact trivial
    · exact hoS v hw
  · cases hs
set_option maxHeartbeats 1000000 in
theorem sim_iload (q : Nat) : Sim (.iload q) := by
  intro d M pc pc2 L S L2 S2 σ σ2 Post C hdg0 hs hC k G A p l e R s m args below meth c H locs cells slots ls Q hCX hP hR hS hL hoL hoS hQ
  have go := fun (H1 : Heap) (locs1 : List Loc) (ls1 : Array Slot) => k G A p l e R s m args below meth c H1 locs1 cells slots ls1 Q hCX
  obtain ⟨hM, hx, hb, hml, hown, hts, hSX, hd1, hd2, hc1, hc2⟩ := hCX
  have hdg := hdg0 hM
  simp only [nxt, iLd] at hs
  split at hs
  · next x hv =>
    cases hs
    refine lv_iload hx hb hdg (hL.get hv (by simp)) (go H locs ls hP hR hS hL hoL ?_ hQ)
    intro v hw
    rcases List.mem_cons.mp hw with rfl | hw
    · exact trivial
    · exact hoS v hw
  · cases hs
set_option maxHeartbeats 1000000 in
theorem sim_lload_n (q : Fin 4) : Sim (.lload_n q) := by
  intro d M pc pc2 L S L2 S2 σ σ2 Post C hdg0 hs hC k G A p l e R s m args below meth c H locs cells slots ls Q hCX hP hR hS hL hoL hoS hQ
  have go := fun (H1 : Heap) (locs1 : List Loc) (ls1 : Array Slot) => k G A p l e R s m args below meth c H1 locs1 cells slots ls1 Q hCX
  obtain ⟨hM, hx, hb, hml, hown, hts, hSX, hd1, hd2, hc1, hc2⟩ := hCX
  have hdg := hdg0 hM
  simp only [nxt, lLd] at hs
  split at hs
  · next x hv =>
    cases hs
    refine lv_lload_n hx hb hdg rfl (hL.get hv (by simp)) (go H locs ls hP hR hS hL hoL ?_ hQ)
    intro v hw
    rcases List.mem_cons.mp hw with rfl | hw
    · exact trivial
    · exact hoS v hw
  · cases hs
set_option maxHeartbeats 1000000 in
theorem sim_lload (q : Nat) : Sim (.lload q) := by
  intro d M pc pc2 L S L2 S2 σ σ2 Post C hdg0 hs hC k G A p l e R s m args below meth c H locs cells slots ls Q hCX hP hR hS hL hoL hoS hQ
  have go := fun (H1 : Heap) (locs1 : List Loc) (ls1 : Array Slot) => k G A p l e R s m args below meth c H1 locs1 cells slots ls1 Q hCX
  obtain ⟨hM, hx, hb, hml, hown, hts, hSX, hd1, hd2, hc1, hc2⟩ := hCX
  have hdg := hdg0 hM
  simp only [nxt, lLd] at hs
  split at hs
  · next x hv =>
    cases hs
    refine lv_lload hx hb hdg (hL.get hv (by simp)) (go H locs ls hP hR hS hL hoL ?_ hQ)
    intro v hw
    rcases List.mem_cons.mp hw with rfl | hw
    · exact trivial
    · exact hoS v hw
  · cases hs
set_option maxHeartbeats 1000000 in
theorem sim_aload_n (q : Fin 4) : Sim (.aload_n q) := by
  intro d M pc pc2 L S L2 S2 σ σ2 Post C hdg0 hs hC k G A p l e R s m args below meth c H locs cells slots ls Q hCX hP hR hS hL hoL hoS hQ
  have go := fun (H1 : Heap) (locs1 : List Loc) (ls1 : Array Slot) => k G A p l e R s m args below meth c H1 locs1 cells slots ls1 Q hCX
  obtain ⟨hM, hx, hb, hml, hown, hts, hSX, hd1, hd2, hc1, hc2⟩ := hCX
  have hdg := hdg0 hM
  simp only [nxt, aLd] at hs
  split at hs
  · next a b hv =>
    cases hs
    refine lv_aload_n hx hb hdg rfl (hL.get hv (by simp)) (go H locs ls hP hR hS hL hoL ?_ hQ)
    intro v hw
    rcases List.mem_cons.mp hw with rfl | hw
    · exact (hoL _ (List.mem_of_getElem? hv))
    · exact hoS v hw
  · cases hs
set_option maxHeartbeats 1000000 in
theorem sim_aload (q : Nat) : Sim (.aload q) := by
  intro d M pc pc2 L S L2 S2 σ σ2 Post C hdg0 hs hC k G A p l e R s m args below meth c H locs cells slots ls Q hCX hP hR hS hL hoL hoS hQ
  have go := fun (H1 : Heap) (locs1 : List Loc) (ls1 : Array Slot) => k G A p l e R s m args below meth c H1 locs1 cells slots ls1 Q hCX
  obtain ⟨hM, hx, hb, hml, hown, hts, hSX, hd1, hd2, hc1, hc2⟩ := hCX
  have hdg := hdg0 hM
  simp only [nxt, aLd] at hs
  split at hs
  · next a b hv =>
    cases hs
    refine lv_aload hx hb hdg (hL.get hv (by simp)) (go H locs ls hP hR hS hL hoL ?_ hQ)
    intro v hw
    rcases List.mem_cons.mp hw with rfl | hw
    · exact (hoL _ (List.mem_of_getElem? hv))
    · exact hoS v hw
  · cases hs
set_option maxHeartbeats 1000000 in
theorem sim_istore_n (q : Fin 4) : Sim (.istore_n q) := by
  intro d M pc pc2 L S L2 S2 σ σ2 Post C hdg0 hs hC k G A p l e R s m args below meth c H locs cells slots ls Q hCX hP hR hS hL hoL hoS hQ
  have go := fun (H1 : Heap) (locs1 : List Loc) (ls1 : Array Slot) => k G A p l e R s m args below meth c H1 locs1 cells slots ls1 Q hCX
  obtain ⟨hM, hx, hb, hml, hown, hts, hSX, hd1, hd2, hc1, hc2⟩ := hCX
  have hdg := hdg0 hM
  simp only [nxt, iSt] at hs
  split at hs
  · next hv =>
    cases hs
    exact lv_istore_n hx hb hdg rfl hL.2 (by rw [← hL.1]; exact (List.getElem?_eq_some_iff.mp hv).1) rfl (fun ls1 h1 => go H locs ls1 hP hR hS (hL.st1 h1) (okV_set hoL (hoS _ List.mem_cons_self)) (fun v hw => hoS v (List.mem_cons_of_mem _ hw)) hQ)
  · cases hs
set_option maxHeartbeats 1000000 in
theorem sim_istore (q : Nat) : Sim (.istore q) := by
  intro d M pc pc2 L S L2 S2 σ σ2 Post C hdg0 hs hC k G A p l e R s m args below meth c H locs cells slots ls Q hCX hP hR hS hL hoL hoS hQ
  have go := fun (H1 : Heap) (locs1 : List Loc) (ls1 : Array Slot) => k G A p l e R s m args below meth c H1 locs1 cells slots ls1 Q hCX
  obtain ⟨hM, hx, hb, hml, hown, hts, hSX, hd1, hd2, hc1, hc2⟩ := hCX
  have hdg := hdg0 hM
  simp only [nxt, iSt] at hs
  split at hs
  · next hv =>
    cases hs
    exact lv_istore hx hb hdg hL.2 (by rw [← hL.1]; exact (List.getElem?_eq_some_iff.mp hv).1) rfl (fun ls1 h1 => go H locs ls1 hP hR hS (hL.st1 h1) (okV_set hoL (hoS _ List.mem_cons_self)) (fun v hw => hoS v (List.mem_cons_of_mem _ hw)) hQ)
  · cases hs
set_option maxHeartbeats 1000000 in
theorem sim_lstore_n (q : Fin 4) : Sim (.lstore_n q) := by
  intro d M pc pc2 L S L2 S2 σ σ2 Post C hdg0 hs hC k G A p l e R s m args below meth c H locs cells slots ls Q hCX hP hR hS hL hoL hoS hQ
  have go := fun (H1 : Heap) (locs1 : List Loc) (ls1 : Array Slot) => k G A p l e R s m args below meth c H1 locs1 cells slots ls1 Q hCX
  obtain ⟨hM, hx, hb, hml, hown, hts, hSX, hd1, hd2, hc1, hc2⟩ := hCX
  have hdg := hdg0 hM
  simp only [nxt, lSt] at hs
  split at hs
  · next hv =>
    cases hs
    refine lv_lstore_n hx hb hdg rfl hL.2 (by rw [← hL.1]; exact (List.getElem?_eq_some_iff.mp hv).1) rfl (fun ls1 h1 => go H locs ls1 hP hR hS (hL.st2 h1) ?_ (fun v hw => hoS v (List.mem_cons_of_mem _ hw)) hQ)
    intro w hw
    rcases List.mem_or_eq_of_mem_set hw with hw | hw
    · exact okV_set hoL (hoS _ List.mem_cons_self) w hw
    · rw [hw]; trivial
  · cases hs
set_option maxHeartbeats 1000000 in
theorem sim_lstore (q : Nat) : Sim (.lstore q) := by
  intro d M pc pc2 L S L2 S2 σ σ2 Post C hdg0 hs hC k G A p l e R s m args below meth c H locs cells slots ls Q hCX hP hR hS hL hoL hoS hQ
  have go := fun (H1 : Heap) (locs1 : List Loc) (ls1 : Array Slot) => k G A p l e R s m args below meth c H1 locs1 cells slots ls1 Q hCX
  obtain ⟨hM, hx, hb, hml, hown, hts, hSX, hd1, hd2, hc1, hc2⟩ := hCX
  have hdg := hdg0 hM
  simp only [nxt, lSt] at hs
  split at hs
  · next hv =>
    cases hs
    refine lv_lstore hx hb hdg hL.2 (by rw [← hL.1]; exact (List.getElem?_eq_some_iff.mp hv).1) rfl (fun ls1 h1 => go H locs ls1 hP hR hS (hL.st2 h1) ?_ (fun v hw => hoS v (List.mem_cons_of_mem _ hw)) hQ)
    intro w hw
    rcases List.mem_or_eq_of_mem_set hw with hw | hw
    · exact okV_set hoL (hoS _ List.mem_cons_self) w hw
    · rw [hw]; trivial
  · cases hs
set_option maxHeartbeats 1000000 in
theorem sim_astore_n (q : Fin 4) : Sim (.astore_n q) := by
  intro d M pc pc2 L S L2 S2 σ σ2 Post C hdg0 hs hC k G A p l e R s m args below meth c H locs cells slots ls Q hCX hP hR hS hL hoL hoS hQ
  have go := fun (H1 : Heap) (locs1 : List Loc) (ls1 : Array Slot) => k G A p l e R s m args below meth c H1 locs1 cells slots ls1 Q hCX
  obtain ⟨hM, hx, hb, hml, hown, hts, hSX, hd1, hd2, hc1, hc2⟩ := hCX
  have hdg := hdg0 hM
  simp only [nxt, aSt] at hs
  split at hs
  · next hv =>
    cases hs
    exact lv_astore_n hx hb hdg rfl hL.2 (by rw [← hL.1]; exact (List.getElem?_eq_some_iff.mp hv).1) rfl (fun ls1 h1 => go H locs ls1 hP hR hS (hL.st1 h1) (okV_set hoL (hoS _ List.mem_cons_self)) (fun v hw => hoS v (List.mem_cons_of_mem _ hw)) hQ)
  · cases hs
set_option maxHeartbeats 1000000 in
theorem sim_astore (q : Nat) : Sim (.astore q) := by
  intro d M pc pc2 L S L2 S2 σ σ2 Post C hdg0 hs hC k G A p l e R s m args below meth c H locs cells slots ls Q hCX hP hR hS hL hoL hoS hQ
  have go := fun (H1 : Heap) (locs1 : List Loc) (ls1 : Array Slot) => k G A p l e R s m args below meth c H1 locs1 cells slots ls1 Q hCX
  obtain ⟨hM, hx, hb, hml, hown, hts, hSX, hd1, hd2, hc1, hc2⟩ := hCX
  have hdg := hdg0 hM
  simp only [nxt, aSt] at hs
  split at hs
  · next hv =>
    cases hs
    exact lv_astore hx hb hdg hL.2 (by rw [← hL.1]; exact (List.getElem?_eq_some_iff.mp hv).1) rfl (fun ls1 h1 => go H locs ls1 hP hR hS (hL.st1 h1) (okV_set hoL (hoS _ List.mem_cons_self)) (fun v hw => hoS v (List.mem_cons_of_mem _ hw)) hQ)
  · cases hs
set_option maxHeartbeats 1000000 in
theorem sim_iinc (q : Nat) (w : Int) : Sim (.iinc q w) := by
  intro d M pc pc2 L S L2 S2 σ σ2 Post C hdg0 hs hC k G A p l e R s m args below meth c H locs cells slots ls Q hCX hP hR hS hL hoL hoS hQ
  have go := fun (H1 : Heap) (locs1 : List Loc) (ls1 : Array Slot) => k G A p l e R s m args below meth c H1 locs1 cells slots ls1 Q hCX
  obtain ⟨hM, hx, hb, hml, hown, hts, hSX, hd1, hd2, hc1, hc2⟩ := hCX
  have hdg := hdg0 hM
  simp only [nxt] at hs
  split at hs
  · next x hv =>
    cases hs
    obtain ⟨j, hj⟩ := List.mem_iff_getElem?.mp (lvl_mem.mpr ⟨q, vI x, hv, (Nat.zero_add q).symm, by simp, rfl⟩ : (q, Value.int x) ∈ lvl G 0 L)
    exact lv_iinc hx hb hdg hL.2 hj rfl (by rw [← hL.1]; exact (List.getElem?_eq_some_iff.mp hv).1) rfl (fun ls1 h1 => go H locs ls1 hP hR hS (hL.st1 h1) (okV_set hoL trivial) hoS hQ)
  · cases hs
set_option maxHeartbeats 1000000 in
theorem sim_iadd  : Sim (.iadd) := by
  intro d M pc pc2 L S L2 S2 σ σ2 Post C hdg0 hs hC k G A p l e R s m args below meth c H locs cells slots ls Q hCX hP hR hS hL hoL hoS hQ
  have go := fun (H1 : Heap) (locs1 : List Loc) (ls1 : Array Slot) => k G A p l e R s m args below meth c H1 locs1 cells slots ls1 Q hCX
  obtain ⟨hM, hx, hb, hml, hown, hts, hSX, hd1, hd2, hc1, hc2⟩ := hCX
  have hdg := hdg0 hM
  simp only [nxt, i2] at hs
  split at hs
  · cases hs
    exact lv_iadd hx hb hdg (go H locs ls hP hR hS hL hoL (fun v hw => by rcases List.mem_cons.mp hw with rfl | hw <;> first | trivial | exact hoS v (List.mem_cons_of_mem _ (List.mem_cons_of_mem _ hw))) hQ)
  · cases hs
set_option maxHeartbeats 1000000 in
theorem sim_isub  : Sim (.isub) := by
  intro d M pc pc2 L S L2 S2 σ σ2 Post C hdg0 hs hC k G A p l e R s m args below meth c H locs cells slots ls Q hCX hP hR hS hL hoL hoS hQ
  have go := fun (H1 : Heap) (locs1 : List Loc) (ls1 : Array Slot) => k G A p l e R s m args below meth c H1 locs1 cells slots ls1 Q hCX
  obtain ⟨hM, hx, hb, hml, hown, hts, hSX, hd1, hd2, hc1, hc2⟩ := hCX
  have hdg := hdg0 hM
  simp only [nxt, i2] at hs
  split at hs
  · cases hs
    exact lv_isub hx hb hdg (go H locs ls hP hR hS hL hoL (fun v hw => by rcases List.mem_cons.mp hw with rfl | hw <;> first | trivial | exact hoS v (List.mem_cons_of_mem _ (List.mem_cons_of_mem _ hw))) hQ)
  · cases hs
set_option maxHeartbeats 1000000 in
theorem sim_imul  : Sim (.imul) := by
  intro d M pc pc2 L S L2 S2 σ σ2 Post C hdg0 hs hC k G A p l e R s m args below meth c H locs cells slots ls Q hCX hP hR hS hL hoL hoS hQ
  have go := fun (H1 : Heap) (locs1 : List Loc) (ls1 : Array Slot) => k G A p l e R s m args below meth c H1 locs1 cells slots ls1 Q hCX
  obtain ⟨hM, hx, hb, hml, hown, hts, hSX, hd1, hd2, hc1, hc2⟩ := hCX
  have hdg := hdg0 hM
  simp only [nxt, i2] at hs
  split at hs
  · cases hs
    exact lv_imul hx hb hdg (go H locs ls hP hR hS hL hoL (fun v hw => by rcases List.mem_cons.mp hw with rfl | hw <;> first | trivial | exact hoS v (List.mem_cons_of_mem _ (List.mem_cons_of_mem _ hw))) hQ)
  · cases hs
set_option maxHeartbeats 1000000 in
theorem sim_iand  : Sim (.iand) := by
  intro d M pc pc2 L S L2 S2 σ σ2 Post C hdg0 hs hC k G A p l e R s m args below meth c H locs cells slots ls Q hCX hP hR hS hL hoL hoS hQ
  have go := fun (H1 : Heap) (locs1 : List Loc) (ls1 : Array Slot) => k G A p l e R s m args below meth c H1 locs1 cells slots ls1 Q hCX
  obtain ⟨hM, hx, hb, hml, hown, hts, hSX, hd1, hd2, hc1, hc2⟩ := hCX
  have hdg := hdg0 hM
  simp only [nxt, i2] at hs
  split at hs
  · cases hs
    exact lv_iand hx hb hdg (go H locs ls hP hR hS hL hoL (fun v hw => by rcases List.mem_cons.mp hw with rfl | hw <;> first | trivial | exact hoS v (List.mem_cons_of_mem _ (List.mem_cons_of_mem _ hw))) hQ)
  · cases hs
set_option maxHeartbeats 1000000 in
theorem sim_ior  : Sim (.ior) := by
  intro d M pc pc2 L S L2 S2 σ σ2 Post C hdg0 hs hC k G A p l e R s m args below meth c H locs cells slots ls Q hCX hP hR hS hL hoL hoS hQ
  have go := fun (H1 : Heap) (locs1 : List Loc) (ls1 : Array Slot) => k G A p l e R s m args below meth c H1 locs1 cells slots ls1 Q hCX
  obtain ⟨hM, hx, hb, hml, hown, hts, hSX, hd1, hd2, hc1, hc2⟩ := hCX
  have hdg := hdg0 hM
  simp only [nxt, i2] at hs
  split at hs
  · cases hs
    exact lv_ior hx hb hdg (go H locs ls hP hR hS hL hoL (fun v hw => by rcases List.mem_cons.mp hw with rfl | hw <;> first | trivial | exact hoS v (List.mem_cons_of_mem _ (List.mem_cons_of_mem _ hw))) hQ)
  · cases hs
set_option maxHeartbeats 1000000 in
theorem sim_ixor  : Sim (.ixor) := by
  intro d M pc pc2 L S L2 S2 σ σ2 Post C hdg0 hs hC k G A p l e R s m args below meth c H locs cells slots ls Q hCX hP hR hS hL hoL hoS hQ
  have go := fun (H1 : Heap) (locs1 : List Loc) (ls1 : Array Slot) => k G A p l e R s m args below meth c H1 locs1 cells slots ls1 Q hCX
  obtain ⟨hM, hx, hb, hml, hown, hts, hSX, hd1, hd2, hc1, hc2⟩ := hCX
  have hdg := hdg0 hM
  simp only [nxt, i2] at hs
  split at hs
  · cases hs
    exact lv_ixor hx hb hdg (go H locs ls hP hR hS hL hoL (fun v hw => by rcases List.mem_cons.mp hw with rfl | hw <;> first | trivial | exact hoS v (List.mem_cons_of_mem _ (List.mem_cons_of_mem _ hw))) hQ)
  · cases hs
set_option maxHeartbeats 1000000 in
theorem sim_ishl  : Sim (.ishl) := by
  intro d M pc pc2 L S L2 S2 σ σ2 Post C hdg0 hs hC k G A p l e R s m args below meth c H locs cells slots ls Q hCX hP hR hS hL hoL hoS hQ
  have go := fun (H1 : Heap) (locs1 : List Loc) (ls1 : Array Slot) => k G A p l e R s m args below meth c H1 locs1 cells slots ls1 Q hCX
  obtain ⟨hM, hx, hb, hml, hown, hts, hSX, hd1, hd2, hc1, hc2⟩ := hCX
  have hdg := hdg0 hM
  simp only [nxt, i2] at hs
  split at hs
  · cases hs
    exact lv_ishl hx hb hdg (go H locs ls hP hR hS hL hoL (fun v hw => by rcases List.mem_cons.mp hw with rfl | hw <;> first | trivial | exact hoS v (List.mem_cons_of_mem _ (List.mem_cons_of_mem _ hw))) hQ)
  · cases hs
set_option maxHeartbeats 1000000 in
theorem sim_ishr  : Sim (.ishr) := by
  intro d M pc pc2 L S L2 S2 σ σ2 Post C hdg0 hs hC k G A p l e R s m args below meth c H locs cells slots ls Q hCX hP hR hS hL hoL hoS hQ
  have go := fun (H1 : Heap) (locs1 : List Loc) (ls1 : Array Slot) => k G A p l e R s m args below meth c H1 locs1 cells slots ls1 Q hCX
  obtain ⟨hM, hx, hb, hml, hown, hts, hSX, hd1, hd2, hc1, hc2⟩ := hCX
  have hdg := hdg0 hM
  simp only [nxt, i2] at hs
  split at hs
  · cases hs
    exact lv_ishr hx hb hdg (go H locs ls hP hR hS hL hoL (fun v hw => by rcases List.mem_cons.mp hw with rfl | hw <;> first | trivial | exact hoS v (List.mem_cons_of_mem _ (List.mem_cons_of_mem _ hw))) hQ)
  · cases hs
set_option maxHeartbeats 1000000 in
theorem sim_iushr  : Sim (.iushr) := by
  intro d M pc pc2 L S L2 S2 σ σ2 Post C hdg0 hs hC k G A p l e R s m args below meth c H locs cells slots ls Q hCX hP hR hS hL hoL hoS hQ
  have go := fun (H1 : Heap) (locs1 : List Loc) (ls1 : Array Slot) => k G A p l e R s m args below meth c H1 locs1 cells slots ls1 Q hCX
  obtain ⟨hM, hx, hb, hml, hown, hts, hSX, hd1, hd2, hc1, hc2⟩ := hCX
  have hdg := hdg0 hM
  simp only [nxt, i2] at hs
  split at hs
  · cases hs
    exact lv_iushr hx hb hdg rfl (go H locs ls hP hR hS hL hoL (fun v hw => by rcases List.mem_cons.mp hw with rfl | hw <;> first | trivial | exact hoS v (List.mem_cons_of_mem _ (List.mem_cons_of_mem _ hw))) hQ)
  · cases hs
set_option maxHeartbeats 1000000 in
theorem sim_ladd  : Sim (.ladd) := by
  intro d M pc pc2 L S L2 S2 σ σ2 Post C hdg0 hs hC k G A p l e R s m args below meth c H locs cells slots ls Q hCX hP hR hS hL hoL hoS hQ
  have go := fun (H1 : Heap) (locs1 : List Loc) (ls1 : Array Slot) => k G A p l e R s m args below meth c H1 locs1 cells slots ls1 Q hCX
  obtain ⟨hM, hx, hb, hml, hown, hts, hSX, hd1, hd2, hc1, hc2⟩ := hCX
  have hdg := hdg0 hM
  simp only [nxt, l2] at hs
  split at hs
  · cases hs
    exact lv_ladd hx hb hdg (go H locs ls hP hR hS hL hoL (fun v hw => by rcases List.mem_cons.mp hw with rfl | hw <;> first | trivial | exact hoS v (List.mem_cons_of_mem _ (List.mem_cons_of_mem _ hw))) hQ)
  · cases hs
set_option maxHeartbeats 1000000 in
theorem sim_lsub  : Sim (.lsub) := by
  intro d M pc pc2 L S L2 S2 σ σ2 Post C hdg0 hs hC k G A p l e R s m args below meth c H locs cells slots ls Q hCX hP hR hS hL hoL hoS hQ
  have go := fun (H1 : Heap) (locs1 : List Loc) (ls1 : Array Slot) => k G A p l e R s m args below meth c H1 locs1 cells slots ls1 Q hCX
  obtain ⟨hM, hx, hb, hml, hown, hts, hSX, hd1, hd2, hc1, hc2⟩ := hCX
  have hdg := hdg0 hM
  simp only [nxt, l2] at hs
  split at hs
  · cases hs
    exact lv_lsub hx hb hdg (go H locs ls hP hR hS hL hoL (fun v hw => by rcases List.mem_cons.mp hw with rfl | hw <;> first | trivial | exact hoS v (List.mem_cons_of_mem _ (List.mem_cons_of_mem _ hw))) hQ)
  · cases hs
set_option maxHeartbeats 1000000 in
theorem sim_lmul  : Sim (.lmul) := by
  intro d M pc pc2 L S L2 S2 σ σ2 Post C hdg0 hs hC k G A p l e R s m args below meth c H locs cells slots ls Q hCX hP hR hS hL hoL hoS hQ
  have go := fun (H1 : Heap) (locs1 : List Loc) (ls1 : Array Slot) => k G A p l e R s m args below meth c H1 locs1 cells slots ls1 Q hCX
  obtain ⟨hM, hx, hb, hml, hown, hts, hSX, hd1, hd2, hc1, hc2⟩ := hCX
  have hdg := hdg0 hM
  simp only [nxt, l2] at hs
  split at hs
  · cases hs
    exact lv_lmul hx hb hdg (go H locs ls hP hR hS hL hoL (fun v hw => by rcases List.mem_cons.mp hw with rfl | hw <;> first | trivial | exact hoS v (List.mem_cons_of_mem _ (List.mem_cons_of_mem _ hw))) hQ)
  · cases hs
set_option maxHeartbeats 1000000 in
theorem sim_land  : Sim (.land) := by
  intro d M pc pc2 L S L2 S2 σ σ2 Post C hdg0 hs hC k G A p l e R s m args below meth c H locs cells slots ls Q hCX hP hR hS hL hoL hoS hQ
  have go := fun (H1 : Heap) (locs1 : List Loc) (ls1 : Array Slot) => k G A p l e R s m args below meth c H1 locs1 cells slots ls1 Q hCX
  obtain ⟨hM, hx, hb, hml, hown, hts, hSX, hd1, hd2, hc1, hc2⟩ := hCX
  have hdg := hdg0 hM
  simp only [nxt, l2] at hs
  split at hs
  · cases hs
    exact lv_land hx hb hdg (go H locs ls hP hR hS hL hoL (fun v hw => by rcases List.mem_cons.mp hw with rfl | hw <;> first | trivial | exact hoS v (List.mem_cons_of_mem _ (List.mem_cons_of_mem _ hw))) hQ)
  · cases hs
set_option maxHeartbeats 1000000 in
theorem sim_lor  : Sim (.lor) := by
  intro d M pc pc2 L S L2 S2 σ σ2 Post C hdg0 hs hC k G A p l e R s m args below meth c H locs cells slots ls Q hCX hP hR hS hL hoL hoS hQ
  have go := fun (H1 : Heap) (locs1 : List Loc) (ls1 : Array Slot) => k G A p l e R s m args below meth c H1 locs1 cells slots ls1 Q hCX
  obtain ⟨hM, hx, hb, hml, hown, hts, hSX, hd1, hd2, hc1, hc2⟩ := hCX
  have hdg := hdg0 hM
  simp only [nxt, l2] at hs
  split at hs
  · cases hs
    exact lv_lor hx hb hdg (go H locs ls hP hR hS hL hoL (fun v hw => by rcases List.mem_cons.mp hw with rfl | hw <;> first | trivial | exact hoS v (List.mem_cons_of_mem _ (List.mem_cons_of_mem _ hw))) hQ)
  · cases hs
set_option maxHeartbeats 1000000 in
theorem sim_lxor  : Sim (.lxor) := by
  intro d M pc pc2 L S L2 S2 σ σ2 Post C hdg0 hs hC k G A p l e R s m args below meth c H locs cells slots ls Q hCX hP hR hS hL hoL hoS hQ
  have go := fun (H1 : Heap) (locs1 : List Loc) (ls1 : Array Slot) => k G A p l e R s m args below meth c H1 locs1 cells slots ls1 Q hCX
  obtain ⟨hM, hx, hb, hml, hown, hts, hSX, hd1, hd2, hc1, hc2⟩ := hCX
  have hdg := hdg0 hM
  simp only [nxt, l2] at hs
  split at hs
  · cases hs
    exact lv_lxor hx hb hdg (go H locs ls hP hR hS hL hoL (fun v hw => by rcases List.mem_cons.mp hw with rfl | hw <;> first | trivial | exact hoS v (List.mem_cons_of_mem _ (List.mem_cons_of_mem _ hw))) hQ)
  · cases hs
set_option maxHeartbeats 1000000 in
theorem sim_lshl  : Sim (.lshl) := by
  intro d M pc pc2 L S L2 S2 σ σ2 Post C hdg0 hs hC k G A p l e R s m args below meth c H locs cells slots ls Q hCX hP hR hS hL hoL hoS hQ
  have go := fun (H1 : Heap) (locs1 : List Loc) (ls1 : Array Slot) => k G A p l e R s m args below meth c H1 locs1 cells slots ls1 Q hCX
  obtain ⟨hM, hx, hb, hml, hown, hts, hSX, hd1, hd2, hc1, hc2⟩ := hCX
  have hdg := hdg0 hM
  simp only [nxt, li2] at hs
  split at hs
  · cases hs
    exact lv_lshl hx hb hdg rfl (go H locs ls hP hR hS hL hoL (fun v hw => by rcases List.mem_cons.mp hw with rfl | hw <;> first | trivial | exact hoS v (List.mem_cons_of_mem _ (List.mem_cons_of_mem _ hw))) hQ)
  · cases hs
set_option maxHeartbeats 1000000 in
theorem sim_lushr  : Sim (.lushr) := by
  intro d M pc pc2 L S L2 S2 σ σ2 Post C hdg0 hs hC k G A p l e R s m args below meth c H locs cells slots ls Q hCX hP hR hS hL hoL hoS hQ
  have go := fun (H1 : Heap) (locs1 : List Loc) (ls1 : Array Slot) => k G A p l e R s m args below meth c H1 locs1 cells slots ls1 Q hCX
  obtain ⟨hM, hx, hb, hml, hown, hts, hSX, hd1, hd2, hc1, hc2⟩ := hCX
  have hdg := hdg0 hM
  simp only [nxt, li2] at hs
  split at hs
  · cases hs
    exact lv_lushr hx hb hdg rfl (go H locs ls hP hR hS hL hoL (fun v hw => by rcases List.mem_cons.mp hw with rfl | hw <;> first | trivial | exact hoS v (List.mem_cons_of_mem _ (List.mem_cons_of_mem _ hw))) hQ)
  · cases hs
set_option maxHeartbeats 1000000 in
theorem sim_ineg  : Sim (.ineg) := by
  intro d M pc pc2 L S L2 S2 σ σ2 Post C hdg0 hs hC k G A p l e R s m args below meth c H locs cells slots ls Q hCX hP hR hS hL hoL hoS hQ
  have go := fun (H1 : Heap) (locs1 : List Loc) (ls1 : Array Slot) => k G A p l e R s m args below meth c H1 locs1 cells slots ls1 Q hCX
  obtain ⟨hM, hx, hb, hml, hown, hts, hSX, hd1, hd2, hc1, hc2⟩ := hCX
  have hdg := hdg0 hM
  simp only [nxt] at hs
  split at hs
  · cases hs
    exact lv_ineg hx hb hdg (go H locs ls hP hR hS hL hoL (fun v hw => by rcases List.mem_cons.mp hw with rfl | hw <;> first | trivial | exact hoS v (List.mem_cons_of_mem _ hw)) hQ)
  · cases hs
set_option maxHeartbeats 1000000 in
theorem sim_lneg  : Sim (.lneg) := by
  intro d M pc pc2 L S L2 S2 σ σ2 Post C hdg0 hs hC k G A p l e R s m args below meth c H locs cells slots ls Q hCX hP hR hS hL hoL hoS hQ
  have go := fun (H1 : Heap) (locs1 : List Loc) (ls1 : Array Slot) => k G A p l e R s m args below meth c H1 locs1 cells slots ls1 Q hCX
  obtain ⟨hM, hx, hb, hml, hown, hts, hSX, hd1, hd2, hc1, hc2⟩ := hCX
  have hdg := hdg0 hM
  simp only [nxt] at hs
  split at hs
  · cases hs
    exact lv_lneg hx hb hdg (go H locs ls hP hR hS hL hoL (fun v hw => by rcases List.mem_cons.mp hw with rfl | hw <;> first | trivial | exact hoS v (List.mem_cons_of_mem _ hw)) hQ)
  · cases hs
set_option maxHeartbeats 1000000 in
theorem sim_i2l  : Sim (.i2l) := by
  intro d M pc pc2 L S L2 S2 σ σ2 Post C hdg0 hs hC k G A p l e R s m args below meth c H locs cells slots ls Q hCX hP hR hS hL hoL hoS hQ
  have go := fun (H1 : Heap) (locs1 : List Loc) (ls1 : Array Slot) => k G A p l e R s m args below meth c H1 locs1 cells slots ls1 Q hCX
  obtain ⟨hM, hx, hb, hml, hown, hts, hSX, hd1, hd2, hc1, hc2⟩ := hCX
  have hdg := hdg0 hM
  simp only [nxt] at hs
  split at hs
  · cases hs
    exact lv_i2l hx hb hdg rfl (go H locs ls hP hR hS hL hoL (fun v hw => by rcases List.mem_cons.mp hw with rfl | hw <;> first | trivial | exact hoS v (List.mem_cons_of_mem _ hw)) hQ)
  · cases hs
set_option maxHeartbeats 1000000 in
theorem sim_lcmp  : Sim (.lcmp) := by
  intro d M pc pc2 L S L2 S2 σ σ2 Post C hdg0 hs hC k G A p l e R s m args below meth c H locs cells slots ls Q hCX hP hR hS hL hoL hoS hQ
  have go := fun (H1 : Heap) (locs1 : List Loc) (ls1 : Array Slot) => k G A p l e R s m args below meth c H1 locs1 cells slots ls1 Q hCX
  obtain ⟨hM, hx, hb, hml, hown, hts, hSX, hd1, hd2, hc1, hc2⟩ := hCX
  have hdg := hdg0 hM
  simp only [nxt] at hs
  split at hs
  · cases hs
    exact W.lcmp hx hb hdg (go H locs ls hP hR hS hL hoL (fun v hw => by rcases List.mem_cons.mp hw with rfl | hw <;> first | trivial | exact hoS v (List.mem_cons_of_mem _ (List.mem_cons_of_mem _ hw))) hQ)
  · cases hs
set_option maxHeartbeats 1000000 in
theorem sim_idiv  : Sim (.idiv) := by
  intro d M pc pc2 L S L2 S2 σ σ2 Post C hdg0 hs hC k G A p l e R s m args below meth c H locs cells slots ls Q hCX hP hR hS hL hoL hoS hQ
  have go := fun (H1 : Heap) (locs1 : List Loc) (ls1 : Array Slot) => k G A p l e R s m args below meth c H1 locs1 cells slots ls1 Q hCX
  obtain ⟨hM, hx, hb, hml, hown, hts, hSX, hd1, hd2, hc1, hc2⟩ := hCX
  have hdg := hdg0 hM
  simp only [nxt] at hs
  split at hs
  · cases hs
    exact lv_idiv hx hb hdg hC.1 (go H locs ls hP hR hS hL hoL (fun v hw => by rcases List.mem_cons.mp hw with rfl | hw <;> first | trivial | exact hoS v (List.mem_cons_of_mem _ (List.mem_cons_of_mem _ hw))) hQ)
  · cases hs
set_option maxHeartbeats 1000000 in
theorem sim_dup  : Sim (.dup) := by
  intro d M pc pc2 L S L2 S2 σ σ2 Post C hdg0 hs hC k G A p l e R s m args below meth c H locs cells slots ls Q hCX hP hR hS hL hoL hoS hQ
  have go := fun (H1 : Heap) (locs1 : List Loc) (ls1 : Array Slot) => k G A p l e R s m args below meth c H1 locs1 cells slots ls1 Q hCX
  obtain ⟨hM, hx, hb, hml, hown, hts, hSX, hd1, hd2, hc1, hc2⟩ := hCX
  have hdg := hdg0 hM
  simp only [nxt] at hs
  split at hs
  · cases hs
    exact lv_dup hx hb hdg rfl (go H locs ls hP hR hS hL hoL (fun v hw => by rcases List.mem_cons.mp hw with rfl | hw <;> first | trivial | exact hoS v hw) hQ)
  · cases hs
    exact lv_dup hx hb hdg rfl (go H locs ls hP hR hS hL hoL (fun v hw => by rcases List.mem_cons.mp hw with rfl | hw <;> first | exact hoS _ List.mem_cons_self | exact hoS v hw) hQ)
  · cases hs
set_option maxHeartbeats 1000000 in
theorem sim_dup2  : Sim (.dup2) := by
  intro d M pc pc2 L S L2 S2 σ σ2 Post C hdg0 hs hC k G A p l e R s m args below meth c H locs cells slots ls Q hCX hP hR hS hL hoL hoS hQ
  have go := fun (H1 : Heap) (locs1 : List Loc) (ls1 : Array Slot) => k G A p l e R s m args below meth c H1 locs1 cells slots ls1 Q hCX
  obtain ⟨hM, hx, hb, hml, hown, hts, hSX, hd1, hd2, hc1, hc2⟩ := hCX
  have hdg := hdg0 hM
  simp only [nxt] at hs
  split at hs
  · cases hs
    refine lv_dup2_11 hx hb hdg rfl rfl (go H locs ls hP hR hS hL hoL (fun v hw => ?_) hQ)
    rcases List.mem_cons.mp hw with rfl | hw
    · trivial
    rcases List.mem_cons.mp hw with rfl | hw
    · exact hoS _ (List.mem_cons_of_mem _ List.mem_cons_self)
    exact hoS v hw
  · cases hs
set_option maxHeartbeats 1000000 in
theorem sim_goto (o : Int) : Sim (.goto o) := by
  intro d M pc pc2 L S L2 S2 σ σ2 Post C hdg0 hs hC k G A p l e R s m args below meth c H locs cells slots ls Q hCX hP hR hS hL hoL hoS hQ
  have go := fun (H1 : Heap) (locs1 : List Loc) (ls1 : Array Slot) => k G A p l e R s m args below meth c H1 locs1 cells slots ls1 Q hCX
  obtain ⟨hM, hx, hb, hml, hown, hts, hSX, hd1, hd2, hc1, hc2⟩ := hCX
  have hdg := hdg0 hM
  simp only [nxt] at hs
  split at hs
  · next ho =>
    cases hs
    have h0 : (0 : Int) ≤ (pc : Int) + o := by simpa [okT] using ho
    exact lv_goto hx hb hdg (show (pc : Int) + o = ((tgt pc o : Nat) : Int) by unfold tgt; omega) (go H locs ls hP hR hS hL hoL hoS hQ)
  · cases hs
set_option maxHeartbeats 1000000 in
theorem sim_ldc2_w (q : Nat) : Sim (.ldc2_w q) := by
  intro d M pc pc2 L S L2 S2 σ σ2 Post C hdg0 hs hC k G A p l e R s m args below meth c H locs cells slots ls Q hCX hP hR hS hL hoL hoS hQ
  have go := fun (H1 : Heap) (locs1 : List Loc) (ls1 : Array Slot) => k G A p l e R s m args below meth c H1 locs1 cells slots ls1 Q hCX
  obtain ⟨hM, hx, hb, hml, hown, hts, hSX, hd1, hd2, hc1, hc2⟩ := hCX
  have hdg := hdg0 hM
  simp only [nxt] at hs
  split at hs
  · next v hv =>
    cases hs
    have hw : Cond.constantLong (cn M.own) q v ∈ TT := lcon_w hv
    exact lv_ldc2 hx hb hown (hts _ hw) hdg (go H locs ls hP hR hS hL hoL (fun v hv => by rcases List.mem_cons.mp hv with rfl | hv <;> first | trivial | exact hoS v hv) hQ)
  · cases hs
set_option maxHeartbeats 1000000 in
theorem sim_ldc_w (q : Nat) : Sim (.ldc_w q) := by
  intro d M pc pc2 L S L2 S2 σ σ2 Post C hdg0 hs hC k G A p l e R s m args below meth c H locs cells slots ls Q hCX hP hR hS hL hoL hoS hQ
  have go := fun (H1 : Heap) (locs1 : List Loc) (ls1 : Array Slot) => k G A p l e R s m args below meth c H1 locs1 cells slots ls1 Q hCX
  obtain ⟨hM, hx, hb, hml, hown, hts, hSX, hd1, hd2, hc1, hc2⟩ := hCX
  have hdg := hdg0 hM
  simp only [nxt] at hs
  split at hs
  · next v hv =>
    cases hs
    have hw : Cond.constant (cn M.own) q v ∈ TT := icon_w hv
    exact lv_ldcw hx hb hown (hts _ hw) hdg (go H locs ls hP hR hS hL hoL (fun v hv => by rcases List.mem_cons.mp hv with rfl | hv <;> first | trivial | exact hoS v hv) hQ)
  · cases hs
