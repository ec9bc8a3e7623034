/-! a method's contract out of its walk; calls -/
theorem lvl_U (G : GX) : ∀ (k i : Nat), lvl G i (List.replicate k vU) = [] := by
  intro k
  induction k with
  | zero => intro i; rfl
  | succ k ih => intro i; exact ih (i + 1)
def sl2 (v : AV) : List AV := match v with
  | .inr (.inl x) => [vJ x, vU]
  | v => [v]
theorem ent_eq (n : Nat) (vs : List AV) : ent n vs = vs.flatMap sl2 ++ List.replicate (n - (vs.flatMap sl2).length) vU := rfl
theorem lvl_ent {G : GX} {k : Nat} : ∀ (vs : List AV) (i : Nat) (q : Nat × Value), q ∈ lvl G i (vs.flatMap sl2 ++ List.replicate k vU) → q ∈ lv_args i (vs.map (cv G)) := by
  intro vs
  induction vs with
  | nil =>
    intro i q h
    simp only [List.flatMap_nil, List.nil_append, lvl_U] at h
    cases h
  | cons v vs ih =>
    intro i q h
    obtain x | x | ⟨a, b⟩ | x := v
    · rcases List.mem_cons.mp h with rfl | h
      · exact List.mem_cons_self
      · exact List.mem_cons_of_mem _ (ih (i + 1) q h)
    · rcases List.mem_cons.mp h with rfl | h
      · exact List.mem_cons_self
      · exact List.mem_cons_of_mem _ (ih (i + 1 + 1) q h)
    · rcases List.mem_cons.mp h with rfl | h
      · exact List.mem_cons_self
      · exact List.mem_cons_of_mem _ (ih (i + 1) q h)
    · exact List.mem_cons_of_mem _ (ih (i + 1) q h)
theorem sl_len (G : GX) (vs : List AV) : (lg_sl (vs.map (cv G))).length = (vs.flatMap sl2).length := by
  induction vs with
  | nil => rfl
  | cons v vs ih =>
    have e1 : lg_sl ((v :: vs).map (cv G)) = (if (cv G v).category = 2 then [Slot.val (cv G v), .second] else [.val (cv G v)]) ++ lg_sl (vs.map (cv G)) := rfl
    have e2 : (v :: vs).flatMap sl2 = sl2 v ++ vs.flatMap sl2 := rfl
    rw [e1, e2, List.length_append, List.length_append, ih]
    congr 1
    obtain x | x | ⟨a, b⟩ | x := v <;> rfl
theorem okV_ent {n : Nat} {vs : List AV} (h : ∀ v ∈ vs, okV v) : ∀ v ∈ ent n vs, okV v := by
  intro v hv
  rw [ent_eq] at hv
  rcases List.mem_append.mp hv with hv | hv
  · obtain ⟨w, hw, hv⟩ := List.mem_flatMap.mp hv
    have h1 := h w hw
    obtain x | x | ⟨a, b⟩ | x := w
    · simp only [sl2, List.mem_singleton] at hv; rw [hv]; trivial
    · simp only [sl2, List.mem_cons, List.not_mem_nil, or_false] at hv; rcases hv with rfl | rfl <;> trivial
    · simp only [sl2, List.mem_singleton] at hv; rw [hv]; exact h1
    · simp only [sl2, List.mem_singleton] at hv; rw [hv]; trivial
  · rw [List.eq_of_mem_replicate hv]; trivial
set_option maxHeartbeats 400000 in
theorem MM.of {d : Nat} {M : MI} {vs : List AV} {σ : Mem} {Post : Option AV → Mem → Prop} (hM : OkM M) (hlen : (ent M.maxL vs).length = M.maxL) (h : WS d M 0 (ent M.maxL vs) [] σ Post) : MM d M vs σ Post := by
  intro l G A hvs
  refine Met.ofW (cc := M.bytes) (maxL := M.maxL) (ret := M.ret) hM.2.2.1 rfl ?_
  intro p e s m args below meth c s₁ B hml hv
  obtain ⟨rfl, ⟨hP, hR⟩, hSX⟩ := hv
  have hx := B.exec
  have hb := B.bytes
  have hr := B.returns
  have hts := atoms_spec (ws := Cond.code M.y M.bytes M.maxL M.ret :: TT) B.pre
  have hown : s.vm.findClass M.y.cls = some m.cls := findClass_of_methodNamed B.named
  have hlocks := B.notSynchronized
  rw [hM.2.2.2.1] at hown
  have hle : (vs.flatMap sl2).length ≤ M.maxL := by
    rw [ent_eq, List.length_append, List.length_replicate] at hlen
    omega
  have hl := lv_entry (vs.map (cv G)) (n := M.maxL) (by rw [sl_len]; exact hle)
  rw [lg_entry_eq]
  generalize (lg_sl (vs.map (cv G)) ++ List.replicate (M.maxL - (lg_sl (vs.map (cv G))).length) Slot.unset).toArray = ls at hl ⊢
  have hLH : LH G ls M.maxL (ent M.maxL vs) := ⟨hlen, hl.1, hl.2.1, fun q hq => hl.2.2 q (lvl_ent vs 0 q (by rw [ent_eq] at hq; exact hq))⟩
  refine h G A p l e (rmD d) s m (vs.map (cv G)).toArray below meth c s.heap [] 0 0 ls _ ⟨hM.1, hx, hb, hml, hown, fun w hw => hts w (List.mem_cons_of_mem _ hw), hSX, Nat.le_refl _, Nat.le_refl _, Nat.le_refl _, Nat.le_refl _⟩ hP hR va_S.rf hLH (okV_ent hvs) (fun v hv => by cases hv) ?_
  intro H' locs' ls' pc' v σ' hp ho hP' hR' hS'
  match v, ho with
  | some (.inl x), ⟨ty, h1, h2, h3, h4⟩ =>
    rw [h1] at hr
    refine W.zret hx hb hr h3 (fun t ht hW => ?_) hS'.2.2 h4
    have e : QR M Post G A = va_Qi (fun (r : Int32) (σ' : Mem) => Post (some (vI r)) σ') (fun σ' t => Wld G A σ' t) A := by
      unfold QR
      rw [h1]
      cases ty <;> first | rfl | exact absurd rfl h2
    rw [e]
    exact ⟨⟨x, σ', rfl, hp, by rw [ht]; exact hP', hR'⟩, hS'.F ht⟩
  | some (.inr (.inl x)), ⟨h1, h4⟩ =>
    rw [h1] at hr
    refine W.lret hx hb hr (fun t ht hW => ?_) hS'.2.2 h4
    have e : QR M Post G A = va_Ql (fun (r : Int64) (σ' : Mem) => Post (some (vJ r)) σ') (fun σ' t => Wld G A σ' t) A := by
      unfold QR
      rw [h1]
    rw [e]
    exact ⟨⟨x, σ', rfl, hp, by rw [ht]; exact hP', hR'⟩, hS'.F ht⟩
  | none, ⟨h1, h4⟩ =>
    rw [h1] at hr
    refine W.vret hx hb hr (fun t ht hW => ?_) hS'.2.2 h4
    have e : QR M Post G A = va_Qv (fun σ' : Mem => Post none σ') (fun σ' t => Wld G A σ' t) A := by
      unfold QR
      rw [h1]
    rw [e]
    exact ⟨⟨σ', rfl, hp, by rw [ht]; exact hP', hR'⟩, hS'.F ht⟩
theorem QR_cases (M : MI) (Post : Option AV → Mem → Prop) (G : GX) (A : Nat → Prop) : QR M Post G A = va_Qv (fun σ' : Mem => Post none σ') (fun σ' t => Wld G A σ' t) A ∨ QR M Post G A = va_Ql (fun (r : Int64) (σ' : Mem) => Post (some (vJ r)) σ') (fun σ' t => Wld G A σ' t) A ∨ QR M Post G A = va_Qi (fun (r : Int32) (σ' : Mem) => Post (some (vI r)) σ') (fun σ' t => Wld G A σ' t) A := by
  unfold QR
  cases M.ret with
  | none => exact Or.inl rfl
  | some ty => cases ty <;> first | exact Or.inr (Or.inl rfl) | exact Or.inr (Or.inr rfl)
theorem TT_good {w : Cond} (h : w ∈ TT) : (w.onTables && w.keeps) = true ∨ ∃ ty, w = .arrayClass ty := good_of_word (List.mem_filter.mp h).2
theorem TT_in {M : MI} (hM : OkM M) : GoodIn TT (Cond.code M.y M.bytes M.maxL M.ret :: TT) := by
  intro w hw
  rcases List.mem_cons.mp hw with rfl | hw
  · exact ⟨hM.2.1, TT_good hM.2.1⟩
  · exact ⟨hw, TT_good hw⟩
def avc (v : AV) : Nat := match v with
  | .inr (.inl _) => 2
  | _ => 1
theorem avc_sum (G : GX) (S : List AV) : ((S.map (cv G)).map fun v => v.category).sum = (S.map avc).sum := by
  rw [List.map_map]
  congr 1
  apply List.map_congr_left
  intro v _
  obtain x | x | ⟨a, b⟩ | x := v <;> rfl
/-- the links of a call -/
def Lk (own idx : Nat) (M2 : MI) (n : Nat) : Prop := OkM M2 ∧ (Cond.methodLinkNest (cn own) idx M2.y "TouchMap" ∈ NN ∨ Cond.methodLink (cn own) idx M2.y ∈ TT) ∧ (parseMethodDescriptor M2.y.desc).map (fun d => d.parameters.length) = some n ∧ M2.maxL ≤ 40
def LkV (own idx : Nat) (M2 : MI) (n : Nat) : Prop := Lk own idx M2 n ∧ Cond.instanceMethod M2.y ∈ TT ∧ Cond.selects M2.y.cls M2.y M2.y ∈ TT
def LkS (own idx : Nat) (M2 : MI) (n : Nat) : Prop := Lk own idx M2 n ∧ Cond.static M2.y ∈ TT
def isO (k c : Nat) : Bool := match LT[k]? with
  | some (_, .inl (c2, _)) => c2 == c
  | _ => false
theorem pre_blind {vs : List AV} {σ : Mem} {G : GX} {A : Nat → Prop} : FrameBlind (va_Pc (vs.map (cv G)) (fun U => Wld G A σ U ∧ SX G A U)) := fun a U g mk q => ⟨q.1, q.2.1, q.2.2.blind⟩
set_option maxHeartbeats 800000 in
theorem WS.callV {d : Nat} {M : MI} {pc idx n k i : Nat} {L rest as : List AV} {S : List AV} {σ : Mem} {Post : Option AV → Mem → Prop} (M2 : MI) (hf : fet M.tab pc = some (.invokevirtual idx, 3)) (hlk : LkV M.own idx M2 n) (hk : isO k M2.own = true) (hS0 : S = as.reverse ++ vR k i :: rest) (hn : as.length = n) (hw : (rest.map avc).sum ≤ 8)
    (hm : MM d M2 (vR k i :: as) σ (fun r σ' => WS (d + 1) M (pc + 3) L (r.toList ++ rest) σ' Post)) : WS (d + 1) M pc L S σ Post := by
  subst hS0
  intro G A p l e R s m args below meth c H locs cells slots ls Q hCX hP hR hS hL hoL hoS hQ
  have hCX0 := hCX
  obtain ⟨hM, hx, hb, hml, hown, hts, hSX, hd1, hd2, hc1, hc2⟩ := hCX
  obtain ⟨⟨hM2, hlink, hpar, hmx⟩, hinst, hsel⟩ := hlk
  have hdg := hM.dec hf
  have hov : ∀ v ∈ vR k i :: as, okV v := fun v hv => by
    rcases List.mem_cons.mp hv with rfl | hv
    · exact hoS _ (List.mem_append_right _ List.mem_cons_self)
    · exact hoS _ (List.mem_append_left _ (List.mem_reverse.mpr hv))
  have hor : ∀ v ∈ rest, okV v := fun v hv => hoS _ (List.mem_append_right _ (List.mem_cons_of_mem _ hv))
  have hmet := hm l G A hov
  have hkk : ∃ (nn : Nat) (fs : List (Option Nat)), LT[k]? = some (nn, .inl (M2.own, fs)) := by
    unfold isO at hk
    split at hk
    · next nn c2 fs h => exact ⟨nn, fs, by rw [h, show c2 = M2.own by simpa using hk]⟩
    · cases hk
  obtain ⟨nn, fs, hkl⟩ := hkk
  have hk85 : k < 85 := LT_obj hkl
  have hik : i < cnt k := okR_lt (hov _ List.mem_cons_self) hk85
  obtain ⟨q, hq1, hq2⟩ := ws_get G σ hk85 hik
  rw [cel_obj hkl] at hq2
  have hcl : ∃ r : vw_C, classes[M2.own]? = some r ∧ r.1 = cn M2.own := by
    have h1 := hP q _ hq2
    obtain ⟨r, h2, -⟩ := h1
    refine ⟨r, h2, ?_⟩
    have h3 : ∀ c, c < 12 → ∀ r, classes[c]? = some r → r.1 = cn c := by
      intro c hc r hr
      match c, hc, hr with
      | 0, _, hr => cases hr; rfl
      | 1, _, hr => cases hr; rfl
      | 2, _, hr => cases hr; rfl
      | 3, _, hr => cases hr; rfl
      | 4, _, hr => cases hr; rfl
      | 5, _, hr => cases hr; rfl
      | 6, _, hr => cases hr; rfl
      | 7, _, hr => cases hr; rfl
      | 8, _, hr => cases hr; rfl
      | 9, _, hr => cases hr; rfl
      | 10, _, hr => cases hr; rfl
      | 11, _, hr => cases hr; rfl
    exact h3 _ ((List.getElem?_eq_some_iff.mp h2).1) r h2
  obtain ⟨r, hr1, hr2⟩ := hcl
  have hrecv := va_recv hSX.1 hP hr1 hq2
  rw [hr2, ← hM2.2.2.2.1] at hrecv
  have hpre : PreV s H M2.y.cls (G.ad k i) (va_Pc ((vR k i :: as).map (cv G)) (fun U => Wld G A σ U ∧ SX G A U)) (as.map (cv G)) := ⟨pre_blind, hrecv, fun U hU hW => ⟨rfl, ⟨by rw [hU]; exact hP, hR⟩, hSX.go hS hU hW⟩⟩
  have hst : (as.reverse ++ vR k i :: rest).map (cv G) = (as.map (cv G)).reverse ++ .ref (G.ad k i) :: rest.map (cv G) := by simp [cv]
  have hwd : 2 * (F0 m pc ls ((as.reverse ++ vR k i :: rest).map (cv G))).monitorRoom + ((rest.map (cv G)).map fun v => v.category).sum ≤ 8 := by
    have e : (F0 m pc ls ((as.reverse ++ vR k i :: rest).map (cv G))).monitorRoom = 0 := rfl
    rw [e, avc_sum]
    omega
  have hrm : (rmD d).frames + 1 ≤ R.frames ∧ 8 + (M2.maxL + 11) + (rmD d).locals ≤ R.locals := by
    unfold rmD
    dsimp only
    omega
  have hdesc : M2.y.cls ≠ "java/lang/invoke/MethodHandle" ∧ M2.y.cls ≠ "java/lang/invoke/VarHandle" ∧ (parseMethodDescriptor M2.y.desc).map (fun d => d.parameters.length) = some n := ⟨hM2.2.2.2.2.2.1, hM2.2.2.2.2.2.2, hpar⟩
  have hrun : va_Run p l e R s m args below meth c H locs cells slots 0 0 (F0 m pc ls ((as.reverse ++ vR k i :: rest).map (cv G))) (rest.map (cv G)) (QR M2 (fun r σ' => WS (d + 1) M (pc + 3) L (r.toList ++ rest) σ' Post) G A (Value.ref (G.ad k i) :: as.map (cv G)).toArray) A := by
    rcases hlink with hlink | hlink
    · exact va_runVN ⟨hx, hb, hml, hown, hts⟩ hmet ⟨va_cnB n hts (TT_in hM2) rfl rfl rfl (hSX.2.1 _ hlink) (hts _ hM2.2.2.2.2.1) hdesc hrm, hts _ hinst, hts _ hsel⟩ hpre rfl (by rw [List.length_map]; exact hn) hL.2.1 hst hwd hdg ⟨hc1, hc2⟩
    · exact va_runV ⟨hx, hb, hml, hown, hts⟩ hmet ⟨callB_of n hts (TT_in hM2) rfl rfl rfl (hts _ hM2.2.2.2.2.1) (hts _ hlink) hdesc hrm, hts _ hinst, hts _ hsel⟩ hpre rfl (by rw [List.length_map]; exact hn) hL.2.1 hst hwd hdg ⟨hc1, hc2⟩
  have hon : ∀ r : Option AV, (∀ v, r = some v → okV v) → ∀ v ∈ r.toList ++ rest, okV v := fun r h v hv => by
    rcases List.mem_append.mp hv with hv | hv
    · cases r with
      | none => cases hv
      | some z => simp only [Option.toList_some, List.mem_singleton] at hv; exact h v (by rw [hv])
    · exact hor v hv
  have go := fun (r : Option AV) (σ' : Mem) (h : WS (d + 1) M (pc + 3) L (r.toList ++ rest) σ' Post) (H1 : Heap) (locs1 : List Loc) (hr : ∀ v, r = some v → okV v) (h1 : va_P G.D classes (wsW G σ') H1) (h2 : ROM G σ') (h3 : va_S A s.heap H1 locs1) => h G A p l e R s m args below meth c H1 locs1 cells slots ls Q hCX0 h1 h2 h3 hL hoL (hon r hr) hQ
  rcases QR_cases M2 (fun r σ' => WS (d + 1) M (pc + 3) L (r.toList ++ rest) σ' Post) G A with eq | eq | eq
  all_goals rw [eq] at hrun
  · refine va_callv hrun hS (fun q _ h => h) (fun q h => h) (fun u t H1 locs1 ht hvm hw hB hz1 hk1 hS1 => ?_)
    exact go none u hw H1 locs1 (fun v h => by cases h) (by rw [← ht]; exact hB.1) hB.2 hS1
  · refine va_calll hrun hS (fun q _ h => h) (fun q h => h) (fun r u t H1 locs1 ht hvm hw hB hz1 hk1 hS1 => ?_)
    exact go (some (vJ r)) u hw H1 locs1 (fun v h => by cases h; trivial) (by rw [← ht]; exact hB.1) hB.2 hS1
  · refine va_calli hrun hS (fun q _ h => h) (fun q h => h) (fun r u t H1 locs1 ht hvm hw hB hz1 hk1 hS1 => ?_)
    exact go (some (vI r)) u hw H1 locs1 (fun v h => by cases h; trivial) (by rw [← ht]; exact hB.1) hB.2 hS1
set_option maxHeartbeats 800000 in
theorem WS.callS {d : Nat} {M : MI} {pc idx n : Nat} {L rest as : List AV} {S : List AV} {σ : Mem} {Post : Option AV → Mem → Prop} (M2 : MI) (hf : fet M.tab pc = some (.invokestatic idx, 3)) (hlk : LkS M.own idx M2 n) (hS0 : S = as.reverse ++ rest) (hn : as.length = n) (hw : (rest.map avc).sum ≤ 8)
    (hm : MM d M2 as σ (fun r σ' => WS (d + 1) M (pc + 3) L (r.toList ++ rest) σ' Post)) : WS (d + 1) M pc L S σ Post := by
  subst hS0
  intro G A p l e R s m args below meth c H locs cells slots ls Q hCX hP hR hS hL hoL hoS hQ
  have hCX0 := hCX
  obtain ⟨hM, hx, hb, hml, hown, hts, hSX, hd1, hd2, hc1, hc2⟩ := hCX
  obtain ⟨⟨hM2, hlink, hpar, hmx⟩, hstt⟩ := hlk
  have hdg := hM.dec hf
  have hov : ∀ v ∈ as, okV v := fun v hv => hoS _ (List.mem_append_left _ (List.mem_reverse.mpr hv))
  have hor : ∀ v ∈ rest, okV v := fun v hv => hoS _ (List.mem_append_right _ hv)
  have hmet := hm l G A hov
  have hpre : PreS s H (va_Pc (as.map (cv G)) (fun U => Wld G A σ U ∧ SX G A U)) (as.map (cv G)) := ⟨pre_blind, fun U hU hW => ⟨rfl, ⟨by rw [hU]; exact hP, hR⟩, hSX.go hS hU hW⟩⟩
  have hst : (as.reverse ++ rest).map (cv G) = (as.map (cv G)).reverse ++ rest.map (cv G) := by simp
  have hwd : 2 * (F0 m pc ls ((as.reverse ++ rest).map (cv G))).monitorRoom + ((rest.map (cv G)).map fun v => v.category).sum ≤ 8 := by
    have e : (F0 m pc ls ((as.reverse ++ rest).map (cv G))).monitorRoom = 0 := rfl
    rw [e, avc_sum]
    omega
  have hrm : (rmD d).frames + 1 ≤ R.frames ∧ 8 + (M2.maxL + 11) + (rmD d).locals ≤ R.locals := by
    unfold rmD
    dsimp only
    omega
  have hdesc : M2.y.cls ≠ "java/lang/invoke/MethodHandle" ∧ M2.y.cls ≠ "java/lang/invoke/VarHandle" ∧ (parseMethodDescriptor M2.y.desc).map (fun d => d.parameters.length) = some n := ⟨hM2.2.2.2.2.2.1, hM2.2.2.2.2.2.2, hpar⟩
  have hrun : va_Run p l e R s m args below meth c H locs cells slots 0 0 (F0 m pc ls ((as.reverse ++ rest).map (cv G))) (rest.map (cv G)) (QR M2 (fun r σ' => WS (d + 1) M (pc + 3) L (r.toList ++ rest) σ' Post) G A (as.map (cv G)).toArray) A := by
    rcases hlink with hlink | hlink
    · exact va_runSN ⟨hx, hb, hml, hown, hts⟩ hmet ⟨va_cnB n hts (TT_in hM2) rfl rfl rfl (hSX.2.1 _ hlink) (hts _ hM2.2.2.2.2.1) hdesc hrm, hts _ hstt, trivial⟩ hpre rfl (by rw [List.length_map]; exact hn) hL.2.1 hst hwd hdg ⟨hc1, hc2⟩
    · exact va_runS ⟨hx, hb, hml, hown, hts⟩ hmet ⟨callB_of n hts (TT_in hM2) rfl rfl rfl (hts _ hM2.2.2.2.2.1) (hts _ hlink) hdesc hrm, hts _ hstt⟩ hpre rfl (by rw [List.length_map]; exact hn) hL.2.1 hst hwd hdg ⟨hc1, hc2⟩
  have hon : ∀ r : Option AV, (∀ v, r = some v → okV v) → ∀ v ∈ r.toList ++ rest, okV v := fun r h v hv => by
    rcases List.mem_append.mp hv with hv | hv
    · cases r with
      | none => cases hv
      | some z => simp only [Option.toList_some, List.mem_singleton] at hv; exact h v (by rw [hv])
    · exact hor v hv
  have go := fun (r : Option AV) (σ' : Mem) (h : WS (d + 1) M (pc + 3) L (r.toList ++ rest) σ' Post) (H1 : Heap) (locs1 : List Loc) (hr : ∀ v, r = some v → okV v) (h1 : va_P G.D classes (wsW G σ') H1) (h2 : ROM G σ') (h3 : va_S A s.heap H1 locs1) => h G A p l e R s m args below meth c H1 locs1 cells slots ls Q hCX0 h1 h2 h3 hL hoL (hon r hr) hQ
  rcases QR_cases M2 (fun r σ' => WS (d + 1) M (pc + 3) L (r.toList ++ rest) σ' Post) G A with eq | eq | eq
  all_goals rw [eq] at hrun
  · refine va_callv hrun hS (fun q _ h => h) (fun q h => h) (fun u t H1 locs1 ht hvm hw hB hz1 hk1 hS1 => ?_)
    exact go none u hw H1 locs1 (fun v h => by cases h) (by rw [← ht]; exact hB.1) hB.2 hS1
  · refine va_calll hrun hS (fun q _ h => h) (fun q h => h) (fun r u t H1 locs1 ht hvm hw hB hz1 hk1 hS1 => ?_)
    exact go (some (vJ r)) u hw H1 locs1 (fun v h => by cases h; trivial) (by rw [← ht]; exact hB.1) hB.2 hS1
  · refine va_calli hrun hS (fun q _ h => h) (fun q h => h) (fun r u t H1 locs1 ht hvm hw hB hz1 hk1 hS1 => ?_)
    exact go (some (vI r)) u hw H1 locs1 (fun v h => by cases h; trivial) (by rw [← ht]; exact hB.1) hB.2 hS1
theorem TT_max : Cond.static Lib.Math.max.name ∈ TT ∧ Cond.initialized "java/lang/Math" ∈ TT ∧ Cond.code Lib.Math.max.name Lib.Math.max.code 2 (some .int) ∈ TT := ⟨TT_t (by decide +kernel) rfl, TT_t (by decide +kernel) rfl, TT_t (List.mem_of_getElem? (i := 471) (by decide +kernel)) rfl⟩
set_option maxHeartbeats 400000 in
theorem WS.mmax {d : Nat} {M : MI} {pc idx : Nat} {L rest : List AV} {σ : Mem} {Post : Option AV → Mem → Prop} {x y : Int32} (hf : fet M.tab pc = some (.invokestatic idx, 3)) (hlk : Cond.methodLink (cn M.own) idx Lib.Math.max.name ∈ TT) (hw : (rest.map avc).sum ≤ 8) (hk : WS (d + 1) M (pc + 3) L (vI (if x < y then y else x) :: rest) σ Post) : WS (d + 1) M pc L (vI y :: vI x :: rest) σ Post := by
  intro G A p l e R s m args below meth c H locs cells slots ls Q hCX hP hR hS hL hoL hoS hQ
  have go := hk G A p l e R s m args below meth c H locs cells slots ls Q hCX hP hR hS hL hoL (fun v hv => by
    rcases List.mem_cons.mp hv with rfl | hv
    · trivial
    · exact hoS v (List.mem_cons_of_mem _ (List.mem_cons_of_mem _ hv))) hQ
  obtain ⟨hM, hx, hb, hml, hown, hts, hSX, hd1, hd2, hc1, hc2⟩ := hCX
  exact va_mmax hx hb (hml.trans hL.2.1.symm) hown (hts _ hlk) (hts _ TT_max.1) (hts _ TT_max.2.1) (hts _ TT_max.2.2) (by omega) (by rw [avc_sum]; omega) hc1 hc2 (hM.dec hf) go
theorem TT_min : Cond.static Lib.Math.min.name ∈ TT ∧ Cond.initialized "java/lang/Math" ∈ TT ∧ Cond.code Lib.Math.min.name Lib.Math.min.code 2 (some .int) ∈ TT := ⟨TT_t (by decide +kernel) rfl, TT_t (by decide +kernel) rfl, TT_t (List.mem_of_getElem? (i := 468) (by decide +kernel)) rfl⟩
set_option maxHeartbeats 400000 in
theorem WS.mmin {d : Nat} {M : MI} {pc idx : Nat} {L rest : List AV} {σ : Mem} {Post : Option AV → Mem → Prop} {x y : Int32} (hf : fet M.tab pc = some (.invokestatic idx, 3)) (hlk : Cond.methodLink (cn M.own) idx Lib.Math.min.name ∈ TT) (hw : (rest.map avc).sum ≤ 8) (hk : WS (d + 1) M (pc + 3) L (vI (if y < x then y else x) :: rest) σ Post) : WS (d + 1) M pc L (vI y :: vI x :: rest) σ Post := by
  intro G A p l e R s m args below meth c H locs cells slots ls Q hCX hP hR hS hL hoL hoS hQ
  have go := hk G A p l e R s m args below meth c H locs cells slots ls Q hCX hP hR hS hL hoL (fun v hv => by
    rcases List.mem_cons.mp hv with rfl | hv
    · trivial
    · exact hoS v (List.mem_cons_of_mem _ (List.mem_cons_of_mem _ hv))) hQ
  obtain ⟨hM, hx, hb, hml, hown, hts, hSX, hd1, hd2, hc1, hc2⟩ := hCX
  exact va_mmin hx hb (hml.trans hL.2.1.symm) hown (hts _ hlk) (hts _ TT_min.1) (hts _ TT_min.2.1) (hts _ TT_min.2.2) (by omega) (by rw [avc_sum]; omega) hc1 hc2 (hM.dec hf) go
theorem TT_copy : Cond.native arraycopyName ∈ TT ∧ Cond.static arraycopyName ∈ TT ∧ Cond.initialized "java/lang/System" ∈ TT := ⟨TT_t (by decide +kernel) rfl, TT_t (by decide +kernel) rfl, TT_t (by decide +kernel) rfl⟩
def isI (k n : Nat) : Bool := match LT[k]? with
  | some (_, .inr (0, m, _)) => decide (k < 85) && (m == n)
  | _ => false
theorem isI_use {k n : Nat} (h : isI k n = true) : k < 85 ∧ ∃ a b, LT[k]? = some (a, .inr (0, n, b)) := by
  unfold isI at h
  split at h
  · next a m b h1 =>
    simp only [Bool.and_eq_true, decide_eq_true_eq, beq_iff_eq] at h
    exact ⟨h.1, a, b, by rw [h1, h.2]⟩
  · cases h
theorem cpyW : nativeFrameWords "java/lang/System" "arraycopy" 5 ≤ 30 := by decide +kernel
set_option maxHeartbeats 400000 in
/-- System.arraycopy -/
theorem WS.copy {d : Nat} {M : MI} {pc idx k i k2 i2 n0 n1 : Nat} {L rest : List AV} {σ : Mem} {Post : Option AV → Mem → Prop} {sp dp n : Int32} (hf : fet M.tab pc = some (.invokestatic idx, 3)) (hlk : Cond.methodLink (cn M.own) idx arraycopyName ∈ TT) (hw : (rest.map avc).sum ≤ 8) (hk0 : isI k n0 = true) (hk1 : isI k2 n1 = true) (h1 : ¬ sp < 0) (h2 : ¬ dp < 0) (h3 : ¬ n < 0) (h4 : sp.toNatClampNeg + n.toNatClampNeg ≤ n0) (h5 : dp.toNatClampNeg + n.toNatClampNeg ≤ n1)
    (hk : WS (d + 1) M (pc + 3) L rest (pC σ k i k2 i2 sp.toNatClampNeg dp.toNatClampNeg n.toNatClampNeg) Post) : WS (d + 1) M pc L (vI n :: vI dp :: vR k2 i2 :: vI sp :: vR k i :: rest) σ Post := by
  intro G A p l e R s m args below meth c H locs cells slots ls Q hCX hP hR hS hL hoL hoS hQ
  obtain ⟨ha0, a0, b0, hl0⟩ := isI_use hk0
  obtain ⟨ha1, a1, b1, hl1⟩ := isI_use hk1
  have go := fun (H1 : Heap) (locs1 : List Loc) (h6 : va_P G.D classes (wsW G (pC σ k i k2 i2 sp.toNatClampNeg dp.toNatClampNeg n.toNatClampNeg)) H1) (h7 : va_S A s.heap H1 locs1) => hk G A p l e R s m args below meth c H1 locs1 cells slots ls Q hCX h6 (hR.pC ha1) h7 hL hoL (fun v hv => hoS v (List.mem_cons_of_mem _ (List.mem_cons_of_mem _ (List.mem_cons_of_mem _ (List.mem_cons_of_mem _ (List.mem_cons_of_mem _ hv)))))) hQ
  obtain ⟨hM, hx, hb, hml, hown, hts, hSX, hd1, hd2, hc1, hc2⟩ := hCX
  have ho0 := okR_lt (hoS (vR k i) (List.mem_cons_of_mem _ (List.mem_cons_of_mem _ (List.mem_cons_of_mem _ (List.mem_cons_of_mem _ List.mem_cons_self))))) ha0
  have ho1 := okR_lt (hoS (vR k2 i2) (List.mem_cons_of_mem _ (List.mem_cons_of_mem _ List.mem_cons_self))) ha1
  obtain ⟨q, hq1, hq2⟩ := ws_get G σ ha0 ho0
  obtain ⟨r, hr1, hr2⟩ := ws_get G σ ha1 ho1
  rw [cel_int hl0] at hq2
  rw [cel_int hl1] at hr2
  have hset : (wsW G σ).set r (G.ad k2 i2, .inl (G.ca 0, n1, .inl (va_cpy (gI σ k i) (gI σ k2 i2) sp.toNatClampNeg dp.toNatClampNeg n.toNatClampNeg))) = wsW G (pC σ k i k2 i2 sp.toNatClampNeg dp.toNatClampNeg n.toNatClampNeg) := by
    refine ws_set hr1 ?_ (fun a b h => cel_congr (fun q => ?_) (fun q => rfl))
    · rw [cel_int hl1]
      refine congrArg (fun f => (Sum.inl (G.ca 0, n1, Sum.inl f) : va_E)) ?_
      funext q
      rw [gI_pC]
      unfold va_cpy
      by_cases h : dp.toNatClampNeg ≤ q ∧ q < dp.toNatClampNeg + n.toNatClampNeg
      · rw [if_pos ⟨rfl, rfl, h⟩, if_pos h]
      · rw [if_neg (fun z => h z.2.2), if_neg h]
    · rw [gI_pC, if_neg (fun z => h ⟨z.1, z.2.1⟩)]
  refine va_copyi hx hb (hml.trans hL.2.1.symm) hown (hts _ hlk) (hts _ TT_copy.1) (hts _ TT_copy.2.1) (hts _ TT_copy.2.2) hSX.1 hP (hSX.2.2.1 σ) hS q r 0 0 hq2 hr2 rfl rfl rfl h1 h2 h3 h4 h5 (fun _ _ => rfl) (by omega) (by have := cpyW; rw [avc_sum]; omega) (hM.dec hf) (fun H1 locs1 h6 h7 h8 => ?_)
  rw [hset] at h6
  exact go H1 locs1 h6 h8
