/-! calls of constructors; the run of the machine -/
theorem SK.go {G : GX} {s U : State} (h : SK G s) (hW : s.WarmedH U.vm) : SK G U := by
  obtain ⟨h1, h2, h3, h4, h5, h6⟩ := h
  refine ⟨va_K.moved hW.alike h1, fun w hw => ?_, h3, va_AO.moved hW.alike h4, va_AO.moved hW.alike h5, va_AO.moved hW.alike h6⟩
  rcases NN_shape hw with ⟨a, i, x, y, rfl⟩ | ⟨a, i, b, n, d, y, rfl⟩
  · exact va_Nw.warmM hW (h2 _ hw)
  · exact va_Nw.warmF hW (h2 _ hw)
theorem SK.blind {G : GX} {U : State} {g : JFrame} {mk : MethodId} {a : Array Value} (h : SK G U) : SK G (U.calling g mk a) := by
  obtain ⟨h1, h2, h3, h4, h5, h6⟩ := h
  refine ⟨va_K.moved (u := U) (U := U.calling g mk a) (Vm.Alike.refl U.vm) h1, fun w hw => ?_, h3, va_AO.moved (u := U) (U := U.calling g mk a) (Vm.Alike.refl U.vm) h4, va_AO.moved (u := U) (U := U.calling g mk a) (Vm.Alike.refl U.vm) h5, va_AO.moved (u := U) (U := U.calling g mk a) (Vm.Alike.refl U.vm) h6⟩
  rcases NN_shape hw with ⟨a, i, x, y, rfl⟩ | ⟨a, i, b, n, d, y, rfl⟩
  · exact va_Nw.same rfl (u := U) rfl (h2 _ hw)
  · exact va_Nw.same rfl (u := U) rfl (h2 _ hw)
def rmK (d u v : Nat) : Room := { frames := d, cells := u, slots := v, locals := 60 * d }
def KW (G : GX) (cs : List KC) (U : State) : Prop := va_P G.D classes (kw G cs) U.heap ∧ U.heap.size = G.ad 0 0 + cs.length
theorem k_blind {vs : List AV} {cs : List KC} {G : GX} : FrameBlind (va_Pc (vs.map (cv G)) (fun U => KW G cs U ∧ SK G U)) := fun a U g mk q => ⟨q.1, q.2.1, q.2.2.blind⟩
set_option maxHeartbeats 400000 in
theorem KR.met {d : Nat} {M : MI} {vs L2 : List AV} {cs cs2 : List KC} {pc2 u v : Nat} (hM : OkM M) (hlen : (ent M.maxL vs).length = M.maxL) (hret : M.ret = none) (hnm : M.y.name = "<init>") (hr2 : fet M.tab pc2 = some (.return_, 1)) (h : KR d M (0, ent M.maxL vs, [], cs) (pc2, L2, [], cs2) u v) : ∀ (l : Launch) (G : GX) (A : Nat → Prop), (∀ q, A q ↔ G.ad 0 0 ≤ q) → Met l M.y (Cond.code M.y M.bytes M.maxL M.ret :: TT) (rmK d u v) (va_Pc (vs.map (cv G)) (fun U => KW G cs U ∧ SK G U)) (va_Qv (fun _ : Unit => True) (fun _ t => KW G cs2 t) A) u v A := by
  intro l G A hA
  refine Met.ofW (cc := M.bytes) (maxL := M.maxL) (ret := M.ret) hM.2.2.1 rfl ?_
  intro p e s m args below meth c s₁ B hml hv
  obtain ⟨rfl, ⟨hP, hz⟩, hSK⟩ := hv
  have hx := B.exec
  have hb := B.bytes
  have hr := B.returns
  have hts := atoms_spec (ws := Cond.code M.y M.bytes M.maxL M.ret :: TT) B.pre
  have hown : s.vm.findClass M.y.cls = some m.cls := findClass_of_methodNamed B.named
  have hlocks := B.notSynchronized
  have hin : meth.name = M.y.name := (name_of_methodNamed B.named B.method).1
  rw [hnm] at hin
  rw [hM.2.2.2.1] at hown
  have hle : (vs.flatMap sl2).length ≤ M.maxL := by
    rw [ent_eq, List.length_append, List.length_replicate] at hlen
    omega
  have hl := lv_entry (vs.map (cv G)) (n := M.maxL) (by rw [sl_len]; exact hle)
  rw [lg_entry_eq]
  generalize (lg_sl (vs.map (cv G)) ++ List.replicate (M.maxL - (lg_sl (vs.map (cv G))).length) Slot.unset).toArray = ls at hl ⊢
  have hLH : LH G ls M.maxL (ent M.maxL vs) := ⟨hlen, hl.1, hl.2.1, fun q hq => hl.2.2 q (lvl_ent vs 0 q (by rw [ent_eq] at hq; exact hq))⟩
  refine h G A p l e (rmK d u v) s m (vs.map (cv G)).toArray below meth c s.heap [] 0 0 ls _ ⟨hM.1, hx, hb, hml, hown, fun w hw => hts w (List.mem_cons_of_mem _ hw), hSK, fun _ => hin, ⟨Nat.le_refl _, Nat.le_refl _⟩, hA, by omega⟩ ⟨hP, va_S.rf, hz⟩ hLH (by rw [Nat.zero_add]; exact Nat.le_refl _) (by rw [Nat.zero_add]; exact Nat.le_refl _) ?_
  intro H' locs' ls' hP' hL'
  rw [hret] at hr
  have hd9 : decode M.bytes pc2 = .ok (.return_, 1) := OkD.dec (M := M) hM.1 hr2
  have key : ∀ (u1 v1 : Nat), u1 = u → v1 = v → W p l e (rmK d u v) s m (vs.map (cv G)).toArray below meth c H' locs' u1 v1 (MQ below (va_Qv (fun _ : Unit => True) (fun _ t => KW G cs2 t) A) (vs.map (cv G)).toArray s u v A) (F0 m pc2 ls' []) := by
    intro u1 v1 e1 e2
    subst e1
    subst e2
    exact W.vret hx hb hr (fun t ht hW => ⟨⟨(), rfl, trivial, by rw [ht]; exact hP'.1, by rw [ht]; exact hP'.2.2⟩, hP'.2.1.F ht⟩) hP'.2.1.2.2 hd9
  exact key (0 + u) (0 + v) (Nat.zero_add u) (Nat.zero_add v)
set_option maxHeartbeats 800000 in
theorem KR.call {d : Nat} {M : MI} {pc idx ci q pc2 u v : Nat} {L L2 as rest : List AV} {cs cs2 : List KC} (hf : fet M.tab pc = some (.invokespecial idx, 3)) (hk : kme M.own idx = some ci) (hn : as.length = ka ci) (hw : (rest.map avc).sum ≤ 8) (hlen : (ent (KM ci).maxL (vR 0 q :: as)).length = (KM ci).maxL) (hr2 : fet (KM ci).tab pc2 = some (.return_, 1)) (h : KR d (KM ci) (0, ent (KM ci).maxL (vR 0 q :: as), [], cs) (pc2, L2, [], cs2) u v) : KR (d + 1) M (pc, L, as.reverse ++ vR 0 q :: rest, cs) (pc + 3, L, rest, cs2) u v := by
  intro G A p l e R s m args below meth c H locs cells slots ls Q hX hP hL hu hv k
  obtain ⟨hM, hx, hb, hml, hown, hts, hSK, hmn, hd, hA, hs0⟩ := hX
  obtain ⟨⟨hM2, hlink, hpar, hmx⟩, hinst, hnm, hret, hon⟩ := kme_w hk
  have hmet := KR.met hM2 hlen hret hnm hr2 h l G A hA
  have hdg := hM.dec hf
  have hpre : PreS s H (va_Pc ((vR 0 q :: as).map (cv G)) (fun U => KW G cs U ∧ SK G U)) (.ref (G.ad 0 q) :: as.map (cv G)) := ⟨k_blind, fun U hU hW => ⟨rfl, ⟨by rw [hU]; exact hP.1, by rw [hU]; exact hP.2.2⟩, hSK.go hW⟩⟩
  have hst : (as.reverse ++ vR 0 q :: rest).map (cv G) = (as.map (cv G)).reverse ++ .ref (G.ad 0 q) :: rest.map (cv G) := by simp [cv]
  have hwd : 2 * (F0 m pc ls ((as.reverse ++ vR 0 q :: rest).map (cv G))).monitorRoom + ((rest.map (cv G)).map fun v => v.category).sum ≤ 8 := by
    have e : (F0 m pc ls ((as.reverse ++ vR 0 q :: rest).map (cv G))).monitorRoom = 0 := rfl
    rw [e, avc_sum]
    omega
  have hrm : (rmK d u v).frames + 1 ≤ R.frames ∧ 8 + ((KM ci).maxL + 11) + (rmK d u v).locals ≤ R.locals := by
    unfold rmK
    dsimp only
    omega
  have hdesc : (KM ci).y.cls ≠ "java/lang/invoke/MethodHandle" ∧ (KM ci).y.cls ≠ "java/lang/invoke/VarHandle" ∧ (parseMethodDescriptor (KM ci).y.desc).map (fun d => d.parameters.length) = some (ka ci) := ⟨hM2.2.2.2.2.2.1, hM2.2.2.2.2.2.2, hpar⟩
  rw [hret] at hmet
  have hgi : GoodIn TT (Cond.code (KM ci).y (KM ci).bytes (KM ci).maxL none :: TT) := by have := TT_in hM2; rw [hret] at this; exact this
  have hrun : va_Run p l e R s m args below meth c H locs cells slots u v (F0 m pc ls ((as.reverse ++ vR 0 q :: rest).map (cv G))) (rest.map (cv G)) (va_Qv (fun _ : Unit => True) (fun _ t => KW G cs2 t) A (Value.ref (G.ad 0 q) :: as.map (cv G)).toArray) A := by
    rcases hlink with hlink | hlink
    · exact va_runIN ⟨hx, hb, hml, hown, hts⟩ hmet ⟨va_cnB (ka ci) hts hgi rfl rfl rfl (hSK.2.1 _ hlink) (hts _ hM2.2.2.2.2.1) hdesc hrm, hnm, hts _ hinst⟩ hpre rfl (by rw [List.length_map]; exact hn) hL.2.1 hst hwd hdg ⟨hu, hv⟩
    · exact va_runI ⟨hx, hb, hml, hown, hts⟩ hmet ⟨callB_of (ka ci) hts hgi rfl rfl rfl (hts _ hM2.2.2.2.2.1) (hts _ hlink) hdesc hrm, hnm, hts _ hinst⟩ hpre rfl (by rw [List.length_map]; exact hn) hL.2.1 hst hwd hdg ⟨hu, hv⟩
  refine va_callv hrun hP.2.1 (fun q _ h => h) (fun q h => h) (fun _ t H1 locs1 ht hvm _ hB hz1 hk1 hS1 => ?_)
  exact k H1 locs1 ls ⟨by rw [← ht]; exact hB.1, hS1, by rw [← ht]; exact hB.2⟩ hL
theorem KR.obj {d : Nat} {M : MI} {pc idx q : Nat} {L rest : List AV} {cs : List KC} (hf : fet M.tab pc = some (.invokespecial idx, 3)) (hk : kob M.own idx = true) (hw : (rest.map avc).sum ≤ 8) : KR (d + 1) M (pc, L, vR 0 q :: rest, cs) (pc + 3, L, rest, cs) 0 0 := by
  intro G A p l e R s m args below meth c H locs cells slots ls Q hX hP hL hu hv k
  obtain ⟨hM, hx, hb, hml, hown, hts, hSK, hmn, hd, hA, hs0⟩ := hX
  refine W.objInit hx hb hown (hts _ (kob_w hk)) (hts _ kob_c.1) (hts _ kob_c.2) rfl (by rw [hml]; exact hL.2.1) rfl (hM.dec hf) (by omega) ?_ (k H locs ls hP hL)
  have e : (F0 m pc ls ((vR 0 q :: rest).map (cv G))).monitorRoom = 0 := rfl
  show 2 * (F0 m pc ls ((vR 0 q :: rest).map (cv G))).monitorRoom + ((rest.map (cv G)).map fun v => v.category).sum + 12 ≤ R.locals
  rw [e, avc_sum]
  omega
/-- one step that is no call -/
def kst (M : MI) (i : Instr) (a : KSt) : Option (KSt × Nat × Nat) := match a with
  | (pc, L, S, cs) => match i with
    | .new idx => match kcl M.own idx with
      | some ci => some ((pc + 3, L, vR 0 cs.length :: S, cs ++ [.inl (ci, kdf ci)]), 1, knf ci)
      | none => none
    | .newarray t => match S with
      | .inl n :: S => match kta t, decide (¬ n < 0 ∧ n.toNatClampNeg ≤ 2000) with
        | some t, true => some ((pc + 2, L, vR 0 cs.length :: S, cs ++ [.inr (t, n.toNatClampNeg, [], [])]), 1, n.toNatClampNeg)
        | _, _ => none
      | _ => none
    | .anewarray idx => match S with
      | .inl n :: S => match kcl M.own idx, decide (¬ n < 0 ∧ n.toNatClampNeg ≤ 2000) with
        | some ci, true => match ktq ci with
          | some t => some ((pc + 3, L, vR 0 cs.length :: S, cs ++ [.inr (t, n.toNatClampNeg, [], [])]), 1, n.toNatClampNeg)
          | none => none
        | _, _ => none
      | _ => none
    | .putfield idx => match S with
      | v :: .inr (.inr (.inl (0, q))) :: S => match fre (FA M.own) idx, cs[q]? with
        | some (c, j, _), some (.inl (c2, fs)) => match decide (c = M.own ∧ c2 = M.own ∧ j < fs.length), kty (tyOf M.own j) v with
          | true, some w => some ((pc + 3, L, S, cs.set q (.inl (M.own, fs.set j w))), 0, 0)
          | _, _ => none
        | _, _ => none
      | _ => none
    | .getfield idx => match S with
      | .inr (.inr (.inl (0, q))) :: S => match fre (FA M.own) idx, cs[q]? with
        | some (c, j, _), some (.inl (c2, fs)) => match decide (c = M.own ∧ c2 = M.own), fs[j]? with
          | true, some (.inr (.inl r)) => some ((pc + 3, L, vR 0 r :: S, cs), 0, 0)
          | _, _ => none
        | _, _ => none
      | _ => none
    | .iastore => match S with
      | .inl x :: .inl j :: .inr (.inr (.inl (0, q))) :: S => match cs[q]? with
        | some (.inr (0, n, us, rs)) => match decide (¬ j < 0 ∧ j.toNatClampNeg < n) with
          | true => some ((pc + 1, L, S, cs.set q (.inr (0, n, (j.toNatClampNeg, x) :: us, rs))), 0, 0)
          | false => none
        | _ => none
      | _ => none
    | .aastore => match S with
      | .inr (.inr (.inl (0, r))) :: .inl j :: .inr (.inr (.inl (0, q))) :: S => match cs[q]?, cs[r]? with
        | some (.inr (t, n, us, rs)), some (.inl (ci, _)) => match kta2 t ci, decide (¬ j < 0 ∧ j.toNatClampNeg < n) with
          | true, true => some ((pc + 1, L, S, cs.set q (.inr (t, n, us, (j.toNatClampNeg, r) :: rs))), 0, 0)
          | _, _ => none
        | _, _ => none
      | _ => none
    | _ => match knx i pc L S with
      | some (pc', L', S') => some ((pc', L', S', cs), 0, 0)
      | none => none
theorem vp_of {j : Int32} {n : Nat} (h : ¬ j < 0 ∧ j.toNatClampNeg < n) : vp_in j n := fun z => by
  rcases z with z | z
  · exact h.1 z
  · omega
def klen : Instr → Nat
  | .new _ | .anewarray _ => 3
  | .newarray _ => 2
  | i => ilen i
theorem kst_ok {d : Nat} {M : MI} {i : Instr} {a b : KSt} {u v : Nat} (hf : fet M.tab a.1 = some (i, klen i)) (h : kst M i a = some (b, u, v)) : KR d M a b u v := by
  obtain ⟨pc, L, S, cs⟩ := a
  have hf : fet M.tab pc = some (i, klen i) := hf
  unfold kst at h
  dsimp only at h
  split at h
  · split at h
    · next hc => cases h; exact KR.new hf hc
    · cases h
  · split at h
    · split at h
      · next t n S1 t2 h1 h2 =>
        cases h
        have h2 := of_decide_eq_true h2
        exact KR.newa hf h1 h2.1 h2.2
      · cases h
    · cases h
  · split at h
    · split at h
      · next n S1 ci h1 h2 =>
        split at h
        · next t ht =>
          cases h
          have h2 := of_decide_eq_true h2
          exact KR.newq hf h1 ht h2.1 h2.2
        · cases h
      · cases h
    · cases h
  · split at h
    · split at h
      · next c j ty c2 fs h1 h2 =>
        split at h
        · next w h3 h4 =>
          cases h
          obtain ⟨rfl, rfl, e3⟩ := of_decide_eq_true h3
          exact KR.put hf h1 h2 e3 h4
        · cases h
      · cases h
    · cases h
  · split at h
    · split at h
      · next c j ty c2 fs h1 h2 =>
        split at h
        · next r h3 h4 =>
          cases h
          obtain ⟨rfl, rfl⟩ := of_decide_eq_true h3
          exact KR.get hf h1 h2 h4
        · cases h
      · cases h
    · cases h
  · split at h
    · split at h
      · next h1 =>
        split at h
        · next h2 => cases h; exact KR.iast hf h1 (vp_of (of_decide_eq_true h2))
        · cases h
      · cases h
    · cases h
  · split at h
    · split at h
      · next h1 h2 =>
        split at h
        · next h3 h4 => cases h; exact KR.aast hf h1 h2 h3 (vp_of (of_decide_eq_true h4))
        · cases h
      · cases h
    · cases h
  · next n1 n2 n3 n4 n5 n6 n7 =>
    split at h
    · next pc' L' S' h1 =>
      cases h
      refine KR.nx (i := i) ?_ h1
      rw [hf]
      unfold klen
      split
      · exact absurd rfl (n1 _)
      · exact absurd rfl (n3 _)
      · exact absurd rfl (n2 _)
      · rfl
    · cases h
