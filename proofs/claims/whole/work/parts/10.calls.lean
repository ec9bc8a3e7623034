/-! blocks, branches, returns, calls -/
theorem OkD.dec {M : MI} (hM : OkD M) {pc n : Nat} {i : Instr} (h : fet M.tab pc = some (i, n)) : decode M.bytes pc = .ok (i, n) := hM (pc, i, n) (fet_mem h)
theorem OkM.dec {M : MI} (hM : OkM M) {pc n : Nat} {i : Instr} (h : fet M.tab pc = some (i, n)) : decode M.bytes pc = .ok (i, n) := hM.1 (pc, i, n) (fet_mem h)
set_option maxHeartbeats 400000 in
theorem WS.nx {d : Nat} {M : MI} {pc pc' n : Nat} {L S L' S' : List AV} {σ σ' : Mem} {Post : Option AV → Mem → Prop} {i : Instr} {C : List Prop} (hf : fet M.tab pc = some (i, n)) (hn : n = ilen i) (hs : nxt M.own i n pc L S σ = some (C, pc', L', S', σ')) (hC : allP C) (k : WS d M pc' L' S' σ' Post) : WS d M pc L S σ Post := by
  subst hn
  have hdg : OkD M → decode M.bytes pc = .ok (i, ilen i) := fun hM => hM.dec hf
  cases i with
  | iconst v1 => exact sim_iconst v1 d M pc pc' L S L' S' σ σ' Post C hdg hs hC k
  | bipush v1 => exact sim_bipush v1 d M pc pc' L S L' S' σ σ' Post C hdg hs hC k
  | sipush v1 => exact sim_sipush v1 d M pc pc' L S L' S' σ σ' Post C hdg hs hC k
  | lconst v1 => exact sim_lconst v1 d M pc pc' L S L' S' σ σ' Post C hdg hs hC k
  | iload_n q1 => exact sim_iload_n q1 d M pc pc' L S L' S' σ σ' Post C hdg hs hC k
  | iload q1 => exact sim_iload q1 d M pc pc' L S L' S' σ σ' Post C hdg hs hC k
  | lload_n q1 => exact sim_lload_n q1 d M pc pc' L S L' S' σ σ' Post C hdg hs hC k
  | lload q1 => exact sim_lload q1 d M pc pc' L S L' S' σ σ' Post C hdg hs hC k
  | aload_n q1 => exact sim_aload_n q1 d M pc pc' L S L' S' σ σ' Post C hdg hs hC k
  | aload q1 => exact sim_aload q1 d M pc pc' L S L' S' σ σ' Post C hdg hs hC k
  | istore_n q1 => exact sim_istore_n q1 d M pc pc' L S L' S' σ σ' Post C hdg hs hC k
  | istore q1 => exact sim_istore q1 d M pc pc' L S L' S' σ σ' Post C hdg hs hC k
  | lstore_n q1 => exact sim_lstore_n q1 d M pc pc' L S L' S' σ σ' Post C hdg hs hC k
  | lstore q1 => exact sim_lstore q1 d M pc pc' L S L' S' σ σ' Post C hdg hs hC k
  | astore_n q1 => exact sim_astore_n q1 d M pc pc' L S L' S' σ σ' Post C hdg hs hC k
  | astore q1 => exact sim_astore q1 d M pc pc' L S L' S' σ σ' Post C hdg hs hC k
  | iinc q1 w1 => exact sim_iinc q1 w1 d M pc pc' L S L' S' σ σ' Post C hdg hs hC k
  | iadd => exact sim_iadd d M pc pc' L S L' S' σ σ' Post C hdg hs hC k
  | isub => exact sim_isub d M pc pc' L S L' S' σ σ' Post C hdg hs hC k
  | imul => exact sim_imul d M pc pc' L S L' S' σ σ' Post C hdg hs hC k
  | iand => exact sim_iand d M pc pc' L S L' S' σ σ' Post C hdg hs hC k
  | ior => exact sim_ior d M pc pc' L S L' S' σ σ' Post C hdg hs hC k
  | ixor => exact sim_ixor d M pc pc' L S L' S' σ σ' Post C hdg hs hC k
  | ishl => exact sim_ishl d M pc pc' L S L' S' σ σ' Post C hdg hs hC k
  | ishr => exact sim_ishr d M pc pc' L S L' S' σ σ' Post C hdg hs hC k
  | iushr => exact sim_iushr d M pc pc' L S L' S' σ σ' Post C hdg hs hC k
  | ladd => exact sim_ladd d M pc pc' L S L' S' σ σ' Post C hdg hs hC k
  | lsub => exact sim_lsub d M pc pc' L S L' S' σ σ' Post C hdg hs hC k
  | lmul => exact sim_lmul d M pc pc' L S L' S' σ σ' Post C hdg hs hC k
  | land => exact sim_land d M pc pc' L S L' S' σ σ' Post C hdg hs hC k
  | lor => exact sim_lor d M pc pc' L S L' S' σ σ' Post C hdg hs hC k
  | lxor => exact sim_lxor d M pc pc' L S L' S' σ σ' Post C hdg hs hC k
  | lshl => exact sim_lshl d M pc pc' L S L' S' σ σ' Post C hdg hs hC k
  | lushr => exact sim_lushr d M pc pc' L S L' S' σ σ' Post C hdg hs hC k
  | ineg => exact sim_ineg d M pc pc' L S L' S' σ σ' Post C hdg hs hC k
  | lneg => exact sim_lneg d M pc pc' L S L' S' σ σ' Post C hdg hs hC k
  | i2l => exact sim_i2l d M pc pc' L S L' S' σ σ' Post C hdg hs hC k
  | lcmp => exact sim_lcmp d M pc pc' L S L' S' σ σ' Post C hdg hs hC k
  | idiv => exact sim_idiv d M pc pc' L S L' S' σ σ' Post C hdg hs hC k
  | dup => exact sim_dup d M pc pc' L S L' S' σ σ' Post C hdg hs hC k
  | dup2 => exact sim_dup2 d M pc pc' L S L' S' σ σ' Post C hdg hs hC k
  | goto o1 => exact sim_goto o1 d M pc pc' L S L' S' σ σ' Post C hdg hs hC k
  | ldc2_w q1 => exact sim_ldc2_w q1 d M pc pc' L S L' S' σ σ' Post C hdg hs hC k
  | ldc_w q1 => exact sim_ldc_w q1 d M pc pc' L S L' S' σ σ' Post C hdg hs hC k
  | getfield idx1 => exact sim_getfield idx1 d M pc pc' L S L' S' σ σ' Post C hdg hs hC k
  | putfield idx1 => exact sim_putfield idx1 d M pc pc' L S L' S' σ σ' Post C hdg hs hC k
  | baload => exact sim_baload d M pc pc' L S L' S' σ σ' Post C hdg hs hC k
  | laload => exact sim_laload d M pc pc' L S L' S' σ σ' Post C hdg hs hC k
  | iaload => exact sim_iaload d M pc pc' L S L' S' σ σ' Post C hdg hs hC k
  | aaload => exact sim_aaload d M pc pc' L S L' S' σ σ' Post C hdg hs hC k
  | iastore => exact sim_iastore d M pc pc' L S L' S' σ σ' Post C hdg hs hC k
  | bastore => exact sim_bastore d M pc pc' L S L' S' σ σ' Post C hdg hs hC k
  | lastore => exact sim_lastore d M pc pc' L S L' S' σ σ' Post C hdg hs hC k
  | arraylength => exact sim_arraylength d M pc pc' L S L' S' σ σ' Post C hdg hs hC k
  | getstatic idx1 => exact sim_getstatic idx1 d M pc pc' L S L' S' σ σ' Post C hdg hs hC k
  | _ => cases (show (none : Option (List Prop × St)) = some (C, pc', L', S', σ') from hs)
theorem allP_app {C D : List Prop} (h : allP (C ++ D)) : allP C ∧ allP D := by
  induction C with
  | nil => exact ⟨trivial, h⟩
  | cons c C ih => exact ⟨⟨h.1, (ih h.2).1⟩, (ih h.2).2⟩
theorem WS.runS {d : Nat} {M : MI} {Post : Option AV → Mem → Prop} : ∀ (n : Nat) (st st' : St) (C : List Prop), runN M n st = some (C, st') → allP C → WS d M st'.1 st'.2.1 st'.2.2.1 st'.2.2.2 Post → WS d M st.1 st.2.1 st.2.2.1 st.2.2.2 Post := by
  intro n
  induction n with
  | zero =>
    intro st st' C h hC k
    cases h
    exact k
  | succ n ih =>
    intro st st' C h hC k
    obtain ⟨pc, L, S, σ⟩ := st
    simp only [runN] at h
    split at h
    · next i len hf =>
      split at h
      · next C1 st1 he hn =>
        split at h
        · next C2 st2 h2 =>
          cases h
          obtain ⟨pc1, L1, S1, σ1⟩ := st1
          exact WS.nx hf (by simpa using he) hn (allP_app hC).1 (ih _ _ _ h2 (allP_app hC).2 k)
        · cases h
      · cases h
    · cases h
/-- a block -/
theorem WS.run {d : Nat} {M : MI} {pc pc' : Nat} {L S L' S' : List AV} {σ σ' : Mem} {Post : Option AV → Mem → Prop} {C : List Prop} (n : Nat) (h : runN M n (pc, L, S, σ) = some (C, pc', L', S', σ')) (hC : allP C) (k : WS d M pc' L' S' σ' Post) : WS d M pc L S σ Post := WS.runS n (pc, L, S, σ) (pc', L', S', σ') C h hC k
def brN (M : MI) (pc : Nat) (S : List AV) : Option (Prop × Nat × Nat × List AV) := match fet M.tab pc with
  | some (i, n) => match n == ilen i with
    | true => brn i n pc S
    | false => none
  | none => none
set_option maxHeartbeats 400000 in
/-- a branch -/
theorem WS.br {d : Nat} {M : MI} {pc a b : Nat} {L S S' : List AV} {σ : Mem} {Post : Option AV → Mem → Prop} {P : Prop} (h : brN M pc S = some (P, a, b, S')) (ka : P → WS d M a L S' σ Post) (kb : ¬ P → WS d M b L S' σ Post) : WS d M pc L S σ Post := by
  intro G A p l e R s m args below meth c H locs cells slots ls Q hCX hP hR hS hL hoL hoS hQ
  have goa := fun (hp : P) => ka hp G A p l e R s m args below meth c H locs cells slots ls Q hCX hP hR hS hL hoL
  have gob := fun (hp : ¬ P) => kb hp G A p l e R s m args below meth c H locs cells slots ls Q hCX hP hR hS hL hoL
  obtain ⟨hM, hx, hb, hml, hown, hts, hSX, hd1, hd2, hc1, hc2⟩ := hCX
  unfold brN at h
  split at h
  · next i n hf =>
    split at h
    · next he =>
      have hn : n = ilen i := by simpa using he
      subst hn
      have hdg : decode M.bytes pc = .ok (i, ilen i) := hM.dec hf
      unfold brn at h
      split at h
      · next cnd off =>
        split at h
        · next x S1 ho =>
          have h0 : (0 : Int) ≤ (pc : Int) + off := by simpa [okT] using ho
          have ht : (pc : Int) + off = ((tgt pc off : Nat) : Int) := by unfold tgt; omega
          have hoS' : ∀ v ∈ S1, okV v := fun v hv => hoS v (List.mem_cons_of_mem _ hv)
          cases cnd <;> cases h
          · exact lv_if_eq hx hb hdg ht (fun q => goa q hoS' hQ) (fun q => gob q hoS' hQ)
          · exact lv_if_ne hx hb hdg ht (fun q => gob q hoS' hQ) (fun q => goa q hoS' hQ)
          · exact lv_if_lt hx hb hdg ht (fun q => goa q hoS' hQ) (fun q => gob q hoS' hQ)
          · exact lv_if_ge hx hb hdg ht (fun q => goa q hoS' hQ) (fun q => gob q hoS' hQ)
          · exact lv_if_gt hx hb hdg ht (fun q => goa q hoS' hQ) (fun q => gob q hoS' hQ)
          · exact lv_if_le hx hb hdg ht (fun q => goa q hoS' hQ) (fun q => gob q hoS' hQ)
        · cases h
      · next cnd off =>
        split at h
        · next y x S1 ho =>
          have h0 : (0 : Int) ≤ (pc : Int) + off := by simpa [okT] using ho
          have ht : (pc : Int) + off = ((tgt pc off : Nat) : Int) := by unfold tgt; omega
          have hoS' : ∀ v ∈ S1, okV v := fun v hv => hoS v (List.mem_cons_of_mem _ (List.mem_cons_of_mem _ hv))
          cases cnd <;> cases h
          · exact lv_icmp_eq hx hb hdg ht (fun q => goa q hoS' hQ) (fun q => gob q hoS' hQ)
          · exact lv_icmp_ne hx hb hdg ht (fun q => gob q hoS' hQ) (fun q => goa q hoS' hQ)
          · exact lv_icmp_lt hx hb hdg ht (fun q => goa q hoS' hQ) (fun q => gob q hoS' hQ)
          · exact lv_icmp_ge hx hb hdg ht (fun q => goa q hoS' hQ) (fun q => gob q hoS' hQ)
          · exact lv_icmp_gt hx hb hdg ht (fun q => goa q hoS' hQ) (fun q => gob q hoS' hQ)
          · exact lv_icmp_le hx hb hdg ht (fun q => goa q hoS' hQ) (fun q => gob q hoS' hQ)
        · cases h
      · cases h
    · cases h
  · cases h
/-- the ends of a method -/
theorem WS.ret {d : Nat} {M : MI} {pc : Nat} {L : List AV} {σ : Mem} {Post : Option AV → Mem → Prop} {x : Int32} {ty : FieldType} (hf : fet M.tab pc = some (.ireturn, 1)) (hr : M.ret = some ty) (hl : ty ≠ .long) (hn : narrow ty (.int x) = .int x) (hp : Post (some (vI x)) σ) : WS d M pc L [vI x] σ Post := by
  intro G A p l e R s m args below meth c H locs cells slots ls Q hCX hP hR hS hL hoL hoS hQ
  exact hQ H locs ls pc (some (vI x)) σ hp ⟨ty, hr, hl, hn, hCX.1.dec hf⟩ hP hR hS
theorem WS.lret {d : Nat} {M : MI} {pc : Nat} {L : List AV} {σ : Mem} {Post : Option AV → Mem → Prop} {x : Int64} (hf : fet M.tab pc = some (.lreturn, 1)) (hr : M.ret = some .long) (hp : Post (some (vJ x)) σ) : WS d M pc L [vJ x] σ Post := by
  intro G A p l e R s m args below meth c H locs cells slots ls Q hCX hP hR hS hL hoL hoS hQ
  exact hQ H locs ls pc (some (vJ x)) σ hp ⟨hr, hCX.1.dec hf⟩ hP hR hS
theorem WS.vret {d : Nat} {M : MI} {pc : Nat} {L : List AV} {σ : Mem} {Post : Option AV → Mem → Prop} (hf : fet M.tab pc = some (.return_, 1)) (hr : M.ret = none) (hp : Post none σ) : WS d M pc L [] σ Post := by
  intro G A p l e R s m args below meth c H locs cells slots ls Q hCX hP hR hS hL hoL hoS hQ
  exact hQ H locs ls pc none σ hp ⟨hr, hCX.1.dec hf⟩ hP hR hS
/-- the locals with which a method begins -/
def ent (n : Nat) (vs : List AV) : List AV := let l := vs.flatMap (fun v => match v with
    | .inr (.inl x) => [vJ x, vU]
    | v => [v])
  l ++ List.replicate (n - l.length) vU
/-- the room of a call of depth d -/
def rmD (d : Nat) : Room := { frames := d, cells := 0, slots := 0, locals := 60 * d }
def Wld (G : GX) (A : Nat → Prop) (σ : Mem) (U : State) : Prop := va_P G.D classes (wsW G σ) U.heap ∧ ROM G σ
def QR (M : MI) (Post : Option AV → Mem → Prop) (G : GX) (A : Nat → Prop) : Array Value → State → Outcome → State → Prop := match M.ret with
  | none => va_Qv (fun σ' : Mem => Post none σ') (fun σ' t => Wld G A σ' t) A
  | some .long => va_Ql (fun (r : Int64) (σ' : Mem) => Post (some (vJ r)) σ') (fun σ' t => Wld G A σ' t) A
  | some _ => va_Qi (fun (r : Int32) (σ' : Mem) => Post (some (vI r)) σ') (fun σ' t => Wld G A σ' t) A
/-- a method's contract -/
def MM (d : Nat) (M : MI) (vs : List AV) (σ : Mem) (Post : Option AV → Mem → Prop) : Prop :=
  ∀ (l : Launch) (G : GX) (A : Nat → Prop), (∀ v ∈ vs, okV v) → Met l M.y (Cond.code M.y M.bytes M.maxL M.ret :: TT) (rmD d) (va_Pc (vs.map (cv G)) (fun U => Wld G A σ U ∧ SX G A U)) (QR M Post G A) 0 0 A
