/-! a machine that makes cells, at addresses that follow each other -/
abbrev KV : Type := Int32 ⊕ (Nat ⊕ Unit)
abbrev KC : Type := (Nat × List KV) ⊕ (Nat × Nat × List (Nat × Int32) × List (Nat × Nat))
abbrev KSt : Type := Nat × List AV × List AV × List KC
def kv (G : GX) (v : KV) : Value := match v with
  | .inl x => .int x
  | .inr (.inl n) => .ref (G.ad 0 n)
  | .inr (.inr _) => .null
def lkI : List (Nat × Int32) → Nat → Int32
  | [], _ => 0
  | e :: t, j => if j = e.1 then e.2 else lkI t j
def lkR (G : GX) : List (Nat × Nat) → Nat → Option Nat
  | [], _ => none
  | e :: t, j => if j = e.1 then some (G.ad 0 e.2) else lkR G t j
def kc (G : GX) (c : KC) : va_E := match c with
  | .inl (ci, fs) => .inr (ci, fs.map (kv G))
  | .inr (0, n, us, _) => .inl (G.ca 0, n, .inl (lkI us))
  | .inr (1, n, us, _) => .inl (G.ca 1, n, .inl (lkI us))
  | .inr (2, n, _, _) => .inl (G.ca 2, n, .inr (.inl (fun _ => 0)))
  | .inr (t + 3, n, _, rs) => .inl (G.ca (t + 3), n, .inr (.inr (.inr (.inr (lkR G rs)))))
def kw (G : GX) (cs : List KC) : va_W := cs.mapIdx (fun n c => (G.ad 0 n, kc G c))
theorem kw_get (G : GX) (cs : List KC) (n : Nat) : (kw G cs)[n]? = (cs[n]?).map (fun c => (G.ad 0 n, kc G c)) := by unfold kw; rw [List.getElem?_mapIdx]
theorem kw_app (G : GX) (cs : List KC) (c : KC) : kw G (cs ++ [c]) = kw G cs ++ [(G.ad 0 cs.length, kc G c)] := by unfold kw; rw [List.mapIdx_concat]
theorem kw_set (G : GX) (cs : List KC) (n : Nat) (c : KC) : (kw G cs).set n (G.ad 0 n, kc G c) = kw G (cs.set n c) := by
  refine List.ext_getElem? (fun i => ?_)
  rw [List.getElem?_set, kw_get, kw_get, List.getElem?_set]
  by_cases h : n = i
  · subst h
    rw [if_pos rfl, if_pos rfl]
    have : (kw G cs).length = cs.length := by unfold kw; rw [List.length_mapIdx]
    rw [this]
    by_cases h2 : n < cs.length
    · rw [if_pos h2, if_pos h2]; rfl
    · rw [if_neg h2, if_neg h2]; rfl
  · rw [if_neg h, if_neg h]
def SK (G : GX) (U : State) : Prop := va_K G.D classes (tys G) U ∧ (∀ w ∈ NN, va_Nw w U) ∧ (∀ n, G.ad 0 n = G.ad 0 0 + n) ∧ va_AO "TouchMap$Way" U ∧ va_AO "TouchMap$Name" U ∧ va_AO "TouchMap$Word" U
theorem kD {G : GX} {A : Nat → Prop} (hG : ∀ n, G.ad 0 n = G.ad 0 0 + n) (hA : ∀ q, A q ↔ G.ad 0 0 ≤ q) (cs : List KC) : va_D A (kw G cs) := by
  refine ⟨fun i j p q h1 h2 h3 => ?_, fun k q hk => ?_⟩
  · rw [kw_get] at h1 h2
    cases hc : cs[i]? with
    | none => rw [hc] at h1; cases h1
    | some c1 =>
      cases hd : cs[j]? with
      | none => rw [hd] at h2; cases h2
      | some c2 =>
        rw [hc] at h1; rw [hd] at h2
        cases h1; cases h2
        have := hG i
        have := hG j
        have h3 : G.ad 0 i = G.ad 0 j := h3
        omega
  · rw [kw_get] at hk
    cases hc : cs[k]? with
    | none => rw [hc] at hk; cases hk
    | some c1 =>
      rw [hc] at hk
      cases hk
      rw [hA]
      have := hG k
      show G.ad 0 0 ≤ G.ad 0 k
      omega
def KX (M : MI) (d : Nat) (G : GX) (A : Nat → Prop) (p : Program) (R : Room) (s : State) (m : MethodId) (args : Array Value) (meth : Method) (c : Code) : Prop :=
  OkD M ∧ p.tables.exec = Jvm.exec ∧ c.code = M.bytes ∧ c.maxLocals = M.maxL ∧ s.vm.findClass (cn M.own) = some m.cls ∧ (∀ w ∈ TT, w.before args s = true) ∧ SK G s ∧ (M.own < 12 → meth.name = "<init>") ∧ (d ≤ R.frames ∧ 60 * d ≤ R.locals) ∧ (∀ q, A q ↔ G.ad 0 0 ≤ q) ∧ G.ad 0 0 ≤ s.heap.size
def KP (G : GX) (A : Nat → Prop) (s : State) (cs : List KC) (H : Heap) (locs : List Loc) : Prop := va_P G.D classes (kw G cs) H ∧ va_S A s.heap H locs ∧ H.size = G.ad 0 0 + cs.length
/-- from the one state to the other, with so many new cells and slots -/
def KR (d : Nat) (M : MI) (a b : KSt) (u v : Nat) : Prop :=
  ∀ (G : GX) (A : Nat → Prop) (p : Program) (l : Launch) (e : Env) (R : Room) (s : State) (m : MethodId) (args : Array Value) (below : List Frame) (meth : Method) (c : Code) (H : Heap) (locs : List Loc) (cells slots : Nat) (ls : Array Slot) (Q : State → Prop),
    KX M d G A p R s m args meth c → KP G A s a.2.2.2 H locs → LH G ls M.maxL a.2.1 → cells + u ≤ R.cells → slots + v ≤ R.slots →
    (∀ (H' : Heap) (locs' : List Loc) (ls' : Array Slot), KP G A s b.2.2.2 H' locs' → LH G ls' M.maxL b.2.1 → W p l e R s m args below meth c H' locs' (cells + u) (slots + v) Q (F0 m b.1 ls' (b.2.2.1.map (cv G)))) →
    W p l e R s m args below meth c H locs cells slots Q (F0 m a.1 ls (a.2.2.1.map (cv G)))
theorem KR.rf {d : Nat} {M : MI} {a : KSt} : KR d M a a 0 0 := fun _ _ _ _ _ _ _ _ _ _ _ _ H locs _ _ ls _ _ hP hL _ _ k => k H locs ls hP hL
theorem KR.tr {d : Nat} {M : MI} {a b c : KSt} {u v u2 v2 : Nat} (h : KR d M a b u v) (h2 : KR d M b c u2 v2) : KR d M a c (u + u2) (v + v2) := by
  intro G A p l e R s m args below meth cc H locs cells slots ls Q hX hP hL hu hv k
  refine h G A p l e R s m args below meth cc H locs cells slots ls Q hX hP hL (by omega) (by omega) (fun H1 locs1 ls1 hP1 hL1 => ?_)
  refine h2 G A p l e R s m args below meth cc H1 locs1 (cells + u) (slots + v) ls1 Q hX hP1 hL1 (by omega) (by omega) (fun H2 locs2 ls2 hP2 hL2 => ?_)
  have := k H2 locs2 ls2 hP2 hL2
  rw [← Nat.add_assoc, ← Nat.add_assoc] at this
  exact this
/-- what touches no cell -/
def knx (i : Instr) (pc : Nat) (L S : List AV) : Option (Nat × List AV × List AV) := match i with
  | .iconst v => some (pc + 1, L, vI (Int32.ofInt v) :: S)
  | .bipush v => some (pc + 2, L, vI (Int8.ofInt v).toInt32 :: S)
  | .sipush v => some (pc + 3, L, vI (Int16.ofInt v).toInt32 :: S)
  | .iload_n k => match L[k.val]? with
    | some (.inl x) => some (pc + 1, L, vI x :: S)
    | _ => none
  | .aload_n k => match L[k.val]? with
    | some (.inr (.inr (.inl (a, b)))) => some (pc + 1, L, vR a b :: S)
    | _ => none
  | .istore_n k => match S, L[k.val]? with
    | .inl x :: S, some _ => some (pc + 1, (clr L k.val).set k.val (vI x), S)
    | _, _ => none
  | .astore_n k => match S, L[k.val]? with
    | .inr (.inr (.inl (a, b))) :: S, some _ => some (pc + 1, (clr L k.val).set k.val (vR a b), S)
    | _, _ => none
  | .iinc k v => match L[k]? with
    | some (.inl x) => some (pc + 3, (clr L k).set k (vI (x + Int32.ofInt v)), S)
    | _ => none
  | .iadd => match S with
    | .inl y :: .inl x :: S => some (pc + 1, L, vI (x + y) :: S)
    | _ => none
  | .imul => match S with
    | .inl y :: .inl x :: S => some (pc + 1, L, vI (x * y) :: S)
    | _ => none
  | .dup => match S with
    | .inl x :: S => some (pc + 1, L, vI x :: vI x :: S)
    | .inr (.inr (.inl (a, b))) :: S => some (pc + 1, L, vR a b :: vR a b :: S)
    | _ => none
  | .goto o => match okT pc o with
    | true => some (tgt pc o, L, S)
    | false => none
  | .if_icmp .ge o => match S, okT pc o with
    | .inl y :: .inl x :: S, true => some (if y ≤ x then tgt pc o else pc + 3, L, S)
    | _, _ => none
  | _ => none
set_option maxHeartbeats 1000000 in
theorem KR.nx {d : Nat} {M : MI} {i : Instr} {pc pc' : Nat} {L S L' S' : List AV} {cs : List KC} (hf : fet M.tab pc = some (i, ilen i)) (h : knx i pc L S = some (pc', L', S')) : KR d M (pc, L, S, cs) (pc', L', S', cs) 0 0 := by
  intro G A p l e R s m args below meth c H locs cells slots ls Q hX hP hL _ _ k
  have go := fun (ls1 : Array Slot) (hL1 : LH G ls1 M.maxL L') => k H locs ls1 hP hL1
  obtain ⟨hM, hx, hb, hml, hown, hts, -⟩ := hX
  have hdg := hM.dec hf
  unfold knx at h
  split at h
  · cases h; exact lv_iconst hx hb hdg rfl (go ls hL)
  · cases h; exact lv_bipush hx hb hdg rfl (go ls hL)
  · cases h; exact lv_sipush hx hb hdg rfl (go ls hL)
  · split at h
    · next x hv => cases h; exact lv_iload_n hx hb hdg rfl (hL.get hv (by simp)) (go ls hL)
    · cases h
  · split at h
    · next a b hv => cases h; exact lv_aload_n hx hb hdg rfl (hL.get hv (by simp)) (go ls hL)
    · cases h
  · split at h
    · next hv => cases h; exact lv_istore_n hx hb hdg rfl hL.2 (by rw [← hL.1]; exact (List.getElem?_eq_some_iff.mp hv).1) rfl (fun ls1 h1 => go ls1 (hL.st1 h1))
    · cases h
  · split at h
    · next hv => cases h; exact lv_astore_n hx hb hdg rfl hL.2 (by rw [← hL.1]; exact (List.getElem?_eq_some_iff.mp hv).1) rfl (fun ls1 h1 => go ls1 (hL.st1 h1))
    · cases h
  · next q w =>
    split at h
    · next x hv =>
      cases h
      obtain ⟨j, hj⟩ := List.mem_iff_getElem?.mp (lvl_mem.mpr ⟨q, vI x, hv, (Nat.zero_add q).symm, by simp, rfl⟩ : (q, Value.int x) ∈ lvl G 0 L)
      exact lv_iinc hx hb hdg hL.2 hj rfl (by rw [← hL.1]; exact (List.getElem?_eq_some_iff.mp hv).1) rfl (fun ls1 h1 => go ls1 (hL.st1 h1))
    · cases h
  · split at h
    · cases h; exact lv_iadd hx hb hdg (go ls hL)
    · cases h
  · split at h
    · cases h; exact lv_imul hx hb hdg (go ls hL)
    · cases h
  · split at h
    · cases h; exact lv_dup hx hb hdg rfl (go ls hL)
    · cases h; exact lv_dup hx hb hdg rfl (go ls hL)
    · cases h
  · next o =>
    split at h
    · next ho =>
      cases h
      have h0 : (0 : Int) ≤ (pc : Int) + o := by simpa [okT] using ho
      exact lv_goto hx hb hdg (show (pc : Int) + o = ((tgt pc o : Nat) : Int) by unfold tgt; omega) (go ls hL)
    · cases h
  · next o =>
    split at h
    · next y x S1 ho =>
      have h0 : (0 : Int) ≤ (pc : Int) + o := by simpa [okT] using ho
      have ht : (pc : Int) + o = ((tgt pc o : Nat) : Int) := by unfold tgt; omega
      by_cases hc : y ≤ x
      · rw [if_pos hc] at h
        cases h
        exact lv_icmp_ge hx hb hdg ht (fun _ => go ls hL) (fun q => absurd hc q)
      · rw [if_neg hc] at h
        cases h
        exact lv_icmp_ge hx hb hdg ht (fun q => absurd q hc) (fun _ => go ls hL)
    · cases h
  · cases h
