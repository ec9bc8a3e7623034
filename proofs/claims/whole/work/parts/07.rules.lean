/-! the judgement WS, and its rules -/
theorem NN_shape {w : Cond} (h : w ∈ NN) : (∃ a i x y, w = .methodLinkNest a i x y) ∨ ∃ a i b n d y, w = .fieldLinkNest a i b n d y := by
  have h2 := (List.mem_filter.mp h).2
  cases w <;> first | exact Or.inl ⟨_, _, _, _, rfl⟩ | exact Or.inr ⟨_, _, _, _, _, _, rfl⟩ | (simp [isNest] at h2)
def SX (G : GX) (A : Nat → Prop) (U : State) : Prop :=
  va_K G.D classes (tys G) U ∧ (∀ w ∈ NN, va_Nw w U) ∧ (∀ s : Mem, va_D A (wsW G s)) ∧ va_Z "TouchMap" "ALPHABET" "[I" (.ref (G.ad 85 0)) A U U.heap ∧ va_T .int (G.ad 85 0) 26 (fun j => .int (G.al j)) A U U.heap ∧ (va_X (G.ad 86 0) G.len G.xs U U.heap ∧ G.ad 86 0 < U.heap.size ∧ ¬ A (G.ad 86 0)) ∧ G.len < 2 ^ 31
def ROM (G : GX) (s : Mem) : Prop := (∀ j, gI s 85 0 j = G.al j) ∧ (∀ j, gI s 86 0 j = G.xs j) ∧ gI s 87 0 0 = Int32.ofNat G.len
theorem ROM.pI {G : GX} {s : Mem} (h : ROM G s) {k i j : Nat} {x : Int32} (hk : k < 85) : ROM G (pI s k i j x) := by
  refine ⟨fun q => ?_, fun q => ?_, ?_⟩
  · rw [gI_pI, if_neg (by omega)]; exact h.1 q
  · rw [gI_pI, if_neg (by omega)]; exact h.2.1 q
  · rw [gI_pI, if_neg (by omega)]; exact h.2.2
theorem ROM.pC {G : GX} {s : Mem} (h : ROM G s) {k i k2 i2 sp dp n : Nat} (hk : k2 < 85) : ROM G (pC s k i k2 i2 sp dp n) := by
  refine ⟨fun q => ?_, fun q => ?_, ?_⟩
  · rw [gI_pC, if_neg (by omega)]; exact h.1 q
  · rw [gI_pC, if_neg (by omega)]; exact h.2.1 q
  · rw [gI_pC, if_neg (by omega)]; exact h.2.2
theorem SX.go {G : GX} {A : Nat → Prop} {s U : State} {H : Heap} {locs : List Loc} (h : SX G A s) (hS : va_S A s.heap H locs) (hU : U.heap = H) (hW : s.WarmedH U.vm) : SX G A U := by
  obtain ⟨h1, h2, h3, h4, h5, ⟨h6, h7, h8⟩, h9⟩ := h
  refine ⟨va_K.moved hW.alike h1, fun w hw => ?_, h3, ?_, ?_, ⟨?_, ?_, h8⟩, h9⟩
  · rcases NN_shape hw with ⟨a, i, x, y, rfl⟩ | ⟨a, i, b, n, d, y, rfl⟩
    · exact va_Nw.warmM hW (h2 _ hw)
    · exact va_Nw.warmF hW (h2 _ hw)
  · rw [hU]; exact (va_Z.moved hW.alike h4).kept (fun a q1 q2 => hS.2.1 a q1 q2)
  · rw [hU]; exact (va_T.moved hW.alike h5).kept (fun a q1 q2 => hS.2.1 a q1 q2)
  · rw [hU]; exact (va_X.moved hW.alike h6).kept (hS.2.1 _ h7 h8)
  · rw [hU]; exact Nat.lt_of_lt_of_le h7 hS.1
theorem SX.blind {G : GX} {A : Nat → Prop} {U : State} {g : JFrame} {mk : MethodId} {a : Array Value} (h : SX G A U) : SX G A (U.calling g mk a) := by
  obtain ⟨h1, h2, h3, h4, h5, ⟨h6, h7, h8⟩, h9⟩ := h
  refine ⟨va_K.moved (u := U) (U := U.calling g mk a) (Vm.Alike.refl U.vm) h1, fun w hw => ?_, h3, va_Z.moved (u := U) (U := U.calling g mk a) (Vm.Alike.refl U.vm) h4, va_T.moved (u := U) (U := U.calling g mk a) (Vm.Alike.refl U.vm) h5, ⟨va_X.moved (u := U) (U := U.calling g mk a) (Vm.Alike.refl U.vm) h6, h7, h8⟩, h9⟩
  rcases NN_shape hw with ⟨a, i, x, y, rfl⟩ | ⟨a, i, b, n, d, y, rfl⟩
  · exact va_Nw.same rfl (u := U) rfl (h2 _ hw)
  · exact va_Nw.same rfl (u := U) rfl (h2 _ hw)
def lvl (G : GX) : Nat → List AV → List (Nat × Value)
  | _, [] => []
  | i, .inr (.inr (.inr _)) :: vs => lvl G (i + 1) vs
  | i, .inl x :: vs => (i, .int x) :: lvl G (i + 1) vs
  | i, .inr (.inl x) :: vs => (i, .long x) :: lvl G (i + 1) vs
  | i, .inr (.inr (.inl (a, b))) :: vs => (i, .ref (G.ad a b)) :: lvl G (i + 1) vs
theorem lvl_mem {G : GX} {L : List AV} : ∀ {i a : Nat} {w : Value}, (a, w) ∈ lvl G i L ↔ ∃ (j : Nat) (v : AV), L[j]? = some v ∧ a = i + j ∧ v ≠ vU ∧ w = cv G v := by
  induction L with
  | nil => intro i a w; simp [lvl]
  | cons v vs ih =>
    intro i a w
    have step : (∃ (j : Nat) (v' : AV), (v :: vs)[j]? = some v' ∧ a = i + j ∧ v' ≠ vU ∧ w = cv G v') ↔ (a = i ∧ v ≠ vU ∧ w = cv G v) ∨ ∃ (j : Nat) (v' : AV), vs[j]? = some v' ∧ a = i + 1 + j ∧ v' ≠ vU ∧ w = cv G v' := by
      constructor
      · rintro ⟨j, v', h1, h2, h3, h4⟩
        cases j with
        | zero =>
          simp only [List.getElem?_cons_zero, Option.some.injEq] at h1
          subst h1
          exact Or.inl ⟨by omega, h3, h4⟩
        | succ j => exact Or.inr ⟨j, v', by simpa using h1, by omega, h3, h4⟩
      · rintro (⟨h1, h2, h3⟩ | ⟨j, v', h1, h2, h3, h4⟩)
        · exact ⟨0, v, by simp, by omega, h2, h3⟩
        · exact ⟨j + 1, v', by simpa using h1, by omega, h3, h4⟩
    rw [step, ← ih]
    obtain x | x | ⟨p, q⟩ | x := v
    · simp [lvl, cv]
    · simp [lvl, cv]
    · simp [lvl, cv]
    · simp [lvl]
def LH (G : GX) (ls : Array Slot) (n : Nat) (L : List AV) : Prop := L.length = n ∧ lv_has ls n (lvl G 0 L)
theorem LH.get {G : GX} {ls : Array Slot} {n k : Nat} {L : List AV} {v : AV} (h : LH G ls n L) (hv : L[k]? = some v) (hu : v ≠ vU) : ls[k]? = some (.val (cv G v)) := h.2.2.2 (k, cv G v) (lvl_mem.mpr ⟨k, v, hv, by omega, hu, rfl⟩)
theorem clr_succ (L : List AV) (k : Nat) : clr L (k + 1) = (match L[k]? with
    | some (.inr (.inl _)) => L.set k vU
    | _ => L) := rfl
theorem clr_len (L : List AV) (k : Nat) : (clr L k).length = L.length := by
  cases k with
  | zero => rfl
  | succ k =>
    rw [clr_succ]
    split <;> simp
theorem clr_get {L : List AV} {k j : Nat} {v : AV} (h : (clr L k)[j]? = some v) (hu : v ≠ vU) : L[j]? = some v ∧ ¬ (j + 1 = k ∧ ∃ x, v = vJ x) := by
  cases k with
  | zero => exact ⟨h, by omega⟩
  | succ k =>
    rw [clr_succ] at h
    split at h
    · next x hx =>
      rw [List.getElem?_set] at h
      by_cases hj : k = j
      · rw [if_pos hj] at h
        split at h
        · simp only [Option.some.injEq] at h; exact absurd h.symm hu
        · cases h
      · rw [if_neg hj] at h
        exact ⟨h, by omega⟩
    · next hx =>
      refine ⟨h, fun ⟨hj, x, hv⟩ => ?_⟩
      have : j = k := by omega
      subst this
      exact hx x (by rw [h, hv])
theorem cv_cat2 {G : GX} {v : AV} (hu : v ≠ vU) (h : (cv G v).category = 2) : ∃ x, v = vJ x := by
  obtain x | x | ⟨p, q⟩ | x := v
  · simp [cv, Value.category] at h
  · exact ⟨x, rfl⟩
  · simp [cv, Value.category] at h
  · exact absurd rfl hu
theorem LH.st1 {G : GX} {ls ls' : Array Slot} {n k : Nat} {L : List AV} {v : AV} (h : LH G ls n L) (h2 : lv_has ls' n ((k, cv G v) :: (lvl G 0 L).filter (fun q => !(q.1 == k) && !(q.1 + 1 == k && q.2.category == 2)))) : LH G ls' n ((clr L k).set k v) := by
  refine ⟨by rw [List.length_set, clr_len]; exact h.1, h2.1, h2.2.1, fun q hq => ?_⟩
  obtain ⟨a, w⟩ := q
  obtain ⟨j, u, e1, e2, e3, e4⟩ := lvl_mem.mp hq
  have ej : a = j := by omega
  subst ej
  rw [List.getElem?_set] at e1
  by_cases hk : k = a
  · rw [if_pos hk] at e1
    split at e1
    · simp only [Option.some.injEq] at e1
      subst e1
      rw [e4, ← hk]
      exact h2.2.2 _ List.mem_cons_self
    · cases e1
  · rw [if_neg hk] at e1
    obtain ⟨e5, e6⟩ := clr_get e1 e3
    refine h2.2.2 _ (List.mem_cons_of_mem _ (List.mem_filter.mpr ⟨lvl_mem.mpr ⟨a, u, e5, by omega, e3, e4⟩, ?_⟩))
    simp only [Bool.and_eq_true, Bool.not_eq_true', beq_eq_false_iff_ne, ne_eq, Bool.and_eq_false_iff]
    refine ⟨fun z => hk z.symm, ?_⟩
    by_cases h7 : a + 1 = k
    · right
      intro h8
      exact e6 ⟨h7, cv_cat2 e3 (by rw [← e4]; exact h8)⟩
    · exact Or.inl h7
theorem LH.st2 {G : GX} {ls ls' : Array Slot} {n k : Nat} {L : List AV} {v : AV} (h : LH G ls n L) (h2 : lv_has ls' n ((k, cv G v) :: (lvl G 0 L).filter (fun q => !(q.1 == k) && (!(q.1 == k + 1) && !(q.1 + 1 == k && q.2.category == 2))))) : LH G ls' n (((clr L k).set k v).set (k + 1) vU) := by
  refine ⟨by rw [List.length_set, List.length_set, clr_len]; exact h.1, h2.1, h2.2.1, fun q hq => ?_⟩
  obtain ⟨a, w⟩ := q
  obtain ⟨j, u, e1, e2, e3, e4⟩ := lvl_mem.mp hq
  have ej : a = j := by omega
  subst ej
  rw [List.getElem?_set] at e1
  by_cases hk1 : k + 1 = a
  · rw [if_pos hk1] at e1
    split at e1
    · simp only [Option.some.injEq] at e1
      exact absurd e1.symm e3
    · cases e1
  rw [if_neg hk1, List.getElem?_set] at e1
  by_cases hk : k = a
  · rw [if_pos hk] at e1
    split at e1
    · simp only [Option.some.injEq] at e1
      subst e1
      rw [e4, ← hk]
      exact h2.2.2 _ List.mem_cons_self
    · cases e1
  · rw [if_neg hk] at e1
    obtain ⟨e5, e6⟩ := clr_get e1 e3
    refine h2.2.2 _ (List.mem_cons_of_mem _ (List.mem_filter.mpr ⟨lvl_mem.mpr ⟨a, u, e5, by omega, e3, e4⟩, ?_⟩))
    simp only [Bool.and_eq_true, Bool.not_eq_true', beq_eq_false_iff_ne, ne_eq, Bool.and_eq_false_iff]
    refine ⟨fun z => hk z.symm, fun z => hk1 z.symm, ?_⟩
    by_cases h7 : a + 1 = k
    · right
      intro h8
      exact e6 ⟨h7, cv_cat2 e3 (by rw [← e4]; exact h8)⟩
    · exact Or.inl h7
def okV (v : AV) : Prop := match v with
  | .inr (.inr (.inl (k, i))) => okR k i
  | _ => True
def okRet (M : MI) (pc : Nat) (v : Option AV) : Prop := match v with
  | some (.inl x) => ∃ ty, M.ret = some ty ∧ ty ≠ .long ∧ narrow ty (.int x) = .int x ∧ decode M.bytes pc = .ok (.ireturn, 1)
  | some (.inr (.inl _)) => M.ret = some .long ∧ decode M.bytes pc = .ok (.lreturn, 1)
  | none => M.ret = none ∧ decode M.bytes pc = .ok (.return_, 1)
  | _ => False
/-- the instructions are those of the code -/
def OkD (M : MI) : Prop := ∀ e ∈ M.tab, decode M.bytes e.1 = .ok e.2
def CX (M : MI) (d : Nat) (G : GX) (A : Nat → Prop) (p : Program) (R : Room) (s : State) (m : MethodId) (args : Array Value) (c : Code) (cells slots : Nat) : Prop :=
  OkD M ∧ p.tables.exec = Jvm.exec ∧ c.code = M.bytes ∧ c.maxLocals = M.maxL ∧ s.vm.findClass (cn M.own) = some m.cls ∧ (∀ w ∈ TT, w.before args s = true) ∧ SX G A s ∧ d ≤ R.frames ∧ 60 * d ≤ R.locals ∧ cells ≤ R.cells ∧ slots ≤ R.slots
/-- from this state of the abstract machine every machine that stands so comes to its return, with Post -/
def WS (d : Nat) (M : MI) (pc : Nat) (L S : List AV) (σ : Mem) (Post : Option AV → Mem → Prop) : Prop :=
  ∀ (G : GX) (A : Nat → Prop) (p : Program) (l : Launch) (e : Env) (R : Room) (s : State) (m : MethodId) (args : Array Value) (below : List Frame) (meth : Method) (c : Code) (H : Heap) (locs : List Loc) (cells slots : Nat) (ls : Array Slot) (Q : State → Prop),
    CX M d G A p R s m args c cells slots → va_P G.D classes (wsW G σ) H → ROM G σ → va_S A s.heap H locs → LH G ls M.maxL L → (∀ v ∈ L, okV v) → (∀ v ∈ S, okV v) →
    (∀ (H' : Heap) (locs' : List Loc) (ls' : Array Slot) (pc' : Nat) (v : Option AV) (σ' : Mem), Post v σ' → okRet M pc' v → va_P G.D classes (wsW G σ') H' → ROM G σ' → va_S A s.heap H' locs' → W p l e R s m args below meth c H' locs' cells slots Q (F0 m pc' ls' (v.toList.map (cv G)))) →
    W p l e R s m args below meth c H locs cells slots Q (F0 m pc ls (S.map (cv G)))
theorem okV_set {L : List AV} {k : Nat} {v : AV} (h : ∀ w ∈ L, okV w) (hv : okV v) : ∀ w ∈ (clr L k).set k v, okV w := by
  have hc : ∀ w ∈ clr L k, okV w := by
    cases k with
    | zero => exact h
    | succ k =>
      rw [clr_succ]
      split
      · intro w hw
        rcases List.mem_or_eq_of_mem_set hw with hw | hw
        · exact h w hw
        · rw [hw]; trivial
      · exact h
  intro w hw
  rcases List.mem_or_eq_of_mem_set hw with hw | hw
  · exact hc w hw
  · rw [hw]; exact hv
