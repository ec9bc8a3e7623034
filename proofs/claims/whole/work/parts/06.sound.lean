/-! soundness of the abstract machine over the Java machine -/
theorem fet_mem {l : List (Nat × Instr × Nat)} {pc : Nat} {x : Instr × Nat} (h : fet l pc = some x) : (pc, x) ∈ l := by
  induction l with
  | nil => simp [fet] at h
  | cons e t ih =>
    unfold fet at h
    cases hq : (e.1 == pc) with
    | true =>
      rw [hq] at h
      simp only [cond_true, Option.some.injEq] at h
      have h2 : e.1 = pc := by simpa using hq
      have : e = (pc, x) := by rw [← h2, ← h]
      rw [this]
      exact List.mem_cons_self
    | false =>
      rw [hq] at h
      simp only [cond_false] at h
      exact List.mem_cons_of_mem _ (ih h)
theorem fre_mem {l : List (Nat × Nat × Nat × Nat × Bool)} {idx : Nat} {x : Nat × Nat × Nat} (h : fre l idx = some x) : ∃ b : Bool, (idx, x.1, x.2.1, x.2.2, b) ∈ l := by
  induction l with
  | nil => simp [fre] at h
  | cons e t ih =>
    unfold fre at h
    cases hq : (e.1 == idx) with
    | true =>
      rw [hq] at h
      simp only [cond_true, Option.some.injEq] at h
      have h2 : e.1 = idx := by simpa using hq
      refine ⟨e.2.2.2.2, ?_⟩
      have : e = (idx, x.1, x.2.1, x.2.2, e.2.2.2.2) := by rw [← h2, ← h]
      rw [← this]
      exact List.mem_cons_self
    | false =>
      rw [hq] at h
      simp only [cond_false] at h
      obtain ⟨b, hb⟩ := ih h
      exact ⟨b, List.mem_cons_of_mem _ hb⟩
abbrev GX : Type := va_G × (Nat → Nat → Nat) × (Nat → ClassId) × (Nat → Int32) × (Nat → Int32) × Nat
abbrev GX.D (G : GX) : va_G := G.1
abbrev GX.ad (G : GX) : Nat → Nat → Nat := G.2.1
abbrev GX.ca (G : GX) : Nat → ClassId := G.2.2.1
abbrev GX.al (G : GX) : Nat → Int32 := G.2.2.2.1
abbrev GX.xs (G : GX) : Nat → Int32 := G.2.2.2.2.1
abbrev GX.len (G : GX) : Nat := G.2.2.2.2.2
def cv (G : GX) : AV → Value
  | .inl x => .int x
  | .inr (.inl x) => .long x
  | .inr (.inr (.inl (k, i))) => .ref (G.ad k i)
  | .inr (.inr (.inr _)) => .null
def tys (G : GX) : List (ClassId × FieldType) := [(G.ca 0, .int), (G.ca 1, .boolean), (G.ca 2, .long), (G.ca 3, .object "TouchMap$Way"), (G.ca 4, .object "TouchMap$Name"), (G.ca 5, .object "TouchMap$Word")]
def fvs (G : GX) (s : Mem) (k i : Nat) : Nat → List (Option Nat) → List Value
  | _, [] => []
  | j, some k2 :: fs => .ref (G.ad k2 i) :: fvs G s k i (j + 1) fs
  | j, none :: fs => .int (gI s k i j) :: fvs G s k i (j + 1) fs
def cel (G : GX) (s : Mem) (k i : Nat) : va_E := match LT[k]? with
  | some (_, .inl (c, fs)) => .inr (c, fvs G s k i 0 fs)
  | some (_, .inr (0, m, _)) => .inl (G.ca 0, m, .inl (gI s k i))
  | some (_, .inr (1, m, _)) => .inl (G.ca 1, m, .inl (gI s k i))
  | some (_, .inr (2, m, _)) => .inl (G.ca 2, m, .inr (.inl (gJ s k i)))
  | some (_, .inr (t + 3, m, k2)) => .inl (G.ca (t + 3), m, .inr (.inr (.inr (.inr (fun j => some (G.ad k2 j))))))
  | none => .inr (0, [])
def wsW (G : GX) (s : Mem) : va_W := PR.map (fun p => (G.ad p.1 p.2, cel G s p.1 p.2))
theorem fvs_get (G : GX) (s : Mem) (k i : Nat) (fs : List (Option Nat)) : ∀ (j0 j : Nat), (fvs G s k i j0 fs)[j]? = (match fs[j]? with
    | some (some k2) => some (.ref (G.ad k2 i))
    | some none => some (.int (gI s k i (j0 + j)))
    | none => none) := by
  induction fs with
  | nil => intro j0 j; simp [fvs]
  | cons f fs ih =>
    intro j0 j
    cases f with
    | none =>
      cases j with
      | zero => simp [fvs]
      | succ j => simp only [fvs, List.getElem?_cons_succ, ih]; rw [show j0 + 1 + j = j0 + (j + 1) by omega]
    | some q =>
      cases j with
      | zero => simp [fvs]
      | succ j => simp only [fvs, List.getElem?_cons_succ, ih]; rw [show j0 + 1 + j = j0 + (j + 1) by omega]
theorem fvs_congr {G : GX} {s t : Mem} {k i : Nat} (h : ∀ j, gI t k i j = gI s k i j) (fs : List (Option Nat)) : ∀ j0, fvs G t k i j0 fs = fvs G s k i j0 fs := by
  induction fs with
  | nil => intro j0; rfl
  | cons f fs ih =>
    intro j0
    cases f with
    | none => simp only [fvs, ih, h]
    | some q => simp only [fvs, ih]
theorem fvs_set {G : GX} {s : Mem} {k i : Nat} {x : Int32} (fs : List (Option Nat)) : ∀ (j0 j : Nat), fs[j]? = some none → fvs G (pI s k i (j0 + j) x) k i j0 fs = (fvs G s k i j0 fs).set j (.int x) := by
  intro j0 j h
  apply List.ext_getElem?
  intro n
  rw [fvs_get, List.getElem?_set, fvs_get]
  by_cases hn : j = n
  · subst hn
    have hl : j < (fvs G s k i j0 fs).length := by
      have h2 := fvs_get G s k i fs j0 j
      rw [h] at h2
      exact (List.getElem?_eq_some_iff.mp h2).1
    simp [h, hl, gI_pI]
  · rw [if_neg hn]
    cases hf : fs[n]? with
    | none => rfl
    | some f =>
      cases f with
      | some q => rfl
      | none => simp only [gI_pI]; rw [if_neg]; omega
theorem cel_congr {G : GX} {s t : Mem} {k i : Nat} (h : ∀ j, gI t k i j = gI s k i j) (h2 : ∀ j, gJ t k i j = gJ s k i j) : cel G t k i = cel G s k i := by
  have e1 : gI t k i = gI s k i := funext h
  have e2 : gJ t k i = gJ s k i := funext h2
  unfold cel
  rw [e1, e2]
  cases LT[k]? with
  | none => rfl
  | some e =>
    obtain ⟨n, ⟨c, fs⟩ | ⟨tc, m, k2⟩⟩ := e
    · simp only [fvs_congr h]
    · rcases tc with _ | _ | _ | tc <;> rfl
theorem PR_nodup : PR.Nodup := by decide +kernel
theorem PR_all : ∀ k, k < 85 → ∀ i, i < cnt k → (k, i) ∈ PR := by decide +kernel
theorem PR_ok : ∀ p ∈ PR, p.1 < 85 ∧ p.2 < cnt p.1 := by decide +kernel
theorem ws_get (G : GX) (s : Mem) {k i : Nat} (hk : k < 85) (hi : i < cnt k)   : ∃ n : Nat, PR[n]? = some (k, i) ∧ (wsW G s)[n]? = some (G.ad k i, cel G s k i) := by
  obtain ⟨n, hn, e⟩ := List.mem_iff_getElem.mp (PR_all k hk i hi)
  have e2 : PR[n]? = some (k, i) := by rw [List.getElem?_eq_getElem hn, e]
  exact ⟨n, e2, by simp [wsW, e2]⟩
theorem ws_set {G : GX} {s t : Mem} {k i n : Nat} (hn : PR[n]? = some (k, i)) {e : va_E} (he : cel G t k i = e) (h : ∀ a b, ¬ (a = k ∧ b = i) → cel G t a b = cel G s a b) : (wsW G s).set n (G.ad k i, e) = wsW G t := by
  apply List.ext_getElem?
  intro j
  rw [List.getElem?_set]
  have hl0 : n < PR.length := (List.getElem?_eq_some_iff.mp hn).1
  have hl : n < (wsW G s).length := by
    rw [wsW, List.length_map]
    exact hl0
  by_cases hj : n = j
  · subst hj
    have e0 : (wsW G t)[n]? = some (G.ad k i, cel G t k i) := by simp only [wsW, List.getElem?_map, hn, Option.map_some]
    rw [if_pos rfl, if_pos hl, e0, he]
  · rw [if_neg hj]
    simp only [wsW, List.getElem?_map]
    cases hp : PR[j]? with
    | none => rfl
    | some p =>
      simp only [Option.map_some, Option.some.injEq, Prod.mk.injEq, true_and]
      refine (h p.1 p.2 fun hq => hj ?_).symm
      have e1 : p = (k, i) := Prod.ext hq.1 hq.2
      have l1 := (List.getElem?_eq_some_iff.mp hn)
      have l2 := (List.getElem?_eq_some_iff.mp hp)
      obtain ⟨a1, b1⟩ := l1
      obtain ⟨a2, b2⟩ := l2
      exact (List.getElem_inj PR_nodup (h₀ := a1) (h₁ := a2)).mp (by rw [b1, b2, e1])
