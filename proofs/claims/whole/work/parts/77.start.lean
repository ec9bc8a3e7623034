/-! what the start gives: classes, arrays' classes, the alphabet -/
theorem TT_sub {w : Cond} (h : w ∈ TT) : w ∈ lw_tbl := (List.mem_filter.mp h).1
theorem st_D {s : State} {args : Array Value} (hts : ∀ w ∈ TT, w.before args s = true) : ∃ D : va_G, ∀ (c : Nat) (q : vw_C), classes[c]? = some q → u_Kn s q.1 q.2.1 q.2.2 (D.1 c) (D.2 c) := by
  have h : ∀ c : Nat, ∃ x : ClassId × (Nat → Nat), ∀ q, classes[c]? = some q → u_Kn s q.1 q.2.1 q.2.2 x.1 x.2 := fun c => by
    cases hq : classes[c]? with
    | none => exact ⟨(0, fun _ => 0), fun q h => by cases h⟩
    | some q =>
      have w := kin_w hq
      obtain ⟨cC, iS, h⟩ := u_known hts (cl_in hq).1 (hts _ (by rw [← w.2.2] at w; exact w.1))
      exact ⟨(cC, iS), fun q' e => by cases e; exact h⟩
  exact ⟨(fun c => (Classical.choose (h c)).1, fun c => (Classical.choose (h c)).2), fun c q hq => Classical.choose_spec (h c) q hq⟩
theorem st_prim {s : State} {args : Array Value} {ty : FieldType} (h : (Cond.arrayClass ty).before args s = true) (hn : ∀ C, ty ≠ .object C) : ∃ cA : ClassId, ArrOfT s cA ty ∧ va_RA s cA ty := by
  obtain ⟨cA, kA, comp, h1, h2, h3⟩ := Cond.arrayClass_spec h
  refine ⟨cA, fun n z => ⟨fun k h => (by cases h), kA, h2, comp, h3⟩, ?_⟩
  cases ty <;> first | exact h1 | exact absurd rfl (hn _)
theorem st_obj {s : State} {args : Array Value} {C : String} (h : (Cond.arrayOver (.object C)).before args s = true) : ∃ cA : ClassId, ArrOfT s cA (.object C) ∧ va_RA s cA (.object C) := by
  obtain ⟨comp, cA, kA, h1, _, h2, h3, h4⟩ := Cond.arrayOver_spec h
  exact ⟨cA, fun n z => ⟨fun k h => (by cases h), kA, h2, comp, h3⟩, kA, comp, h2, h3, h1, h4⟩
set_option maxRecDepth 100000 in
theorem ao_w : Cond.arrayOver (.object "TouchMap$Way") ∈ lw_tbl ∧ Cond.arrayOver (.object "TouchMap$Name") ∈ lw_tbl ∧ Cond.arrayOver (.object "TouchMap$Word") ∈ lw_tbl ∧ Cond.laysStatic "TouchMap" "ALPHABET" "[I" ∈ lw_tbl := ⟨List.mem_append_right _ (List.mem_of_getElem? (i := 26) (by decide +kernel)), List.mem_append_right _ (List.mem_of_getElem? (i := 71) (by decide +kernel)), List.mem_append_right _ (List.mem_of_getElem? (i := 216) (by decide +kernel)), List.mem_append_right _ (List.mem_of_getElem? (i := 561) (by decide +kernel))⟩
theorem al_w : ∀ j, j < 26 → Cond.eq (.elem (.static "TouchMap" "ALPHABET" "[I") (.int (Int32.ofNat j))) (.int (z0 62 0 j)) ∈ flatC (Jvm.Cond.and given_1 narrow_1) := by decide +kernel
theorem al_l : Cond.arrayOf (.static "TouchMap" "ALPHABET" "[I") .int ∈ flatC (Jvm.Cond.and given_1 narrow_1) ∧ Cond.eq (.length (.static "TouchMap" "ALPHABET" "[I")) (.int (Int32.ofNat 26)) ∈ flatC (Jvm.Cond.and given_1 narrow_1) := by decide +kernel
theorem st_al {s : State} {args : Array Value} {A : Nat → Prop} (hl : (Cond.laysStatic "TouchMap" "ALPHABET" "[I").before args s = true) (hi : (Cond.initialized "TouchMap").before args s = true) (h : (Jvm.Cond.and given_1 narrow_1).before args s = true) (hA : ∀ a : Nat, a < s.heap.size → ¬ A a) : ∃ t : Nat, va_Z "TouchMap" "ALPHABET" "[I" (.ref t) A s s.heap ∧ va_T .int t 26 (fun j => .int (z0 62 0 j)) A s s.heap := by
  have hs := flat_of_before _ h
  obtain ⟨t, h1, h2⟩ := va_Tof (N := 26) (f := fun j => .int (z0 62 0 j)) (by decide) (hs _ al_l.1) (va_eqt (hs _ al_l.2)) (fun j hj => va_eqt (hs _ (al_w j hj))) hA
  exact ⟨t, va_Zref hl hi h1 hA, h2⟩
/-- the map of the addresses while the cells are made -/
def gA (D : va_G) (ca : Nat → ClassId) (b b0 L : Nat) (xs : Nat → Int32) : GX := (D, fun k i => if k = 86 then b else b0 + i, ca, z0 62 0, xs, L)
/-- and in the loop -/
def gB (D : va_G) (ca : Nat → ClassId) (b b0 t L : Nat) (xs : Nat → Int32) : GX := (D, fun k i => if k < 85 then b0 + PS k i else if k = 85 then t else b, ca, z0 62 0, xs, L)
theorem gAB {D : va_G} {ca : Nat → ClassId} {b b0 t L : Nat} {xs : Nat → Int32} (k i : Nat) (hk : k < 85) : (gB D ca b b0 t L xs).ad k i = (gA D ca b b0 L xs).ad 0 (PS k i) := by
  show (if k < 85 then b0 + PS k i else _) = (if (0 : Nat) = 86 then b else b0 + PS k i)
  rw [if_pos hk, if_neg (by omega)]
theorem gA_n {D : va_G} {ca : Nat → ClassId} {b b0 L : Nat} {xs : Nat → Int32} (n : Nat) : (gA D ca b b0 L xs).ad 0 n = (gA D ca b b0 L xs).ad 0 0 + n := by
  show (if (0 : Nat) = 86 then b else b0 + n) = (if (0 : Nat) = 86 then b else b0 + 0) + n
  rw [if_neg (by omega), if_neg (by omega)]
  omega
theorem ps0 : PS 0 0 = 0 ∧ PS 51 0 = 134 := by decide +kernel
theorem gB_0 {D : va_G} {ca : Nat → ClassId} {b b0 t L : Nat} {xs : Nat → Int32} : (gB D ca b b0 t L xs).ad 0 0 = b0 + 0 ∧ (gB D ca b b0 t L xs).ad 51 0 = b0 + 134 ∧ (gB D ca b b0 t L xs).ad 86 0 = b := by
  refine ⟨?_, ?_, rfl⟩
  · show b0 + PS 0 0 = _
    rw [ps0.1]
  · show b0 + PS 51 0 = _
    rw [ps0.2]
theorem LH_AB {D : va_G} {ca : Nat → ClassId} {b b0 t L : Nat} {xs : Nat → Int32} {ls : Array Slot} (h : LH (gA D ca b b0 L xs) ls 4 kL1) : LH (gB D ca b b0 t L xs) ls 4 [vR 86 0, vR 0 0, vR 51 0, vI (nI 0)] := by
  have h2 : lv_has ls 4 [(0, .ref b), (1, .ref (b0 + 0)), (2, .ref (b0 + 134)), (3, .int 0)] := h.2
  refine ⟨rfl, ?_⟩
  show lv_has ls 4 [(0, .ref ((gB D ca b b0 t L xs).ad 86 0)), (1, .ref ((gB D ca b b0 t L xs).ad 0 0)), (2, .ref ((gB D ca b b0 t L xs).ad 51 0)), (3, .int (nI 0))]
  rw [gB_0.1, gB_0.2.1, gB_0.2.2]
  exact h2
