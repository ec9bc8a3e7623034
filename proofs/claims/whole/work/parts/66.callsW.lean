/-! each call: ways -/
theorem inj_n {i j : Nat} (h : nI i = nI j) (hi : i < 100) (hj : j < 100) : i = j := (nI_eq (by omega) (by omega)).mp h
theorem Rd.rf {σ : Mem} : Rd σ σ := ⟨fun _ => rfl, rfl⟩
/-- the invariant where only the ways have changed -/
theorem Inv.setW {ks : List Nat} {σ τ : Mem} (h : Inv σ) (F : Fr ks σ τ) (hd : ∀ k ∈ [0, 7, 8, 9, 15, 16, 19, 21, 22, 23, 26, 31, 32, 34, 36, 37, 44, 45, 46, 47, 49, 51, 62, 63, 64, 65, 66, 67, 68, 69, 70, 71, 80, 81, 82, 84, 85], k ∉ ks) (hW : InvW τ) : Inv τ := by
  have f51 := fun j => F 51 0 j (hd 51 (by decide))
  have hs : ∀ l : List Nat, (∀ k ∈ l, k ∈ [0, 7, 8, 9, 15, 16, 19, 21, 22, 23, 26, 31, 32, 34, 36, 37, 44, 45, 46, 47, 49, 51, 62, 63, 64, 65, 66, 67, 68, 69, 70, 71, 80, 81, 82, 84, 85]) → ∀ k ∈ l, k ∉ ks := fun l hl k hk => hd k (hl k hk)
  exact ⟨hW, h.2.1.cg F (hs _ (by decide)) (f51 9), h.2.2.1.cg F (hs _ (by decide)) (f51 10) (f51 11), h.2.2.2.1.cg F (hs _ (by decide)) (f51 15), h.2.2.2.2.1.cg F (hs _ (by decide)), h.2.2.2.2.2.1.cg F (hs _ (by decide)), h.2.2.2.2.2.2.1.cg F (hs _ (by decide)), h.2.2.2.2.2.2.2.1.cg F (hs _ (by decide)), h.2.2.2.2.2.2.2.2.1.cg F (hs _ (by decide)) (f51 35), h.2.2.2.2.2.2.2.2.2.cg F (hs _ (by decide))⟩
theorem q_way {D : Nat} {σ : Mem} {w v y : Int32} (hI : Inv σ) (hy : y = 0 ∨ y = 1) : QC (D + 1) M_TM_way M_MD_way [vR 0 0, vI w, vI v, vI y] [vR 51 0, vI w, vI v, vI y] σ := by
  intro Post h
  refine c_TMway hy (fun j τ ho hB => ?_) (fun hno => ?_)
  · have F1 : Fr [2, 52, 53, 54, 55, 58] σ τ := (Fr.of hB.1).mono (by decide)
    refine h 1 τ (Rd.of F1 (by decide) (by decide)) (fun P3 h3 => c_Mway hy (fun j' υ ho' hM => ?_) (fun hno' => absurd ho (hno' j)))
    obtain rfl : j = j' := inj_n (ho.2.1.symm.trans ho'.2.1) (by have := ho.1; omega) (by have := ho'.1; omega)
    have F : Fr [2, 52, 53, 54, 55, 58] σ υ := F1.tr ((Fr.of hM.1).mono (by decide))
    have e2 : ∀ k f, gI υ 2 k f = gI τ 2 k f := fun k f => hM.1.1 2 k f (by decide)
    have em : ∀ a k, a ≠ 2 → k ≠ j → gI υ a 0 k = gI σ a 0 k := fun a k ha hk => by rw [hM.2.1 a k hk, hB.1.1 a 0 k (by simpa using ha)]
    refine h3 υ (hI.setW F (by decide) (fun k hk => ?_)) (Rd.of F (by decide) (by decide))
    by_cases e : k = j
    · subst e
      have z3 : gI υ 2 k 3 = nI 0 := by rw [e2, hB.2.2.1]; rfl
      have z4 : gI υ 2 k 4 = nI 0 := by rw [e2, hB.2.2.2.1]; rfl
      refine ⟨0, 0, ⟨z3, z4, by omega, by omega, fun i hi => by omega, fun i hi => by omega⟩, ⟨by rw [hM.2.2.2.2.2.1]; rfl, by rw [hM.2.2.2.2.2.2]; rfl, by omega, by omega, fun i hi => by omega, fun i hi => by omega⟩, fun i hi => by omega, fun i hi => by omega, ?_, ?_, ?_, ?_, fun z => by omega⟩
      · rw [e2, hB.2.2.2.2.1, hM.2.2.2.1]
      · rw [e2, hB.2.2.2.2.1]; exact ⟨ho.2.2.1, ho.2.2.2⟩
      · rw [e2, hB.2.2.2.2.2.1, hM.2.2.2.2.1]
      · rw [e2, hB.2.2.2.2.2.2, hM.2.2.1]
    · refine (hI.1 k hk).cg (fun f => by rw [e2, hB.2.1 k f e]) (fun f => F 3 k f (by decide)) (fun f => F 4 k f (by decide)) (fun f => F 5 k f (by decide)) (em 52 k (by omega) e) (em 53 k (by omega) e) (em 54 k (by omega) e) (em 55 k (by omega) e) (em 58 k (by omega) e) (fun i _ => F 56 0 _ (by decide)) (fun i _ => F 57 0 _ (by decide)) (fun i _ => F 59 0 _ (by decide))
  · exact h 0 σ Rd.rf (fun P3 h3 => c_Mway hy (fun j υ ho _ => absurd ho (hno j)) (fun _ => h3 σ hI Rd.rf))
theorem poi_iff {σ : Mem} (hI : InvW σ) (w x y : Int32) (j : Nat) : poiO σ w x y j ↔ poiM σ w x y j := by
  unfold poiO poiM takO
  by_cases hj : j < 12
  · have q := hI.at hj
    rw [← q.1, ← q.2.2.2.2.2.2.2.1]
    by_cases c0 : ctW σ j = 0
    · constructor
      · rintro ⟨a1, a2, a3, a4, a5, a6, a7⟩; exact ⟨a1, a2, a5, a3, a4, a6, Or.inl c0⟩
      · rintro ⟨a1, a2, a3, a4, a5, a6, a7⟩; exact ⟨a1, a2, a4, a5, a3, a6, Or.inl c0⟩
    · have e := q.2.2.1 (ctW σ j - 1) (by omega)
      rw [← e.1, ← e.2]
      constructor
      · rintro ⟨a1, a2, a3, a4, a5, a6, a7⟩; exact ⟨a1, a2, a5, a3, a4, a6, a7⟩
      · rintro ⟨a1, a2, a3, a4, a5, a6, a7⟩; exact ⟨a1, a2, a4, a5, a3, a6, a7⟩
  · exact ⟨fun z => absurd z.1 hj, fun z => absurd z.1 hj⟩
theorem q_point {D : Nat} {σ : Mem} {w x y : Int32} (hI : Inv σ) : QC (D + 2) M_TM_point M_MD_point [vR 0 0, vI w, vI x, vI y] [vR 51 0, vI w, vI x, vI y] σ := by
  intro Post h
  refine c_TMpoint hI.1.V (fun j τ ho hA => ?_) (fun hno => ?_)
  · have hj := ho.1
    have F1 : Fr [2, 3, 4, 5, 55, 56, 57, 58, 59] σ τ := fun k i f hk => hA.1 k i f (fun z => hk (by rcases z.1 with rfl | rfl | rfl | rfl <;> decide))
    have hMt : AllM τ := fun k hk => by
      have e1 : ctM τ k = ctM σ k := by unfold ctM; rw [hA.1 55 0 k (by omega)]
      have e2 : shM τ k = shM σ k := by unfold shM; rw [hA.1 58 0 k (by omega)]
      rw [e1, e2]
      obtain ⟨b1, b2, b3, b4, b5, b6⟩ := hI.1.M k hk
      refine ⟨by rw [hA.1 55 0 k (by omega)]; exact b1, by rw [hA.1 58 0 k (by omega)]; exact b2, b3, b4, fun i hi => ?_, fun i hi => ?_⟩
      · have := b5 i hi
        unfold mP mX mY at this ⊢
        rw [hA.1 56 0 _ (by omega), hA.1 57 0 _ (by omega)]; exact this
      · unfold mn; rw [hA.1 59 0 _ (by omega)]; exact b6 i hi
    have ect : ∀ k, ctM τ k = ctM σ k := fun k => by unfold ctM; rw [hA.1 55 0 k (by omega)]
    have hOt : ∀ k, poiM τ w x y k ↔ poiM σ w x y k := fun k => by
      unfold poiM
      rw [ect, hA.1 52 0 k (by omega), hA.1 56 0 _ (by omega), hA.1 57 0 _ (by omega)]
    have q := hI.1.at hj
    refine h _ τ (Rd.of F1 (by decide) (by decide)) (fun P3 h3 => c_Mpoint hMt (fun j' υ ho' hM => ?_) (fun hno' => absurd ((hOt j).mpr ((poi_iff hI.1 w x y j).mp ho)) (hno' j)))
    obtain rfl : j = j' := inj_n (ho.2.1.symm.trans ho'.2.1) (by omega) (by have := ho'.1; omega)
    rw [ect, ← q.1]
    rw [ect, ← q.1] at hM
    have F2 : Fr [2, 3, 4, 5, 55, 56, 57, 58, 59] σ υ := F1.tr ((Fr.of hM.1).mono (by decide))
    refine h3 υ (hI.setW F2 (by decide) (fun k hk => ?_)) (Rd.of F2 (by decide) (by decide))
    have u : ∀ a f, a = 2 ∨ a = 3 ∨ a = 4 ∨ a = 5 → gI υ a k f = gI τ a k f := fun a f ha => hM.1.1 a k f (by rcases ha with rfl | rfl | rfl | rfl <;> decide)
    by_cases e : k = j
    · subst e
      have hc20 := ho.2.2.2.2.2.1
      have v := hI.1.V k hk
      have m := hI.1.M k hk
      have nc : ∀ i, i < ctW σ k + 1 → (gI υ 3 k i = if i = ctW σ k then x else gI σ 3 k i) ∧ (gI υ 4 k i = if i = ctW σ k then y else gI σ 4 k i) := fun i hi => by
        rw [u 3 i (by omega), u 4 i (by omega)]
        by_cases z : i = ctW σ k
        · rw [if_pos z, if_pos z, z]; exact ⟨hA.2.2.2.2.2.2.1, hA.2.2.2.2.2.2.2.2.1⟩
        · rw [if_neg z, if_neg z]; exact ⟨hA.2.2.2.2.2.1 i z, hA.2.2.2.2.2.2.2.1 i z⟩
      have nm : ∀ i, i < ctW σ k + 1 → (gI υ 56 0 (20 * k + i) = if i = ctW σ k then x else gI σ 56 0 (20 * k + i)) ∧ (gI υ 57 0 (20 * k + i) = if i = ctW σ k then y else gI σ 57 0 (20 * k + i)) := fun i hi => by
        rw [hM.2.2.2.1, hM.2.2.2.2.1, hA.1 56 0 _ (by omega), hA.1 57 0 _ (by omega)]
        by_cases z : i = ctW σ k
        · rw [if_pos z, if_pos z, if_pos (by omega), if_pos (by omega)]; exact ⟨rfl, rfl⟩
        · rw [if_neg z, if_neg z, if_neg (by omega), if_neg (by omega)]; exact ⟨rfl, rfl⟩
      refine ⟨ctW σ k + 1, ctW σ k + 1, ⟨by rw [u 2 3 (by omega)]; exact hA.2.2.2.1, by rw [u 2 4 (by omega)]; exact hA.2.2.2.2.1, by omega, Nat.le_refl _, fun i hi => ?_, fun i hi => ?_⟩, ⟨by rw [hM.2.1, if_pos rfl], by rw [hM.2.2.1, if_pos rfl], by omega, Nat.le_refl _, fun i hi => ?_, fun i hi => ?_⟩, fun i hi => ?_, fun i hi => ?_, ?_, ?_, ?_, ?_, fun _ => ?_⟩
      · unfold px py
        rw [(nc i hi).1, (nc i hi).2]
        by_cases z : i = ctW σ k
        · rw [if_pos z, if_pos z]; exact ⟨ho.2.2.1, ho.2.2.2.1⟩
        · rw [if_neg z, if_neg z]; exact v.2.2.2.2.1 i (by omega)
      · have e5 : gI υ 5 k i = nI i := by rw [u 5 i (by omega)]; exact hA.2.2.2.2.2.2.2.2.2 i hi
        unfold nb
        rw [e5, cl_n (by omega)]; exact ⟨hi, rfl⟩
      · unfold mP mX mY
        rw [(nm i hi).1, (nm i hi).2]
        by_cases z : i = ctW σ k
        · rw [if_pos z, if_pos z]; exact ⟨by omega, ho.2.2.1, ho.2.2.2.1⟩
        · rw [if_neg z, if_neg z]; exact m.2.2.2.2.1 i (by have := q.1; omega)
      · have e5 := hM.2.2.2.2.2.1 i hi
        unfold mn
        rw [e5, cl_n (by omega)]; exact ⟨hi, rfl⟩
      · rw [(nc i hi).1, (nc i hi).2, (nm i hi).1, (nm i hi).2]
        by_cases z : i = ctW σ k
        · rw [if_pos z, if_pos z, if_pos z, if_pos z]; exact ⟨rfl, rfl⟩
        · rw [if_neg z, if_neg z, if_neg z, if_neg z]; exact q.2.2.1 i (by omega)
      · rw [u 5 i (by omega), hM.2.2.2.2.2.1 i hi]; exact hA.2.2.2.2.2.2.2.2.2 i hi
      · rw [u 2 5 (by omega), hA.2.2.1 5 (by omega) (by omega), F2 53 0 k (by decide)]; exact q.2.2.2.2.1
      · rw [u 2 5 (by omega), hA.2.2.1 5 (by omega) (by omega)]; exact q.2.2.2.2.2.1
      · rw [u 2 6 (by omega), hA.2.2.1 6 (by omega) (by omega), F2 54 0 k (by decide)]; exact q.2.2.2.2.2.2.1
      · rw [u 2 7 (by omega), hA.2.2.1 7 (by omega) (by omega), F2 52 0 k (by decide)]; exact q.2.2.2.2.2.2.2.1
      · rw [F2 52 0 k (by decide)]; exact ((poi_iff hI.1 w x y k).mp ho).2.2.1
    · have t : ∀ a f, gI τ a k f = gI σ a k f := fun a f => hA.1 a k f (by omega)
      have hct : ctW σ j < 20 ∧ ctM σ j < 20 := ⟨ho.2.2.2.2.2.1, ((poi_iff hI.1 w x y j).mp ho).2.2.2.2.2.1⟩
      refine (hI.1 k hk).cg (fun f => by rw [u 2 f (by omega)]; exact t 2 f) (fun f => by rw [u 3 f (by omega)]; exact t 3 f) (fun f => by rw [u 4 f (by omega)]; exact t 4 f) (fun f => by rw [u 5 f (by omega)]; exact t 5 f) (F2 52 0 k (by decide)) (F2 53 0 k (by decide)) (F2 54 0 k (by decide)) ?_ ?_ (fun i hi => ?_) (fun i hi => ?_) (fun i hi => ?_)
      · rw [hM.2.1, if_neg e, hA.1 55 0 k (by omega)]
      · rw [hM.2.2.1, if_neg e, hA.1 58 0 k (by omega)]
      · rw [hM.2.2.2.1, if_neg (by have := hct; omega), hA.1 56 0 _ (by omega)]
      · rw [hM.2.2.2.2.1, if_neg (by have := hct; omega), hA.1 57 0 _ (by omega)]
      · rw [hM.2.2.2.2.2.2 _ (by omega), hA.1 59 0 _ (by omega)]
  · exact h (-1) σ Rd.rf (fun P3 h3 => c_Mpoint hI.1.M (fun j υ ho _ => absurd ((poi_iff hI.1 w x y j).mpr ho) (hno j)) (fun _ => h3 σ hI Rd.rf))
theorem nr_iff {σ : Mem} (hI : InvW σ) {w : Nat} (hw : w < 12) (t : Int) (i j : Nat) (hij : i < j) (hj : j < ctW σ w) : nrW σ w t i j ↔ nrM σ w t i j := by
  have q := (hI.at hw).2.2.1
  unfold nrW nrM
  have el : spn σ w i j = lnM σ (20 * w + i) (20 * w + j) := by
    unfold spn lnM px py mX mY
    rw [(q i (by omega)).1, (q i (by omega)).2, (q j hj).1, (q j hj).2]
  rw [el]
  constructor
  · intro h k a b
    have := h k a b
    unfold px py at this
    rw [(q k (by omega)).1, (q k (by omega)).2] at this
    exact this
  · intro h k a b
    unfold px py
    rw [(q k (by omega)).1, (q k (by omega)).2]
    exact h k a b
theorem q_simple {D : Nat} {σ : Mem} {v t : Int32} (hI : Inv σ) : QC (D + 5) M_TM_simple M_MD_simple [vR 0 0, vI v, vI t] [vR 51 0, vI v, vI t] σ := by
  intro Post h
  have hO : ∀ j, simO σ v t j ↔ simM σ v t j := fun j => by
    unfold simO simM
    constructor
    · rintro ⟨a1, a2, a3, a4⟩
      have q := hI.1.at a1
      exact ⟨a1, a2, q.2.2.2.2.2.2.2.2 a3, by rw [← q.1]; exact a3, a4⟩
    · rintro ⟨a1, a2, a3, a4, a5⟩
      have q := hI.1.at a1
      exact ⟨a1, a2, by rw [q.1]; exact a4, a5⟩
  refine c_TMsimple hI.1.V (fun j τ N f ho hT hS => ?_) (fun hno => ?_)
  · have hj := ho.1
    have F1 : Fr [2, 5, 11, 13, 14, 58, 59, 60] σ τ := fun k i f hk => by
      simp only [List.mem_cons, List.not_mem_nil, or_false] at hk
      exact hT.1 k i f (by omega) (by omega) (by omega) (by omega) (by omega)
    have ez : ∀ a k f, a ≠ 2 → a ≠ 5 → a ≠ 11 → a ≠ 13 → a ≠ 14 → gI τ a k f = gI σ a k f := fun a k f z1 z2 z3 z4 z5 => hT.1 a k f z3 z4 z5 (by omega) (by omega)
    have ect : ∀ k, ctM τ k = ctM σ k := fun k => by unfold ctM; rw [ez 55 0 k (by omega) (by omega) (by omega) (by omega) (by omega)]
    have hMt : AllM τ := hI.1.M.eq (ks := [2, 5, 11, 13, 14]) ⟨fun a i j hk => by simp only [List.mem_cons, List.not_mem_nil, or_false] at hk; exact ez a i j (by omega) (by omega) (by omega) (by omega) (by omega), hT.2.1⟩ (by decide) (by decide) (by decide) (by decide) (by decide)
    have hOt : ∀ k, simM τ v t k ↔ simM σ v t k := fun k => by unfold simM; rw [ect, ez 52 0 k (by omega) (by omega) (by omega) (by omega) (by omega)]
    have q := hI.1.at hj
    have vW := hI.1.V j hj
    have hb := hS.bd ho.2.2.1 nrW1
    refine h _ τ (Rd.of F1 (by decide) (by decide)) (fun P3 h3 => c_Msimple hMt (fun j' υ N' f' ho' hM hS' => ?_) (fun hno' => absurd ((hOt j).mpr ((hO j).mp ho)) (hno' j)))
    obtain rfl : j = j' := inj_n (ho.2.1.symm.trans ho'.2.1) (by omega) (by have := ho'.1; omega)
    rw [ect, ← q.1] at hS'
    have enr : nrM τ j t.toInt = nrM σ j t.toInt := by
      funext a b
      unfold nrM lnM mX mY
      simp only [fun k f => ez 56 k f (by omega) (by omega) (by omega) (by omega) (by omega), fun k f => ez 57 k f (by omega) (by omega) (by omega) (by omega) (by omega)]
    rw [enr] at hS'
    have hu := SmO.uni ho.2.2.1 (hS.congr (fun a b h1 h2 => nr_iff hI.1 hj t.toInt a b h1 h2) (fun _ _ => rfl) hb.1) hS'
    obtain ⟨rfl, hff⟩ := hu
    have F2 : Fr [2, 5, 11, 13, 14, 58, 59, 60] σ υ := F1.tr ((Fr.of hM.1).mono (by decide))
    refine h3 υ (hI.setW F2 (by decide) (fun k hk => ?_)) (Rd.of F2 (by decide) (by decide))
    have u : ∀ a f, a = 2 ∨ a = 3 ∨ a = 4 ∨ a = 5 → gI υ a k f = gI τ a k f := fun a f ha => hM.1.1 a k f (by rcases ha with rfl | rfl | rfl | rfl <;> decide)
    by_cases e : k = j
    · subst e
      have e2 : ∀ f, f ≠ 4 → gI υ 2 k f = gI σ 2 k f := fun f hf => by rw [u 2 f (by omega)]; exact hT.1 2 k f (by omega) (by omega) (by omega) (by omega) (by omega)
      have e3 : ∀ f, gI υ 3 k f = gI σ 3 k f := fun f => F2 3 k f (by decide)
      have e4 : ∀ f, gI υ 4 k f = gI σ 4 k f := fun f => F2 4 k f (by decide)
      have e56 : ∀ f, gI υ 56 0 f = gI σ 56 0 f := fun f => F2 56 0 f (by decide)
      have e57 : ∀ f, gI υ 57 0 f = gI σ 57 0 f := fun f => F2 57 0 f (by decide)
      have n5 : ∀ i, i < N → gI υ 5 k i = nI (f i) := fun i hi => by rw [u 5 i (by omega)]; exact hT.2.2.2 i hi
      have n59 : ∀ i, i < N → gI υ 59 0 (20 * k + i) = nI (f i) := fun i hi => by rw [hM.2.2.2.1 i hi, hff i hi]
      obtain ⟨v1, v2, v3, v4, v5, v6⟩ := vW
      obtain ⟨m1, m2, m3, m4, m5, m6⟩ := hI.1.M k hk
      refine ⟨ctW σ k, N, ⟨by rw [e2 3 (by omega)]; exact v1, by rw [u 2 4 (by omega)]; exact hT.2.2.1, v3, hb.2.1, fun i hi => ?_, fun i hi => ?_⟩, ⟨by rw [F2 55 0 k (by decide), q.1]; exact m1, hM.2.2.1, v3, hb.2.1, fun i hi => ?_, fun i hi => ?_⟩, fun i hi => ?_, fun i hi => ?_, ?_, ?_, ?_, ?_, ?_⟩
      · unfold px py; rw [e3, e4]; exact v5 i hi
      · have := hb.2.2 i hi
        unfold nb; rw [n5 i hi, cl_n (by omega)]; exact ⟨this, rfl⟩
      · have := m5 i (by rw [← q.1]; exact hi)
        unfold mP mX mY at this ⊢; rw [e56, e57]; exact this
      · have := hb.2.2 i hi
        unfold mn; rw [n59 i hi, cl_n (by omega)]; exact ⟨this, rfl⟩
      · rw [e3, e4, e56, e57]; exact q.2.2.1 i hi
      · rw [n5 i hi, n59 i hi]
      · rw [e2 5 (by omega), F2 53 0 k (by decide)]; exact q.2.2.2.2.1
      · rw [e2 5 (by omega)]; exact q.2.2.2.2.2.1
      · rw [e2 6 (by omega), F2 54 0 k (by decide)]; exact q.2.2.2.2.2.2.1
      · rw [e2 7 (by omega), F2 52 0 k (by decide)]; exact q.2.2.2.2.2.2.2.1
      · rw [F2 52 0 k (by decide)]; exact q.2.2.2.2.2.2.2.2
    · refine (hI.1 k hk).cg (fun f => by rw [u 2 f (by omega)]; exact hT.1 2 k f (by omega) (by omega) (by omega) (by omega) (by omega)) (fun f => F2 3 k f (by decide)) (fun f => F2 4 k f (by decide)) (fun f => by rw [u 5 f (by omega)]; exact hT.1 5 k f (by omega) (by omega) (by omega) (by omega) (by omega)) (F2 52 0 k (by decide)) (F2 53 0 k (by decide)) (F2 54 0 k (by decide)) (F2 55 0 k (by decide)) ?_ (fun i _ => F2 56 0 _ (by decide)) (fun i _ => F2 57 0 _ (by decide)) (fun i hi => ?_)
      · rw [hM.2.1 k e]; exact ez 58 0 k (by omega) (by omega) (by omega) (by omega) (by omega)
      · rw [hM.2.2.2.2 _ (by omega)]; exact ez 59 0 _ (by omega) (by omega) (by omega) (by omega) (by omega)
  · exact h (-1) σ Rd.rf (fun P3 h3 => c_Msimple hI.1.M (fun j υ N f ho _ _ => absurd ((hO j).mpr ho) (hno j)) (fun _ => h3 σ hI Rd.rf))
theorem q_drawn {D : Nat} {σ : Mem} {v x : Int32} (hI : Inv σ) : QC (D + 2) M_TM_drawn M_MD_drawn [vR 0 0, vI v, vI x] [vR 51 0, vI v, vI x] σ := by
  intro Post h
  have hO : ∀ j k, drwW σ v x j k ↔ drwM σ v x j k := fun j k => by
    unfold drwW drwM
    constructor
    · rintro ⟨a1, a2, a3, a4⟩
      have q := hI.1.at a1
      have vv := (hI.1.V j a1).2.2.2.1
      exact ⟨a1, a2, q.2.2.2.2.2.2.2.2 (by omega), by rw [← q.2.1]; exact a3, a4⟩
    · rintro ⟨a1, a2, a3, a4, a5⟩
      have q := hI.1.at a1
      exact ⟨a1, a2, by rw [q.2.1]; exact a4, a5⟩
  refine c_TMdrawn hI.1.V (fun j k ho => ?_) (fun hno => ?_)
  · refine h _ σ Rd.rf (fun P3 h3 => c_Mdrawn hI.1.M (fun j' k' ho' => ?_) (fun hno' => absurd ((hO j k).mp ho) (hno' j k)))
    have h20 : shW σ j ≤ 20 := by have := (hI.1.V j ho.1).2.2.1; have := (hI.1.V j ho.1).2.2.2.1; omega
    obtain rfl : j = j' := inj_n (ho.2.1.symm.trans ho'.2.1) (by have := ho.1; omega) (by have := ho'.1; omega)
    have q := hI.1.at ho.1
    obtain rfl : k = k' := inj_n (ho.2.2.2.symm.trans ho'.2.2.2.2) (by have := ho.2.2.1; omega) (by have := ho'.2.2.2.1; have := q.2.1; omega)
    rw [← q.2.2.2.1 k ho.2.2.1]
    exact h3 σ hI Rd.rf
  · exact h (-1) σ Rd.rf (fun P3 h3 => c_Mdrawn hI.1.M (fun j k ho => absurd ((hO j k).mpr ho) (hno j k)) (fun _ => h3 σ hI Rd.rf))
theorem nb_mn {σ : Mem} (hI : InvW σ) {w i : Nat} (hw : w < 12) (hi : i < shW σ w) : nb σ w i = mn σ w i := by
  unfold nb mn; rw [(hI.at hw).2.2.2.1 i hi]
theorem lnW_M {σ : Mem} (hI : InvW σ) {w i : Nat} (hw : w < 12) (hi : i + 1 < shW σ w) : lnW σ w i = lnMW σ w i := by
  have q := (hI.at hw).2.2.1
  have v := (hI.V w hw).2.2.2.2.2
  unfold lnW lnMW spn lnM px py mX mY
  rw [(q _ (v i (by omega)).1).1, (q _ (v i (by omega)).1).2, (q _ (v (i + 1) hi).1).1, (q _ (v (i + 1) hi).1).2, nb_mn hI hw (by omega), nb_mn hI hw hi]
theorem q_turn {D : Nat} {σ : Mem} {v x : Int32} (hI : Inv σ) : QC (D + 2) M_TM_turn M_MD_turn [vR 0 0, vI v, vI x] [vR 51 0, vI v, vI x] σ := by
  intro Post h
  have hO : ∀ j k, trnW σ v x j k ↔ trnM σ v x j k := fun j k => by
    unfold trnW trnM
    constructor
    · rintro ⟨a1, a2, a3, a4⟩
      have q := hI.1.at a1
      have vv := (hI.1.V j a1).2.2.2.1
      exact ⟨a1, a2, q.2.2.2.2.2.2.2.2 (by omega), by rw [← q.2.1]; exact a3, a4⟩
    · rintro ⟨a1, a2, a3, a4, a5⟩
      have q := hI.1.at a1
      exact ⟨a1, a2, by rw [q.2.1]; exact a4, a5⟩
  refine c_TMturn hI.1.V (fun j k r ho hr => ?_) (fun hno => ?_)
  · refine h r σ Rd.rf (fun P3 h3 => c_Mturn hI.1.M (fun j' k' r' ho' hr' => ?_) (fun hno' => absurd ((hO j k).mp ho) (hno' j k)))
    have h20 : shW σ j ≤ 20 := by have := (hI.1.V j ho.1).2.2.1; have := (hI.1.V j ho.1).2.2.2.1; omega
    obtain rfl : j = j' := inj_n (ho.2.1.symm.trans ho'.2.1) (by have := ho.1; omega) (by have := ho'.1; omega)
    have q := hI.1.at ho.1
    have hk3 := ho.2.2.1
    have hk' : k + 1 = k' + 1 := inj_n (ho.2.2.2.symm.trans ho'.2.2.2.2) (by omega) (by have := ho'.2.2.2.1; have := q.2.1; omega)
    obtain rfl : k = k' := by omega
    have vn := (hI.1.V j ho.1).2.2.2.2.2 (k + 2) hk3
    have e : r' = r := by
      rw [t_eq, hr, hr', lnW_M hI.1 ho.1 (by omega)]
      unfold px py mX mY
      rw [(q.2.2.1 _ vn.1).1, (q.2.2.1 _ vn.1).2, nb_mn hI.1 ho.1 hk3]
    rw [e]
    exact h3 σ hI Rd.rf
  · exact h (-2) σ Rd.rf (fun P3 h3 => c_Mturn hI.1.M (fun j k r ho _ => absurd ((hO j k).mpr ho) (hno j k)) (fun _ => h3 σ hI Rd.rf))
theorem q_gap {D : Nat} {σ : Mem} {g : Int32} (hI : Inv σ) : QC (D + 1) M_TM_gap M_MD_gap [vR 0 0, vI g] [vR 51 0, vI g] σ := by
  intro Post h
  refine c_TMgap (fun ho => ?_) (fun ho => h (-1) σ Rd.rf (fun P3 h3 => c_Mgap (fun z => absurd z ho) (fun _ => h3 σ hI Rd.rf)))
  have F1 : Fr [0, 51] σ (pI σ 0 0 8 g) := Fr.rf.pI (by decide)
  refine h _ _ (Rd.of F1 (by decide) (by decide)) (fun P3 h3 => c_Mgap (fun _ => ?_) (fun z => absurd ho z))
  have e9 : gI (pI σ 0 0 8 g) 51 0 9 = gI σ 0 0 8 := by rw [gI_pI, if_neg (by omega)]; exact hI.2.1.1.symm
  rw [e9]
  have F : Fr [0, 51] σ (pI (pI σ 0 0 8 g) 51 0 9 g) := F1.pI (by decide)
  have f51 : ∀ j, j ≠ 9 → gI (pI (pI σ 0 0 8 g) 51 0 9 g) 51 0 j = gI σ 51 0 j := fun j hj => by rw [gI_pI, if_neg (by omega), gI_pI, if_neg (by omega)]
  refine h3 _ ⟨hI.1.cg F (by decide), ⟨?_, ?_⟩, hI.2.2.1.cg F (by decide) (f51 10 (by omega)) (f51 11 (by omega)), hI.2.2.2.1.cg F (by decide) (f51 15 (by omega)), hI.2.2.2.2.1.cg F (by decide), hI.2.2.2.2.2.1.cg F (by decide), hI.2.2.2.2.2.2.1.cg F (by decide), hI.2.2.2.2.2.2.2.1.cg F (by decide), hI.2.2.2.2.2.2.2.2.1.cg F (by decide) (f51 35 (by omega)), hI.2.2.2.2.2.2.2.2.2.cg F (by decide)⟩ (Rd.of F (by decide) (by decide))
  · rw [gI_pI, if_neg (by omega), gI_pI, if_pos ⟨rfl, rfl, rfl⟩, gI_pI, if_pos ⟨rfl, rfl, rfl⟩]
  · rw [gI_pI, if_neg (by omega), gI_pI, if_pos ⟨rfl, rfl, rfl⟩]; exact ho
theorem two_iff {σ : Mem} (hI : InvW σ) (v w : Int32) (i j : Nat) : TwoW σ v w i j ↔ TwoM σ v w i j := by
  unfold TwoW TwoM
  have th : ∀ k, k < 12 → (0 < (gI σ 2 k 3).toInt ↔ gI σ 52 0 k ≠ 0 ∧ 0 < (gI σ 55 0 k).toInt) := fun k hk => by
    have q := hI.at hk
    have v := hI.V k hk
    have m := hI.M k hk
    have := v.2.2.1
    have := m.2.2.1
    rw [v.1, m.1, nI_t (by omega), nI_t (by omega)]
    constructor
    · intro z; exact ⟨q.2.2.2.2.2.2.2.2 (by omega), by have := q.1; omega⟩
    · rintro ⟨_, z⟩; have := q.1; omega
  constructor
  · rintro ⟨a1, a2, a3, a4, a5, a6, a7⟩; exact ⟨a1, a2, a3, a4, a5, (th i a1).mp a6, (th j a2).mp a7⟩
  · rintro ⟨a1, a2, a3, a4, a5, a6, a7⟩; exact ⟨a1, a2, a3, a4, a5, (th i a1).mpr a6, (th j a2).mpr a7⟩
theorem near_iff {σ : Mem} (hI : InvW σ) {i j : Nat} (hi : i < 12) (hj : j < 12) (g : Int) : NearW σ i j (shW σ i) (shW σ j) g ↔ NearM σ i j (shM σ i) (shM σ j) g := by
  unfold NearW NearM
  rw [← (hI.at hi).2.1, ← (hI.at hj).2.1]
  constructor
  · rintro ⟨a, b, h1, h2, h3⟩; exact ⟨a, b, h1, h2, by rw [← lnW_M hI hi h1, ← lnW_M hI hj h2]; exact h3⟩
  · rintro ⟨a, b, h1, h2, h3⟩; exact ⟨a, b, h1, h2, by rw [lnW_M hI hi h1, lnW_M hI hj h2]; exact h3⟩
theorem q_near {D : Nat} {σ : Mem} {v w : Int32} (hI : Inv σ) : QC (D + 7) M_TM_near M_MD_near [vR 0 0, vI v, vI w] [vR 51 0, vI v, vI w] σ := by
  intro Post h
  have hg := hI.2.1.2
  have mod : ∀ τ : Mem, Eqs [11, 12] σ τ → AllM τ ∧ (0 ≤ (gI τ 51 0 9).toInt ∧ (gI τ 51 0 9).toInt ≤ 100) ∧ Inv τ ∧ Rd σ τ ∧ (∀ i j, TwoM τ v w i j ↔ TwoW σ v w i j) ∧ ∀ i j, i < 12 → j < 12 → (NearM τ i j (shM τ i) (shM τ j) (gI τ 51 0 9).toInt ↔ NearW σ i j (shW σ i) (shW σ j) (gI σ 0 0 8).toInt) := fun τ hE => by
    have hI2 : Inv τ := hI.cg (Fr.of hE) (by decide)
    have e9 : gI τ 51 0 9 = gI σ 0 0 8 := by rw [hE.1 51 0 9 (by decide)]; exact hI.2.1.1.symm
    refine ⟨hI2.1.M, by rw [e9]; exact hg, hI2, Rd.of (Fr.of hE) (by decide) (by decide), fun i j => ?_, fun i j hi hj => ?_⟩
    · rw [two_iff hI.1]
      unfold TwoM
      simp only [fun a b => hE.1 52 a b (by decide), fun a b => hE.1 55 a b (by decide)]
    · rw [near_iff hI.1 hi hj, e9]
      have es : ∀ k, shM τ k = shM σ k := fun k => by unfold shM; rw [hE.1 58 0 k (by decide)]
      rw [es, es, NearM_eq hE (by decide) (by decide) (by decide)]
  refine c_TMnear (d := D + 3) hI.1.V hg (fun i j τ ht hE hn => ?_) (fun i j τ ht hE hn => ?_) (fun hno => ?_)
  · obtain ⟨m1, m2, m3, m4, m5, m6⟩ := mod τ hE
    refine h 1 τ m4 (fun P3 h3 => c_Mnear m1 m2 (fun i' j' ht' hn' => h3 τ m3 m4) (fun i' j' ht' hn' => ?_) (fun z => absurd ((m5 i j).mpr ht) (z i j)))
    obtain rfl : i = i' := inj_n (ht.2.2.2.1.symm.trans ht'.2.2.2.1) (by have := ht.1; omega) (by have := ht'.1; omega)
    obtain rfl : j = j' := inj_n (ht.2.2.2.2.1.symm.trans ht'.2.2.2.2.1) (by have := ht.2.1; omega) (by have := ht'.2.1; omega)
    exact absurd ((m6 i j ht.1 ht.2.1).mpr hn) hn'
  · obtain ⟨m1, m2, m3, m4, m5, m6⟩ := mod τ hE
    refine h 0 τ m4 (fun P3 h3 => c_Mnear m1 m2 (fun i' j' ht' hn' => ?_) (fun i' j' ht' hn' => h3 τ m3 m4) (fun z => absurd ((m5 i j).mpr ht) (z i j)))
    obtain rfl : i = i' := inj_n (ht.2.2.2.1.symm.trans ht'.2.2.2.1) (by have := ht.1; omega) (by have := ht'.1; omega)
    obtain rfl : j = j' := inj_n (ht.2.2.2.2.1.symm.trans ht'.2.2.2.2.1) (by have := ht.2.1; omega) (by have := ht'.2.1; omega)
    exact absurd ((m6 i j ht.1 ht.2.1).mp hn') hn
  · obtain ⟨m1, m2, m3, m4, m5, m6⟩ := mod σ Eqs.rf
    exact h (-1) σ Rd.rf (fun P3 h3 => c_Mnear m1 m2 (fun i j ht _ => absurd ((m5 i j).mp ht) (hno i j)) (fun i j ht _ => absurd ((m5 i j).mp ht) (hno i j)) (fun _ => h3 σ hI Rd.rf))
theorem cr_eq {σ : Mem} (hI : InvW σ) {i j : Nat} (hi : i < 12) (hj : j < 12) : crW σ i j (shW σ i) (shW σ j) = crM σ i j (shM σ i) (shM σ j) := by
  unfold crW crM
  rw [← (hI.at hi).2.1, ← (hI.at hj).2.1]
  refine sN_congr (fun a ha => cN_congr (fun b hb => ?_))
  rw [lnW_M hI hi (by omega), lnW_M hI hj (by omega)]
theorem q_crossings {D : Nat} {σ : Mem} {v w : Int32} (hI : Inv σ) : QC (D + 4) M_TM_crossings M_MD_crossings [vR 0 0, vI v, vI w] [vR 51 0, vI v, vI w] σ := by
  intro Post h
  refine c_TMcrossings hI.1.V (fun i j τ ht hE => ?_) (fun hno => ?_)
  · have hI2 : Inv τ := hI.cg (Fr.of hE) (by decide)
    have hR : Rd σ τ := Rd.of (Fr.of hE) (by decide) (by decide)
    have m5 : ∀ i j, TwoM τ v w i j ↔ TwoW σ v w i j := fun i j => by
      rw [two_iff hI.1]
      unfold TwoM
      simp only [fun a b => hE.1 52 a b (by decide), fun a b => hE.1 55 a b (by decide)]
    refine h _ τ hR (fun P3 h3 => c_Mcrossings (d := D + 1) hI2.1.M (fun i' j' ht' => ?_) (fun z => absurd ((m5 i j).mpr ht) (z i j)))
    obtain rfl : i = i' := inj_n (ht.2.2.2.1.symm.trans ht'.2.2.2.1) (by have := ht.1; omega) (by have := ht'.1; omega)
    obtain rfl : j = j' := inj_n (ht.2.2.2.2.1.symm.trans ht'.2.2.2.2.1) (by have := ht.2.1; omega) (by have := ht'.2.1; omega)
    have es : ∀ k, shM τ k = shM σ k := fun k => by unfold shM; rw [hE.1 58 0 k (by decide)]
    have e : crM τ i j (shM τ i) (shM τ j) = crW σ i j (shW σ i) (shW σ j) := by
      rw [cr_eq hI.1 ht.1 ht.2.1, es, es]
      unfold crM
      simp only [fun a b => lnMW_eq hE (by decide) (by decide) (by decide) a b]
    rw [e]
    exact h3 τ hI2 hR
  · exact h (-1) σ Rd.rf (fun P3 h3 => c_Mcrossings (d := D + 1) hI.1.M (fun i j ht => absurd ((two_iff hI.1 v w i j).mpr ht) (hno i j)) (fun _ => h3 σ hI Rd.rf))
theorem q_kept {D : Nat} {σ : Mem} {v : Int32} (hI : Inv σ) : QC (D + 1) M_TM_kept M_MD_kept [vR 0 0, vI v] [vR 51 0, vI v] σ := by
  intro Post h
  have hK := hI.2.2.1
  refine c_TMkept (fun j hj ej hf => ?_) (fun hno => ?_)
  · refine h _ σ Rd.rf (fun P3 h3 => c_Mkept (fun j' hj' ej' hf' => ?_) (fun z => absurd (z j hj ej) (by rw [← hK.2.1]; exact hf)))
    obtain rfl : j = j' := inj_n (ej.symm.trans ej') (by omega) (by omega)
    have := hK.2.2 j hj
    by_cases z : gI σ 21 0 j = 0
    · rw [if_pos (this.mp ⟨hf, z⟩)]; rw [if_pos z] at h3; exact h3 σ hI Rd.rf
    · rw [if_neg (fun y => z (this.mpr y).2)]; rw [if_neg z] at h3; exact h3 σ hI Rd.rf
  · exact h (-1) σ Rd.rf (fun P3 h3 => c_Mkept (fun j hj ej hf => absurd (hno j hj ej) (by rw [hK.2.1]; exact hf)) (fun _ => h3 σ hI Rd.rf))
theorem KpO.cg {th th' dg dg' : Nat → Prop} {nr nr' : Nat → Nat → Prop} {wt wt' f : Nat → Nat} (h : KpO th dg nr wt f) (h1 : ∀ i, i < 12 → (th i ↔ th' i)) (h2 : ∀ i, i < 12 → (dg i ↔ dg' i)) (h3 : ∀ i j, i < 12 → j < 12 → th i → th j → (nr i j ↔ nr' i j)) (h4 : ∀ i, i < 12 → wt i = wt' i) : KpO th' dg' nr' wt' f := by
  have a : ∀ e, KpF th' dg' nr' e → KpF th dg nr e := fun e he => ⟨fun i hi => ⟨(he.1 i hi).1, fun z => (h1 i hi).mpr ((he.1 i hi).2 z)⟩, fun i hi z => he.2.1 i hi ((h2 i hi).mp z), fun i j hi hj z1 z2 z3 => he.2.2 i j hi hj z1 z2 ((h3 i j hi hj ((h1 i hi).mpr ((he.1 i hi).2 z1)) ((h1 j hj).mpr ((he.1 j hj).2 z2))).mp z3)⟩
  have b : KpF th' dg' nr' f := ⟨fun i hi => ⟨(h.1.1 i hi).1, fun z => (h1 i hi).mp ((h.1.1 i hi).2 z)⟩, fun i hi z => h.1.2.1 i hi ((h2 i hi).mpr z), fun i j hi hj z1 z2 z3 => h.1.2.2 i j hi hj z1 z2 ((h3 i j hi hj ((h.1.1 i hi).2 z1) ((h.1.1 j hj).2 z2)).mpr z3)⟩
  have e : ∀ x, vF 1 (fun i => wt i * 16 + 1) x 0 12 = vF 1 (fun i => wt' i * 16 + 1) x 0 12 := fun x => vF_gcg 12 0 (fun i _ hi _ => by rw [h4 i (by omega)])
  refine ⟨b, fun x hx => ?_⟩
  rw [← e, ← e]
  exact h.2 x (a x hx)
theorem q_keep {D : Nat} {σ : Mem} (hI : Inv σ) : QC (D + 16) M_TM_keep M_MD_keep [vR 0 0] [vR 51 0] σ := by
  intro Post h
  have hg := hI.2.1.2
  have hK := hI.2.2.1
  have hw : WtOK σ := fun w hw => by
    have q := (hI.1.at hw).2.2.2.2.2.1
    obtain ⟨n, hn, e⟩ := t_nat (x := gI σ 2 w 5) (n := 1000) q.1 q.2 (by omega)
    have : wtW σ w = n := by unfold wtW; rw [e, cl_n (by omega)]
    rw [this]; exact ⟨e, hn⟩
  have th : ∀ k, k < 12 → (thW σ k ↔ thM σ k) := fun k hk => by
    have q := hI.1.at hk
    have v := hI.1.V k hk
    have m := hI.1.M k hk
    have := v.2.2.1
    have := m.2.2.1
    unfold thW thM
    rw [v.1, m.1, nI_t (by omega), nI_t (by omega)]
    constructor
    · intro z; exact ⟨q.2.2.2.2.2.2.2.2 (by omega), by have := q.1; omega⟩
    · rintro ⟨_, z⟩; have := q.1; omega
  have dg : ∀ k, k < 12 → (dgW σ k ↔ dgM σ k) := fun k hk => by
    have q := hI.1.at hk
    have := th k hk
    unfold thW at this
    unfold dgW dgM
    rw [q.2.2.2.2.2.2.1, this]
    exact And.comm
  have cl : ∀ i j, i < 12 → j < 12 → thW σ i → thW σ j → (clW σ i j ↔ clM σ i j) := fun i j hi hj z1 z2 => by
    unfold clW clM
    rw [near_iff hI.1 hi hj, hI.2.1.1]
    exact ⟨fun y => ⟨y.1, (th i hi).mp z1, (th j hj).mp z2, y.2⟩, fun y => ⟨y.1, y.2.2.2⟩⟩
  have wt : ∀ k, k < 12 → wtW σ k = wtM σ k := fun k hk => by unfold wtW wtM; rw [(hI.1.at hk).2.2.2.2.1]
  have ok : dgOK σ ↔ dgOM σ := by
    unfold dgOK dgOM
    constructor
    · intro y i j hi hj z1 z2 z3
      have w1 := (dg i hi).mpr z1
      have w2 := (dg j hj).mpr z2
      exact y i j hi hj w1 w2 ((cl i j hi hj w1.2 w2.2).mpr z3)
    · intro y i j hi hj z1 z2 z3
      exact y i j hi hj ((dg i hi).mp z1) ((dg j hj).mp z2) ((cl i j hi hj z1.2 z2.2).mp z3)
  -- the model's side from a later memory
  have mod : ∀ τ : Mem, Eqs [11, 12, 15, 16, 17, 18, 19, 20, 21] σ τ → AllM τ ∧ (0 ≤ (gI τ 51 0 9).toInt ∧ (gI τ 51 0 9).toInt ≤ 100) ∧ WtOM τ ∧ thM τ = thM σ ∧ dgM τ = dgM σ ∧ clM τ = clM σ ∧ wtM τ = wtM σ := fun τ hE => by
    have e9 : gI τ 51 0 9 = gI σ 51 0 9 := hE.1 51 0 9 (by decide)
    have et : thM τ = thM σ := by funext k; unfold thM; rw [hE.1 52 0 k (by decide), hE.1 55 0 k (by decide)]
    have es : ∀ k, shM τ k = shM σ k := fun k => by unfold shM; rw [hE.1 58 0 k (by decide)]
    have ew : wtM τ = wtM σ := by funext k; unfold wtM; rw [hE.1 53 0 k (by decide)]
    refine ⟨hI.1.M.eq hE (by decide) (by decide) (by decide) (by decide) (by decide), by rw [e9, ← hI.2.1.1]; exact hg, fun k hk => ?_, et, ?_, ?_, ew⟩
    · rw [ew, hE.1 53 0 k (by decide), ← wt k hk, ← (hI.1.at hk).2.2.2.2.1]; exact hw k hk
    · funext k; unfold dgM; rw [et, hE.1 54 0 k (by decide)]
    · funext i j; unfold clM; rw [et, e9, es, es]
      exact propext (and_congr_right fun _ => and_congr_right fun _ => and_congr_right fun _ => NearM_eq hE (by decide) (by decide) (by decide))
  refine c_TMkeep hI.1.V hg hw hK.1 (fun τ f hE hC h15 hok hO hf => ?_) (fun τ hE hno => ?_)
  · obtain ⟨m1, m2, m3, m4, m5, m6, m7⟩ := mod τ hE
    have F1 : Fr [11, 12, 15, 16, 17, 18, 19, 20, 21, 51, 61] σ τ := (Fr.of hE).mono (by decide)
    have hO' : KpO (thM σ) (dgM σ) (clM σ) (wtM σ) f := hO.cg th dg cl wt
    refine h _ τ (Rd.of F1 (by decide) (by decide)) (fun P3 h3 => c_Mkeep (d := D + 9) m1 m2 m3 (fun υ x hU h51 h11 h10 hx hok' hOx => ?_) (fun υ hU hno => ?_))
    · rw [m4, m5, m6, m7] at hOx
      have ef := hO'.uni hOx
      have ev : vF 1 (wtM τ) (fS x) 0 12 = vF 1 (wtW σ) f 0 12 := by
        rw [m7, vF_congr (f := fS x) (f' := f) 12 0 (fun i _ hi => (ef i (by omega)).symm)]
        exact (vF_gcg 12 0 (fun i _ hi _ => wt i (by omega))).symm
      rw [ev]
      have F : Fr [11, 12, 15, 16, 17, 18, 19, 20, 21, 51, 61] σ υ := F1.tr ((Fr.of hU).mono (by decide))
      have f51 : ∀ j, j ≠ 10 → j ≠ 11 → gI υ 51 0 j = gI σ 51 0 j := fun j z1 z2 => by rw [h51 j z1 z2]; exact hE.1 51 0 j (by decide)
      refine h3 υ ⟨hI.1.cg F (by decide), hI.2.1.cg F (by decide) (f51 9 (by omega) (by omega)), ⟨?_, ?_, fun w hw12 => ?_⟩, hI.2.2.2.1.cg F (by decide) (f51 15 (by omega) (by omega)), hI.2.2.2.2.1.cg F (by decide), hI.2.2.2.2.2.1.cg F (by decide), hI.2.2.2.2.2.2.1.cg F (by decide), hI.2.2.2.2.2.2.2.1.cg F (by decide), hI.2.2.2.2.2.2.2.2.1.cg F (by decide) (f51 35 (by omega) (by omega)), hI.2.2.2.2.2.2.2.2.2.cg F (by decide)⟩ (Rd.of F (by decide) (by decide))
      · unfold ChInv16; rw [hU.1 16 0 0 (by decide), hU.1 16 0 1 (by decide), hU.1 19 0 12 (by decide)]; exact hC
      · rw [hU.1 15 0 1 (by decide), h15, h11]
      · rw [hU.1 15 0 1 (by decide), h15, hU.1 21 0 w (by decide), hf w hw12, h10]
        have hfi := (hO.1.1 w hw12).1
        have e := ef w hw12
        constructor
        · rintro ⟨_, z⟩
          have : f w = 0 := inj_n (j := 0) z (by omega) (by omega)
          exact fS_0.mp (by rw [← e]; exact this)
        · intro z
          have : fS x w = 0 := fS_0.mpr z
          rw [e, this]
          exact ⟨by decide, rfl⟩
    · have : dgOM τ ↔ dgOM σ := by unfold dgOM; rw [m5, m6]
      exact absurd (this.mpr (ok.mp hok)) hno
  · obtain ⟨m1, m2, m3, m4, m5, m6, m7⟩ := mod τ (hE.mono (by decide))
    have e : dgOM τ ↔ dgOM σ := by unfold dgOM; rw [m5, m6]
    have F1 : Fr [11, 12, 17, 18, 61] σ τ := (Fr.of hE).mono (by decide)
    refine h (-1) τ (Rd.of F1 (by decide) (by decide)) (fun P3 h3 => c_Mkeep (d := D + 9) m1 m2 m3 (fun υ x hU h51 h11 h10 hx hok' hOx => absurd (ok.mpr (e.mp hok')) hno) (fun υ hU _ => ?_))
    have F : Fr [11, 12, 17, 18, 61] σ υ := F1.tr ((Fr.of hU).mono (by decide))
    exact h3 υ (hI.cg F (by decide)) (Rd.of F (by decide) (by decide))
