/-! each call: letters, names, places, textures -/
theorem InvT.zero {σ : Mem} (h1 : gI σ 22 0 1 = 0) (h2 : gI σ 51 0 15 = 0) : InvT σ := ⟨0, h1, h2, by omega, fun j hj => by omega⟩
theorem Inv.drop {σ : Mem} (hI : Inv σ) : Inv (pI (pI σ 22 0 1 0) 51 0 15 0) ∧ Rd σ (pI (pI σ 22 0 1 0) 51 0 15 0) ∧ gI (pI σ 22 0 1 0) 51 0 15 = gI σ 51 0 15 ∧ Rd σ (pI σ 22 0 1 0) := by
  have F1 : Fr [22, 51] σ (pI σ 22 0 1 0) := Fr.rf.pI (by decide)
  have F : Fr [22, 51] σ (pI (pI σ 22 0 1 0) 51 0 15 0) := F1.pI (by decide)
  have f51 : ∀ j, j ≠ 15 → gI (pI (pI σ 22 0 1 0) 51 0 15 0) 51 0 j = gI σ 51 0 j := fun j hj => by rw [gI_pI, if_neg (by omega), gI_pI, if_neg (by omega)]
  refine ⟨⟨hI.1.cg F (by decide), hI.2.1.cg F (by decide) (f51 9 (by omega)), hI.2.2.1.cg F (by decide) (f51 10 (by omega)) (f51 11 (by omega)), ?_, hI.2.2.2.2.1.cg F (by decide), hI.2.2.2.2.2.1.cg F (by decide), hI.2.2.2.2.2.2.1.cg F (by decide), hI.2.2.2.2.2.2.2.1.cg F (by decide), hI.2.2.2.2.2.2.2.2.1.cg F (by decide) (f51 35 (by omega)), hI.2.2.2.2.2.2.2.2.2.cg F (by decide)⟩, Rd.of F (by decide) (by decide), by rw [gI_pI, if_neg (by omega)], Rd.of F1 (by decide) (by decide)⟩
  exact InvT.zero (by rw [gI_pI, if_neg (by omega), gI_pI, if_pos ⟨rfl, rfl, rfl⟩]) (by rw [gI_pI, if_pos ⟨rfl, rfl, rfl⟩])
theorem q_letter {D : Nat} {σ : Mem} {c : Int32} (hI : Inv σ) : QC (D + 1) M_TM_letter M_MD_letter [vR 0 0, vI c] [vR 51 0, vI c] σ := by
  intro Post h
  obtain ⟨t, h1, h2, h3, h4⟩ := hI.2.2.2.1
  refine c_TMletter h1 h3 (fun ho => ?_) (fun ho => h (-1) σ Rd.rf (fun P3 h3' => c_Mletter h2 h3 (fun z => absurd z ho) (fun _ => h3' σ hI Rd.rf)))
  have F1 : Fr [22, 23, 51, 63] σ (pI (pI σ 23 0 t c) 22 0 1 (nI (t + 1))) := (Fr.rf.pI (by decide)).pI (by decide)
  have e15 : gI (pI (pI σ 23 0 t c) 22 0 1 (nI (t + 1))) 51 0 15 = nI t := by rw [gI_pI, if_neg (by omega), gI_pI, if_neg (by omega)]; exact h2
  refine h _ _ (Rd.of F1 (by decide) (by decide)) (fun P3 h3' => c_Mletter e15 h3 (fun _ => ?_) (fun z => absurd ho z))
  have F : Fr [22, 23, 51, 63] σ (pI (pI (pI (pI σ 23 0 t c) 22 0 1 (nI (t + 1))) 63 0 t c) 51 0 15 (nI t + 1)) := (F1.pI (by decide)).pI (by decide)
  have f51 : ∀ j, j ≠ 15 → gI (pI (pI (pI (pI σ 23 0 t c) 22 0 1 (nI (t + 1))) 63 0 t c) 51 0 15 (nI t + 1)) 51 0 j = gI σ 51 0 j := fun j hj => by rw [gI_pI, if_neg (by omega), gI_pI, if_neg (by omega), gI_pI, if_neg (by omega), gI_pI, if_neg (by omega)]
  refine h3' _ ⟨hI.1.cg F (by decide), hI.2.1.cg F (by decide) (f51 9 (by omega)), hI.2.2.1.cg F (by decide) (f51 10 (by omega)) (f51 11 (by omega)), ?_, hI.2.2.2.2.1.cg F (by decide), hI.2.2.2.2.2.1.cg F (by decide), hI.2.2.2.2.2.2.1.cg F (by decide), hI.2.2.2.2.2.2.2.1.cg F (by decide), hI.2.2.2.2.2.2.2.2.1.cg F (by decide) (f51 35 (by omega)), hI.2.2.2.2.2.2.2.2.2.cg F (by decide)⟩ (Rd.of F (by decide) (by decide))
  refine ⟨t + 1, by rw [gI_pI, if_neg (by omega), gI_pI, if_neg (by omega), gI_pI, if_pos ⟨rfl, rfl, rfl⟩], by rw [gI_pI, if_pos ⟨rfl, rfl, rfl⟩, nI_1], by have := ho.2.2; omega, fun j hj => ?_⟩
  have e1 : gI (pI (pI (pI (pI σ 23 0 t c) 22 0 1 (nI (t + 1))) 63 0 t c) 51 0 15 (nI t + 1)) 23 0 j = if j = t then c else gI σ 23 0 j := by
    rw [gI_pI, if_neg (by omega), gI_pI, if_neg (by omega), gI_pI, if_neg (by omega), gI_pI]
    by_cases z : j = t
    · rw [if_pos z, if_pos ⟨rfl, rfl, z⟩]
    · rw [if_neg z, if_neg (fun y => z y.2.2)]
  have e2 : gI (pI (pI (pI (pI σ 23 0 t c) 22 0 1 (nI (t + 1))) 63 0 t c) 51 0 15 (nI t + 1)) 63 0 j = if j = t then c else gI σ 63 0 j := by
    rw [gI_pI, if_neg (by omega), gI_pI]
    by_cases z : j = t
    · rw [if_pos z, if_pos ⟨rfl, rfl, z⟩]
    · rw [if_neg z, if_neg (fun y => z y.2.2), gI_pI, if_neg (by omega), gI_pI, if_neg (by omega)]
  rw [e1, e2]
  by_cases z : j = t
  · rw [if_pos z, if_pos z]; exact ⟨rfl, ho.1, ho.2.1⟩
  · rw [if_neg z, if_neg z]; exact h4 j (by omega)
theorem q_contract {D : Nat} {σ : Mem} {v x : Int32} (hI : Inv σ) : QC (D + 3) M_TM_contract M_MD_contract [vR 0 0, vI v, vI x] [vR 51 0, vI v, vI x] σ := by
  intro Post h
  obtain ⟨t, h1, h2, h3, h4⟩ := hI.2.2.2.1
  refine c_TMcontract h1 h3 (fun k τ ho hS => ?_) (fun hno => ?_)
  · have F0 : Fr [22, 26, 31, 32, 51, 64, 65, 66] σ τ := fun a i j q => hS.1 a i j (fun z => q (by rw [z.1]; decide)) (fun z => q (by rw [z.1]; decide)) (fun z => q (by rw [z.1]; decide))
    have F1 : Fr [22, 26, 31, 32, 51, 64, 65, 66] σ (pI τ 22 0 1 0) := F0.pI (by decide)
    have p : ∀ a i j, a ≠ 22 → gI (pI τ 22 0 1 0) a i j = gI τ a i j := fun a i j z => by rw [gI_pI, if_neg (fun y => z y.1)]
    have p51 : ∀ j, gI (pI τ 22 0 1 0) 51 0 j = gI σ 51 0 j := fun j => by rw [p 51 0 j (by decide)]; exact hS.1 51 0 j (by omega) (by omega) (by omega)
    refine h 1 _ (Rd.of F1 (by decide) (by decide)) (fun P3 h3' => c_Mcontract (d := D + 2) ((p51 15).trans h2) h3 (fun k' υ ho' hM => ?_) (fun z => absurd ho (z k)))
    obtain rfl : k = k' := inj_n (ho.2.1.symm.trans ho'.2.1) (by have := ho.1; omega) (by have := ho'.1; omega)
    have F : Fr [22, 26, 31, 32, 51, 64, 65, 66] σ υ := F1.tr ((Fr.of hM.1).mono (by decide))
    have f51 : ∀ j, j ≠ 15 → gI υ 51 0 j = gI σ 51 0 j := fun j hj => by rw [hM.2.1, if_neg hj]; exact p51 j
    have u : ∀ a i j, a ≠ 22 → a ≠ 51 → a ≠ 64 → a ≠ 65 → a ≠ 66 → gI υ a i j = gI τ a i j := fun a i j z1 z2 z3 z4 z5 => by rw [hM.1.1 a i j (by simp; omega), p a i j z1]
    refine h3' υ ⟨hI.1.cg F (by decide), hI.2.1.cg F (by decide) (f51 9 (by omega)), hI.2.2.1.cg F (by decide) (f51 10 (by omega)) (f51 11 (by omega)), ?_, ?_, hI.2.2.2.2.2.1.cg F (by decide), hI.2.2.2.2.2.2.1.cg F (by decide), hI.2.2.2.2.2.2.2.1.cg F (by decide), hI.2.2.2.2.2.2.2.2.1.cg F (by decide) (f51 35 (by omega)), hI.2.2.2.2.2.2.2.2.2.cg F (by decide)⟩ (Rd.of F (by decide) (by decide))
    · refine InvT.zero ?_ (by rw [hM.2.1, if_pos rfl])
      rw [hM.1.1 22 0 1 (by decide), gI_pI, if_pos ⟨rfl, rfl, rfl⟩]
    · intro k2 hk2
      by_cases e : k2 = k
      · subst e
        refine ⟨min t 4, by rw [u 31 k2 1 (by omega) (by omega) (by omega) (by omega) (by omega)]; exact hS.2.2.1, by omega, ?_⟩
        rw [u 26 0 k2 (by omega) (by omega) (by omega) (by omega) (by omega), hS.2.2.2.2, hM.2.2.1, if_pos rfl, hM.2.2.2.1, if_pos rfl]
        by_cases hx : x = 0
        · exact Or.inr ⟨hx, by rw [if_pos hx]⟩
        · have ht : 2 ≤ t ∧ t ≤ 4 := by rcases ho.2.2.2.2 with z | z; exact absurd z hx; exact z
          refine Or.inl ⟨hx, by omega, by rw [if_neg hx, show min t 4 = t by omega], rfl, fun j hj => ?_⟩
          rw [u 32 k2 j (by omega) (by omega) (by omega) (by omega) (by omega), hS.2.2.2.1 j hj, hM.2.2.2.2.1 hx j (by omega), p 63 0 j (by omega), hS.1 63 0 j (by omega) (by omega) (by omega)]
          exact (h4 j (by omega)).1
      · refine (hI.2.2.2.2.1 k2 hk2).cg ?_ (fun j => ?_) ?_ ?_ ?_ (fun j hj => ?_)
        · rw [u 31 k2 1 (by omega) (by omega) (by omega) (by omega) (by omega)]; exact hS.1 31 k2 1 (by omega) (by omega) (by omega)
        · rw [u 32 k2 j (by omega) (by omega) (by omega) (by omega) (by omega)]; exact hS.1 32 k2 j (by omega) (by omega) (by omega)
        · rw [u 26 0 k2 (by omega) (by omega) (by omega) (by omega) (by omega)]; exact hS.1 26 0 k2 (by omega) (by omega) (by omega)
        · rw [hM.2.2.1, if_neg e, p 64 0 k2 (by omega)]; exact hS.1 64 0 k2 (by omega) (by omega) (by omega)
        · rw [hM.2.2.2.1, if_neg e, p 66 0 k2 (by omega)]; exact hS.1 66 0 k2 (by omega) (by omega) (by omega)
        · rw [hM.2.2.2.2.2 _ (by omega), p 65 0 _ (by omega)]; exact hS.1 65 0 _ (by omega) (by omega) (by omega)
  · obtain ⟨d1, d2, d3, d4⟩ := hI.drop
    exact h 0 _ d4 (fun P3 h3' => c_Mcontract (d := D + 2) (d3.trans h2) h3 (fun k υ ho _ => absurd ho (hno k)) (fun _ => h3' _ d1 d2))
/-! spelling on both sides -/
theorem InvC.C {σ : Mem} (h : InvC σ) : CtrOK σ := fun k hk => by
  obtain ⟨l, h1, h2, h3⟩ := h k hk
  have e : lnP σ k = l := by unfold lnP; rw [h1, cl_n (by omega)]
  rw [e]
  refine ⟨h1, h2, fun z => ?_⟩
  rcases h3 with y | y
  · exact y.2.1
  · exact absurd y.1 z
theorem InvC.M {σ : Mem} (h : InvC σ) : CtrM σ := fun k hk => by
  obtain ⟨l, h1, h2, h3⟩ := h k hk
  rcases h3 with y | y
  · have e : lnS σ k = l := by unfold lnS; rw [y.2.2.1, cl_n (by omega)]
    rw [e]; exact ⟨y.2.2.1, h2, fun _ => y.2.1⟩
  · have e : lnS σ k = 0 := by unfold lnS; rw [y.2]; rfl
    rw [e]; exact ⟨y.2, by omega, fun z => absurd rfl z⟩
theorem InvC.both {σ : Mem} (h : InvC σ) {k : Nat} (hk : k < 10) : (gI σ 26 0 k ≠ 0 ↔ lnS σ k ≠ 0) ∧ (gI σ 26 0 k ≠ 0 → lnP σ k = lnS σ k ∧ ckC σ k = ckM σ k ∧ ∀ j, j < lnP σ k → gI σ 32 k j = gI σ 65 0 (4 * k + j)) := by
  obtain ⟨l, h1, h2, h3⟩ := h k hk
  have e0 : lnP σ k = l := by unfold lnP; rw [h1, cl_n (by omega)]
  rcases h3 with y | y
  · have e : lnS σ k = l := by unfold lnS; rw [y.2.2.1, cl_n (by omega)]
    rw [e, e0]; exact ⟨⟨fun _ => by omega, fun _ => y.1⟩, fun _ => ⟨rfl, y.2.2.2.1.symm, y.2.2.2.2⟩⟩
  · have e : lnS σ k = 0 := by unfold lnS; rw [y.2]; rfl
    rw [e]; exact ⟨⟨fun z => absurd y.1 z, fun z => absurd rfl z⟩, fun z => absurd y.1 z⟩
theorem SpO.le {L N : Nat} {st : Nat → Nat → Prop} {len : Nat → Nat} {lc ck cells : Nat → Int32} (h : SpO L st len lc ck N cells) : N ≤ L := by
  obtain ⟨m, idx, h1, h2, _⟩ := h
  have := h1.le 0 (by omega)
  omega
/-- one word on both sides: letters a of the class, b of the model -/
theorem sp_turn {σ τ : Mem} {L N n : Nat} {a : Nat → Int32} {cells : Nat → Int32} (hC : InvC σ) (hD : InvD σ) (e64 : ∀ c, gI τ 64 0 c = gI σ 64 0 c) (e65 : ∀ c, gI τ 65 0 c = gI σ 65 0 c) (e66 : ∀ c, gI τ 66 0 c = gI σ 66 0 c) (e62 : ∀ c, gI τ 62 0 c = gI σ 62 0 c) (hab : ∀ j, j < L → gI τ 68 0 (12 * n + j) = a j ∧ 97 ≤ (a j).toInt ∧ (a j).toInt ≤ 122) (h : SpO L (stM τ n L) (lnS τ) (lcM τ n) (ckM τ) N cells) : SpO L (fun k i => k < 10 ∧ gI σ 26 0 k ≠ 0 ∧ i + lnP σ k ≤ L ∧ ∀ j, j < lnP σ k → a (i + j) = gI σ 32 k j) (lnP σ) (fun i => gI σ 85 0 (a i - 97).toNatClampNeg) (ckC σ) N cells := by
  have eS : ∀ k, lnS τ k = lnS σ k := fun k => by unfold lnS; rw [e64]
  have eK : ∀ k, ckM τ k = ckM σ k := fun k => by unfold ckM; rw [e66]
  refine h.congr (fun k i hk hi => ?_) (fun k i hk hi hs => ?_) (fun i hi => ?_) (fun _ _ => rfl)
  · have b := hC.both hk
    unfold stM
    rw [eS, ← b.1]
    constructor
    · rintro ⟨y1, y2, y3, y4⟩
      obtain ⟨c1, c2, c3⟩ := b.2 y2
      refine ⟨y1, y2, by omega, fun j hj => ?_⟩
      rw [c3 j hj, ← e65, ← y4 j (by omega), Nat.add_assoc, (hab (i + j) (by omega)).1]
    · rintro ⟨y1, y2, y3, y4⟩
      obtain ⟨c1, c2, c3⟩ := b.2 y2
      refine ⟨y1, y2, by omega, fun j hj => ?_⟩
      rw [Nat.add_assoc, (hab (i + j) (by omega)).1, y4 j (by omega), c3 j (by omega), e65]
  · have b := hC.both hk
    have y2 := hs.2.1
    rw [eS, ← b.1] at y2
    obtain ⟨c1, c2, c3⟩ := b.2 y2
    rw [eS, eK]; exact ⟨c1.symm, c2.symm⟩
  · obtain ⟨q1, q2, q3⟩ := hab i hi
    unfold lcM
    rw [q1, e62]
    have es : (a i - 97).toInt = (a i).toInt - 97 := by rw [t_sub, t_97] <;> rw [t_97] <;> omega
    obtain ⟨m, hm, e⟩ := t_nat (x := a i - 97) (n := 25) (by omega) (by omega) (by omega)
    rw [e, cl_n (by omega)]
    exact (hD m (by omega)).symm
theorem q_name {D : Nat} {σ : Mem} {v x y u : Int32} (hI : Inv σ) : QC (D + 3) M_TM_name M_MD_name [vR 0 0, vI v, vI x, vI y, vI u] [vR 51 0, vI v, vI x, vI y, vI u] σ := by
  intro Post h
  obtain ⟨t, h1, h2, h3, h4⟩ := hI.2.2.2.1
  have hC := hI.2.2.2.2.1
  refine c_TMname (t := t) ⟨h1, h3, fun j hj => (h4 j hj).2⟩ hC.C (fun n τ τ1 N cells ho hB hE hN hS => ?_) (fun hno => ?_)
  · have p0 : ∀ a i j, a ∉ [7, 8, 9, 22, 27, 28, 29, 30] → gI (pI τ1 22 0 1 0) a i j = gI σ a i j := fun a i j z => by
      rw [gI_pI, if_neg (fun y => z (by rw [y.1]; decide)), hE.1 a i j (fun y => z (by simp at y ⊢; omega))]
      exact hB.1 a i j (fun y => z (by rw [y.1]; decide)) (fun y => z (by rw [y.1]; decide)) (fun y => z (by rw [y.1]; decide))
    have F1 : Fr [7, 8, 9, 22, 27, 28, 29, 30, 51, 67, 68, 69, 70, 71, 72, 73] σ (pI τ1 22 0 1 0) := fun a i j q => p0 a i j (fun z => q (by simp at z ⊢; omega))
    have hC2 : InvC (pI τ1 22 0 1 0) := hC.cg F1 (by decide)
    refine h _ _ (Rd.of F1 (by decide) (by decide)) (fun P3 h3' => c_Mname (d := D + 1) ((p0 51 0 15 (by decide)).trans h2) h3 (fun j hj => ?_) hC2.M (fun n' τ2 υ N' cells' ho' hM hU hN' hS' => ?_) (fun z => absurd ho (z n)))
    · rw [p0 63 0 j (by decide), ← (h4 j hj).1]; exact (h4 j hj).2
    obtain rfl : n = n' := inj_n (ho.2.1.symm.trans ho'.2.1) (by have := ho.1; omega) (by have := ho'.1; omega)
    have hn8 := ho.1
    have m1 : ∀ a i j, a ∉ [51, 67, 68, 69, 70, 71] → gI τ2 a i j = gI (pI τ1 22 0 1 0) a i j := fun a i j z => hM.1.1 a i j z
    have eN : N' = N := by
      have q := sp_turn (σ := σ) (τ := τ2) (n := n) (a := gI σ 23 0) hC hI.2.2.2.2.2.2.2.2.2 (fun c => by rw [m1 64 0 c (by decide), p0 64 0 c (by decide)]) (fun c => by rw [m1 65 0 c (by decide), p0 65 0 c (by decide)]) (fun c => by rw [m1 66 0 c (by decide), p0 66 0 c (by decide)]) (fun c => by rw [m1 62 0 c (by decide), p0 62 0 c (by decide)]) (fun j hj => ⟨by rw [hM.2.2.2.1 j hj, p0 63 0 j (by decide)]; exact (h4 j hj).1.symm, (h4 j hj).2⟩) hS'
      exact ((SpO.uni (stOK22 (w := 0) hC.C) q hS).1)
    rw [eN]
    have F2 : Fr [7, 8, 9, 22, 27, 28, 29, 30, 51, 67, 68, 69, 70, 71, 72, 73] σ τ2 := F1.tr ((Fr.of hM.1).mono (by decide))
    have F : Fr [7, 8, 9, 22, 27, 28, 29, 30, 51, 67, 68, 69, 70, 71, 72, 73] σ υ := F2.tr ((Fr.of hU).mono (by decide))
    have u2 : ∀ a i j, a ∉ [72, 73] → gI υ a i j = gI τ2 a i j := fun a i j z => hU.1 a i j z
    have f51 : ∀ j, j ≠ 15 → gI υ 51 0 j = gI σ 51 0 j := fun j hj => by rw [u2 51 0 j (by decide), hM.2.1, if_neg hj, p0 51 0 j (by decide)]
    have uc : ∀ a i j, a ∉ [22, 27, 28, 29, 30, 51, 67, 68, 69, 70, 71, 72, 73] → gI υ a i j = gI τ a i j := fun a i j z => by
      rw [u2 a i j (fun y => z (by simp at y ⊢; omega)), m1 a i j (fun y => z (by simp at y ⊢; omega)), gI_pI, if_neg (fun y => z (by rw [y.1]; decide))]
      exact hE.1 a i j (fun y => z (by simp at y ⊢; omega))
    refine h3' υ ⟨hI.1.cg F (by decide), hI.2.1.cg F (by decide) (f51 9 (by omega)), hI.2.2.1.cg F (by decide) (f51 10 (by omega)) (f51 11 (by omega)), ?_, hI.2.2.2.2.1.cg F (by decide), ?_, hI.2.2.2.2.2.2.1.cg F (by decide), hI.2.2.2.2.2.2.2.1.cg F (by decide), hI.2.2.2.2.2.2.2.2.1.cg F (by decide) (f51 35 (by omega)), hI.2.2.2.2.2.2.2.2.2.cg F (by decide)⟩ (Rd.of F (by decide) (by decide))
    · refine InvT.zero ?_ (by rw [u2 51 0 15 (by decide), hM.2.1, if_pos rfl])
      rw [u2 22 0 1 (by decide), m1 22 0 1 (by decide), gI_pI, if_pos ⟨rfl, rfl, rfl⟩]
    · intro k hk
      by_cases e : k = n
      · subst e
        have c := fun f => uc 7 k f (by decide)
        refine Or.inr ⟨by rw [c, hB.2.2.2.2.2.2.2]; decide, t, ho.2.2.2.2.2.2, h3, by rw [uc 8 k 1 (by decide)]; exact hB.2.2.1, by rw [u2 67 0 k (by decide), hM.2.2.1, if_pos rfl], fun j hj => ?_, ?_, ?_, ?_, ?_, ?_, ?_, ?_⟩
        · rw [uc 9 k j (by decide), hB.2.2.2.1 j hj, u2 68 0 _ (by decide), hM.2.2.2.1 j hj, p0 63 0 j (by decide)]; exact h4 j hj
        · rw [c, hB.2.2.2.2.1, u2 69 0 k (by decide), hM.2.2.2.2.2.1, if_pos rfl]
        · rw [c, hB.2.2.2.2.2.1, u2 70 0 k (by decide), hM.2.2.2.2.2.2.1, if_pos rfl]
        · rw [c, hB.2.2.2.2.2.2.1, u2 71 0 k (by decide), hM.2.2.2.2.2.2.2, if_pos rfl]
        · rw [c, hB.2.2.2.2.1]; exact ho.2.2.1
        · rw [c, hB.2.2.2.2.2.1]; exact ho.2.2.2.1
        · rw [c, hB.2.2.2.2.2.2.1]; exact ho.2.2.2.2.1
        · rw [c, hB.2.2.2.2.2.2.1]; exact ho.2.2.2.2.2.1
      · refine (hI.2.2.2.2.2.1 k hk).cg (fun j => ?_) ?_ (fun j => ?_) ?_ (fun j hj => ?_) ?_ ?_ ?_
        · rw [uc 7 k j (by decide)]; exact hB.1 7 k j (by omega) (by omega) (by omega)
        · rw [uc 8 k 1 (by decide)]; exact hB.1 8 k 1 (by omega) (by omega) (by omega)
        · rw [uc 9 k j (by decide)]; exact hB.1 9 k j (by omega) (by omega) (by omega)
        · rw [u2 67 0 k (by decide), hM.2.2.1, if_neg e, p0 67 0 k (by decide)]
        · rw [u2 68 0 _ (by decide), hM.2.2.2.2.1 _ (by omega), p0 68 0 _ (by decide)]
        · rw [u2 69 0 k (by decide), hM.2.2.2.2.2.1, if_neg e, p0 69 0 k (by decide)]
        · rw [u2 70 0 k (by decide), hM.2.2.2.2.2.2.1, if_neg e, p0 70 0 k (by decide)]
        · rw [u2 71 0 k (by decide), hM.2.2.2.2.2.2.2, if_neg e, p0 71 0 k (by decide)]
  · obtain ⟨d1, d2, d3, d4⟩ := hI.drop
    have F1 : Fr [22] σ (pI σ 22 0 1 0) := Fr.rf.pI (by decide)
    refine h (-1) _ d4 (fun P3 h3' => c_Mname (d := D + 1) (d3.trans h2) h3 (fun j hj => ?_) (hC.cg F1 (by decide)).M (fun n τ2 υ N' cells' ho' _ _ _ _ => absurd ho' (hno n)) (fun _ => h3' _ d1 d2))
    rw [F1 63 0 j (by decide), ← (h4 j hj).1]; exact (h4 j hj).2
theorem nam_iff {σ : Mem} (hN : InvN σ) (v : Int32) (j : Nat) : namO σ v j ↔ namM σ v j := by
  unfold namO namM
  refine and_congr_right fun h8 => and_congr_right fun _ => ?_
  rcases hN j h8 with ⟨a, b⟩ | ⟨a, l, h1, h2, h3, h4, _⟩
  · rw [a, b]; exact ⟨fun z => absurd rfl z, fun z => absurd z (by decide)⟩
  · rw [h4, nI_t (by omega)]; exact ⟨fun _ => by omega, fun _ => a⟩
theorem q_erase {D : Nat} {σ : Mem} {v : Int32} (hI : Inv σ) : QC (D + 2) M_TM_erase M_MD_erase [vR 0 0, vI v] [vR 51 0, vI v] σ := by
  intro Post h
  have hN := hI.2.2.2.2.2.1
  refine c_TMerase (fun j ho => ?_) (fun hno => h 0 σ Rd.rf (fun P3 h3 => c_Merase (fun j ho => absurd ((nam_iff hN v j).mpr ho) (hno j)) (fun _ => h3 σ hI Rd.rf)))
  have F1 : Fr [7, 67] σ (pI σ 7 j 4 0) := Fr.rf.pI (by decide)
  have e67 : ∀ i, gI (pI σ 7 j 4 0) 67 0 i = gI σ 67 0 i := fun i => by rw [gI_pI, if_neg (by omega)]
  have m := (nam_iff hN v j).mp ho
  refine h 1 _ (Rd.of F1 (by decide) (by decide)) (fun P3 h3 => c_Merase (fun j' ho' => ?_) (fun z => absurd ⟨m.1, m.2.1, by rw [e67]; exact m.2.2⟩ (z j)))
  obtain rfl : j = j' := inj_n (ho.2.1.symm.trans ho'.2.1) (by have := ho.1; omega) (by have := ho'.1; omega)
  have F : Fr [7, 67] σ (pI (pI σ 7 j 4 0) 67 0 j 0) := F1.pI (by decide)
  have f51 : ∀ i, i ≠ 1000 → gI (pI (pI σ 7 j 4 0) 67 0 j 0) 51 0 i = gI σ 51 0 i := fun i _ => F 51 0 i (by decide)
  refine h3 _ ⟨hI.1.cg F (by decide), hI.2.1.cg F (by decide) (f51 9 (by omega)), hI.2.2.1.cg F (by decide) (f51 10 (by omega)) (f51 11 (by omega)), hI.2.2.2.1.cg F (by decide) (f51 15 (by omega)), hI.2.2.2.2.1.cg F (by decide), ?_, hI.2.2.2.2.2.2.1.cg F (by decide), hI.2.2.2.2.2.2.2.1.cg F (by decide), hI.2.2.2.2.2.2.2.2.1.cg F (by decide) (f51 35 (by omega)), hI.2.2.2.2.2.2.2.2.2.cg F (by decide)⟩ (Rd.of F (by decide) (by decide))
  intro k hk
  by_cases e : k = j
  · subst e
    exact Or.inl ⟨by rw [gI_pI, if_neg (by omega), gI_pI, if_pos ⟨rfl, rfl, rfl⟩], by rw [gI_pI, if_pos ⟨rfl, rfl, rfl⟩]⟩
  · refine (hN k hk).cg (fun i => ?_) (F 8 k 1 (by decide)) (fun i => F 9 k i (by decide)) ?_ (fun i _ => F 68 0 _ (by decide)) (F 69 0 k (by decide)) (F 70 0 k (by decide)) (F 71 0 k (by decide))
    · rw [gI_pI, if_neg (by omega), gI_pI, if_neg (fun z => e z.2.1)]
    · rw [gI_pI, if_neg (fun z => e z.2.2), gI_pI, if_neg (by omega)]
/-- a name that is there -/
theorem InvN.at {σ : Mem} (h : InvN σ) {n : Nat} (hn : n < 8) (ht : thN σ n) : WdC8 σ n (lnN σ n) ∧ WdM σ n (lnN σ n) ∧ lnNM σ n = lnN σ n ∧ thNM σ n ∧ 1 ≤ lnN σ n ∧ lnN σ n ≤ 12 ∧ (∀ j, j < lnN σ n → gI σ 9 n j = gI σ 68 0 (12 * n + j)) ∧ nX σ n = nXM σ n ∧ nY σ n = nYM σ n ∧ wtN σ n = wtNM σ n ∧ co (nX σ n) ∧ co (nY σ n) ∧ gI σ 7 n 3 = nI (wtN σ n) ∧ gI σ 71 0 n = nI (wtN σ n) ∧ wtN σ n ≤ 1000 := by
  rcases h n hn with ⟨a, b⟩ | ⟨a, l, h1, h2, h3, h4, h5, h6, h7, h8, h9, h10, h11, h12⟩
  · exact absurd a ht
  · have e : lnN σ n = l := by unfold lnN; rw [h3, cl_n (by omega)]
    have e' : lnNM σ n = l := by unfold lnNM; rw [h4, cl_n (by omega)]
    obtain ⟨w, hw, ew⟩ := t_nat (x := gI σ 7 n 3) (n := 1000) h11 h12 (by omega)
    have ewt : wtN σ n = w := by unfold wtN; rw [ew, cl_n (by omega)]
    rw [e, e', ewt]
    refine ⟨⟨h3, h2, fun j hj => (h5 j hj).2⟩, ⟨h4, h2, fun j hj => by rw [← (h5 j hj).1]; exact (h5 j hj).2⟩, rfl, by unfold thNM; rw [h4, nI_t (by omega)]; omega, h1, h2, fun j hj => (h5 j hj).1, by unfold nX nXM; rw [h6], by unfold nY nYM; rw [h7], ?_, h9, h10, ew, by rw [← h8]; exact ew, hw⟩
    unfold wtNM; rw [← h8, ew, cl_n (by omega)]
theorem InvN.iff {σ : Mem} (h : InvN σ) {n : Nat} (hn : n < 8) : thN σ n ↔ thNM σ n := by
  have := nam_iff h (nI n) n
  unfold namO namM at this
  unfold thN thNM
  exact ⟨fun z => (this.mp ⟨hn, rfl, z⟩).2.2, fun z => (this.mpr ⟨hn, rfl, z⟩).2.2⟩
/-- the model's spelling of a name, seen from the class -/
theorem sp_name {σ τ : Mem} {n N : Nat} {cells : Nat → Int32} (hC : InvC σ) (hD : InvD σ) (hN : InvN σ) (hn : n < 8) (ht : thN σ n) (e62 : ∀ c, gI τ 62 0 c = gI σ 62 0 c) (e64 : ∀ c, gI τ 64 0 c = gI σ 64 0 c) (e65 : ∀ c, gI τ 65 0 c = gI σ 65 0 c) (e66 : ∀ c, gI τ 66 0 c = gI σ 66 0 c) (e68 : ∀ c, gI τ 68 0 c = gI σ 68 0 c) (h : SpO (lnN σ n) (stM τ n (lnN σ n)) (lnS τ) (lcM τ n) (ckM τ) N cells) : SpO (lnN σ n) (stC8 σ n (lnN σ n)) (lnP σ) (lcC8 σ n) (ckC σ) N cells := by
  have a := hN.at hn ht
  exact sp_turn (a := gI σ 9 n) hC hD e64 e65 e66 e62 (fun j hj => ⟨by rw [e68]; exact (a.2.2.2.2.2.2.1 j hj).symm, a.1.2.2 j hj⟩) h
theorem q_cell {D : Nat} {σ : Mem} {v x : Int32} (hI : Inv σ) : QC (D + 3) M_TM_cell M_MD_cell [vR 0 0, vI v, vI x] [vR 51 0, vI v, vI x] σ := by
  intro Post h
  have hC := hI.2.2.2.2.1
  have hN := hI.2.2.2.2.2.1
  have mod : ∀ τ : Mem, Eqs [27, 28, 29, 30] σ τ → Inv τ ∧ Rd σ τ ∧ (∀ n, namM τ v n ↔ namO σ v n) ∧ ∀ n N cells, namO σ v n → SpO (lnNM τ n) (stM τ n (lnNM τ n)) (lnS τ) (lcM τ n) (ckM τ) N cells → SpO (lnN σ n) (stC8 σ n (lnN σ n)) (lnP σ) (lcC8 σ n) (ckC σ) N cells := fun τ hE => by
    have hI2 : Inv τ := hI.cg (Fr.of hE) (by decide)
    refine ⟨hI2, Rd.of (Fr.of hE) (by decide) (by decide), fun n => ?_, fun n N cells ho hs => ?_⟩
    · rw [nam_iff hN v n]; unfold namM; rw [hE.1 67 0 n (by decide)]
    · have e : lnNM τ n = lnN σ n := by unfold lnNM; rw [hE.1 67 0 n (by decide)]; exact (hN.at ho.1 ho.2.2).2.2.1
      rw [e] at hs
      exact sp_name hC hI.2.2.2.2.2.2.2.2.2 hN ho.1 ho.2.2 (fun c => hE.1 62 0 c (by decide)) (fun c => hE.1 64 0 c (by decide)) (fun c => hE.1 65 0 c (by decide)) (fun c => hE.1 66 0 c (by decide)) (fun c => hE.1 68 0 c (by decide)) hs
  have hw2 : ∀ τ : Mem, Eqs [27, 28, 29, 30] σ τ → ∀ n, namM τ v n → WdM τ n (lnNM τ n) := fun τ hE n hn => by
    have m := mod τ hE
    have hN2 := m.1.2.2.2.2.2.1
    have o := (nam_iff hN2 v n).mpr hn
    have q := hN2.at o.1 o.2.2
    rw [q.2.2.1]; exact q.2.1
  refine c_TMcell (d := D) (L := lnN σ) (fun n ho => (hN.at ho.1 ho.2.2).1) hC.C (fun n τ N cells i ho hE hS hi ex => ?_) (fun n τ N cells ho hE hS h12 hx => ?_) (fun hno => ?_)
  · obtain ⟨m1, m2, m3, m4⟩ := mod τ hE
    have hle := hS.le
    have hL := (hN.at ho.1 ho.2.2).2.2.2.2.2.1
    refine h _ τ m2 (fun P3 h3 => c_Mcell (d := D + 1) (L := lnNM τ) (hw2 τ hE) m1.2.2.2.2.1.M (fun n' υ N' cells' i' ho' hU hS' hi' ex' => ?_) (fun n' υ N' cells' ho' hU hS' h12' hx' => ?_) (fun n' ho' hx' => ?_) (fun z => absurd ((m3 n).mpr ho) (z n)))
    · obtain rfl : n = n' := inj_n (ho.2.1.symm.trans ho'.2.1) (by have := ho.1; omega) (by have := ho'.1; omega)
      have hs := m4 n N' cells' ho hS'
      have un := SpO.uni (stOK8 hC.C) hS hs
      have hle2 := hs.le
      obtain rfl : i = i' := inj_n (ex.symm.trans ex') (by omega) (by omega)
      rw [← un.2 i hi]
      exact h3 υ (m1.cg (Fr.of hU) (by decide)) ⟨fun j => by rw [hU.1 86 0 j (by decide)]; exact m2.1 j, by rw [hU.1 87 0 0 (by decide)]; exact m2.2⟩
    · obtain rfl : n = n' := inj_n (ho.2.1.symm.trans ho'.2.1) (by have := ho.1; omega) (by have := ho'.1; omega)
      have un := SpO.uni (stOK8 hC.C) hS (m4 n N' cells' ho hS')
      exact absurd ex (hx' i (by omega))
    · rw [ex, nI_t (by omega)] at hx'; omega
  · obtain ⟨m1, m2, m3, m4⟩ := mod τ hE
    refine h _ τ m2 (fun P3 h3 => c_Mcell (d := D + 1) (L := lnNM τ) (hw2 τ hE) m1.2.2.2.2.1.M (fun n' υ N' cells' i' ho' hU hS' hi' ex' => ?_) (fun n' υ N' cells' ho' hU hS' h12' hx' => ?_) (fun n' ho' hx' => h3 τ m1 m2) (fun z => absurd ((m3 n).mpr ho) (z n)))
    · obtain rfl : n = n' := inj_n (ho.2.1.symm.trans ho'.2.1) (by have := ho.1; omega) (by have := ho'.1; omega)
      have un := SpO.uni (stOK8 hC.C) hS (m4 n N' cells' ho hS')
      exact absurd ex' (hx i' (by omega))
    · exact h3 υ (m1.cg (Fr.of hU) (by decide)) ⟨fun j => by rw [hU.1 86 0 j (by decide)]; exact m2.1 j, by rw [hU.1 87 0 0 (by decide)]; exact m2.2⟩
  · obtain ⟨m1, m2, m3, m4⟩ := mod σ Eqs.rf
    exact h (-1) σ m2 (fun P3 h3 => c_Mcell (d := D + 1) (L := lnNM σ) (hw2 σ Eqs.rf) m1.2.2.2.2.1.M (fun n' υ N' cells' i' ho' _ _ _ _ => absurd ((m3 n').mp ho') (hno n')) (fun n' υ N' cells' ho' _ _ _ _ => absurd ((m3 n').mp ho') (hno n')) (fun n' ho' _ => absurd ((m3 n').mp ho') (hno n')) (fun _ => h3 σ hI Rd.rf))
theorem q_spot {D : Nat} {σ : Mem} {v : Int32} (hI : Inv σ) : QC (D + 1) M_TM_spot M_MD_spot [vR 0 0, vI v] [vR 51 0, vI v] σ := by
  intro Post h
  have hS := hI.2.2.2.2.2.2.1
  refine c_TMspot (fun j hj ej => ?_) (fun hno => ?_)
  · refine h _ σ Rd.rf (fun P3 h3 => c_Mspot (fun j' hj' ej' => ?_) (fun z => absurd ej (z j hj)))
    obtain rfl : j = j' := inj_n (ej.symm.trans ej') (by omega) (by omega)
    rw [← hS.2 j hj]; exact h3 σ hI Rd.rf
  · exact h _ σ Rd.rf (fun P3 h3 => c_Mspot (fun j hj ej => absurd ej (hno j hj)) (fun _ => h3 σ hI Rd.rf))
theorem q_texture {D : Nat} {σ : Mem} {v : Int32} (hI : Inv σ) : QC (D + 1) M_TM_texture M_MD_texture [vR 0 0, vI v] [vR 51 0, vI v] σ := by
  intro Post h
  obtain ⟨l, h8, h1, h2, h4⟩ := hI.2.2.2.2.2.2.2.2.1
  refine c_TMtexture h1 h8 (fun j hj ej => ?_) (fun hno => ?_)
  · refine h _ σ Rd.rf (fun P3 h3 => c_Mtexture h2 h8 (fun j' hj' ej' => ?_) (fun z => absurd ej (z j hj)))
    obtain rfl : j = j' := inj_n (ej.symm.trans ej') (by omega) (by omega)
    rw [← h4 j hj]; exact h3 σ hI Rd.rf
  · exact h _ σ Rd.rf (fun P3 h3 => c_Mtexture h2 h8 (fun j hj ej => absurd ej (hno j hj)) (fun _ => h3 σ hI Rd.rf))
theorem q_touch {D : Nat} {σ : Mem} {v w x : Int32} (hI : Inv σ) (hx : x = 0 ∨ x = 1) : QC (D + 2) M_TM_touch M_MD_touch [vR 0 0, vI v, vI w, vI x] [vR 51 0, vI v, vI w, vI x] σ := by
  intro Post h
  have hA := hI.2.2.2.2.2.2.2.1
  refine c_TMtouch (fun i j τ ht hJ => ?_) (fun hno => h 0 σ Rd.rf (fun P3 h3 => c_Mtouch (d := D + 1) hx (fun i j τ ht _ => absurd ht (hno i j)) (fun _ => h3 σ hI Rd.rf)))
  have F1 : Fr [46, 81] σ τ := (Fr.of hJ.1).mono (by decide)
  refine h 1 τ (Rd.of F1 (by decide) (by decide)) (fun P3 h3 => c_Mtouch (d := D + 1) hx (fun i' j' υ ht' hM => ?_) (fun z => absurd ht (z i j)))
  obtain rfl : i = i' := inj_n (ht.2.2.2.1.symm.trans ht'.2.2.2.1) (by have := ht.1; omega) (by have := ht'.1; omega)
  obtain rfl : j = j' := inj_n (ht.2.2.2.2.symm.trans ht'.2.2.2.2) (by have := ht.2.1; omega) (by have := ht'.2.1; omega)
  have F : Fr [46, 81] σ υ := F1.tr ((Fr.of hM.1).mono (by decide))
  have f51 : ∀ i, i ≠ 1000 → gI υ 51 0 i = gI σ 51 0 i := fun i _ => F 51 0 i (by decide)
  obtain ⟨hi, hj, hij, _, _⟩ := ht
  have eT : ∀ a b, b < 8 → (TA υ a b ↔ if (a = i ∧ b = j) ∨ (a = j ∧ b = i) then x ≠ 0 else TA σ a b) := fun a b hb => by
    unfold TA
    rw [hM.1.1 46 0 a (by decide), hJ.2 a b (by omega)]
    by_cases z : (a = i ∧ b = j) ∨ (a = j ∧ b = i)
    · rw [if_pos z, if_pos z, decide_eq_true_iff]
    · rw [if_neg z, if_neg z]
  have eM : ∀ a b, a < 8 → b < 8 → (gI υ 81 0 (8 * a + b) ≠ 0 ↔ if (a = i ∧ b = j) ∨ (a = j ∧ b = i) then x ≠ 0 else gI σ 81 0 (8 * a + b) ≠ 0) := fun a b ha hb => by
    rw [hM.2, hJ.1.1 81 0 _ (by decide)]
    by_cases z : (a = i ∧ b = j) ∨ (a = j ∧ b = i)
    · rw [if_pos z, if_pos (by omega)]
    · rw [if_neg z, if_neg (by omega)]
  refine h3 υ ⟨hI.1.cg F (by decide), hI.2.1.cg F (by decide) (f51 9 (by omega)), hI.2.2.1.cg F (by decide) (f51 10 (by omega)) (f51 11 (by omega)), hI.2.2.2.1.cg F (by decide) (f51 15 (by omega)), hI.2.2.2.2.1.cg F (by decide), hI.2.2.2.2.2.1.cg F (by decide), hI.2.2.2.2.2.2.1.cg F (by decide), ?_, hI.2.2.2.2.2.2.2.2.1.cg F (by decide) (f51 35 (by omega)), hI.2.2.2.2.2.2.2.2.2.cg F (by decide)⟩ (Rd.of F (by decide) (by decide))
  refine ⟨fun a b ha hb => ?_, fun a b ha hb => ?_, ?_, ?_, ?_⟩
  · rw [eT a b hb, eM a b ha hb]
    by_cases z : (a = i ∧ b = j) ∨ (a = j ∧ b = i)
    · rw [if_pos z, if_pos z]
    · rw [if_neg z, if_neg z]; exact hA.1 a b ha hb
  · rw [eT a b hb, eT b a ha]
    by_cases z : (a = i ∧ b = j) ∨ (a = j ∧ b = i)
    · rw [if_pos z, if_pos (by omega)]
    · rw [if_neg z, if_neg (by omega)]; exact hA.2.1 a b ha hb
  all_goals unfold UA; simp only [fun a b => F 47 a b (by decide), fun a b => F 82 a b (by decide)]
  · exact hA.2.2.1
  · exact hA.2.2.2.1
  · exact hA.2.2.2.2
theorem q_apart {D : Nat} {σ : Mem} {v w x : Int32} (hI : Inv σ) (hx : x = 0 ∨ x = 1) : QC (D + 2) M_TM_apart M_MD_apart_ [vR 0 0, vI v, vI w, vI x] [vR 51 0, vI v, vI w, vI x] σ := by
  intro Post h
  have hA := hI.2.2.2.2.2.2.2.1
  refine c_TMapart (fun i j τ ht hJ => ?_) (fun hno => h 0 σ Rd.rf (fun P3 h3 => c_Mapart_ (d := D + 1) hx (fun i j τ ht _ => absurd ht (hno i j)) (fun _ => h3 σ hI Rd.rf)))
  have F1 : Fr [47, 82] σ τ := (Fr.of hJ.1).mono (by decide)
  refine h 1 τ (Rd.of F1 (by decide) (by decide)) (fun P3 h3 => c_Mapart_ (d := D + 1) hx (fun i' j' υ ht' hM => ?_) (fun z => absurd ht (z i j)))
  obtain rfl : i = i' := inj_n (ht.2.2.2.1.symm.trans ht'.2.2.2.1) (by have := ht.1; omega) (by have := ht'.1; omega)
  obtain rfl : j = j' := inj_n (ht.2.2.2.2.symm.trans ht'.2.2.2.2) (by have := ht.2.1; omega) (by have := ht'.2.1; omega)
  have F : Fr [47, 82] σ υ := F1.tr ((Fr.of hM.1).mono (by decide))
  have f51 : ∀ i, i ≠ 1000 → gI υ 51 0 i = gI σ 51 0 i := fun i _ => F 51 0 i (by decide)
  obtain ⟨hi, hj, hij, _, _⟩ := ht
  have eT : ∀ a b, b < 5 → (UA υ a b ↔ if (a = i ∧ b = j) ∨ (a = j ∧ b = i) then x ≠ 0 else UA σ a b) := fun a b hb => by
    unfold UA
    rw [hM.1.1 47 0 a (by decide), hJ.2 a b (by omega)]
    by_cases z : (a = i ∧ b = j) ∨ (a = j ∧ b = i)
    · rw [if_pos z, if_pos z, decide_eq_true_iff]
    · rw [if_neg z, if_neg z]
  have eM : ∀ a b, a < 5 → b < 5 → (gI υ 82 0 (5 * a + b) ≠ 0 ↔ if (a = i ∧ b = j) ∨ (a = j ∧ b = i) then x ≠ 0 else gI σ 82 0 (5 * a + b) ≠ 0) := fun a b ha hb => by
    rw [hM.2, hJ.1.1 82 0 _ (by decide)]
    by_cases z : (a = i ∧ b = j) ∨ (a = j ∧ b = i)
    · rw [if_pos z, if_pos (by omega)]
    · rw [if_neg z, if_neg (by omega)]
  refine h3 υ ⟨hI.1.cg F (by decide), hI.2.1.cg F (by decide) (f51 9 (by omega)), hI.2.2.1.cg F (by decide) (f51 10 (by omega)) (f51 11 (by omega)), hI.2.2.2.1.cg F (by decide) (f51 15 (by omega)), hI.2.2.2.2.1.cg F (by decide), hI.2.2.2.2.2.1.cg F (by decide), hI.2.2.2.2.2.2.1.cg F (by decide), ?_, hI.2.2.2.2.2.2.2.2.1.cg F (by decide) (f51 35 (by omega)), hI.2.2.2.2.2.2.2.2.2.cg F (by decide)⟩ (Rd.of F (by decide) (by decide))
  refine ⟨?_, ?_, fun a b ha hb => ?_, fun a b ha hb => ?_, fun a ha => ?_⟩
  · unfold TA; simp only [fun a b => F 46 a b (by decide), fun a b => F 81 a b (by decide)]; exact hA.1
  · unfold TA; simp only [fun a b => F 46 a b (by decide)]; exact hA.2.1
  · rw [eT a b hb, eM a b ha hb]
    by_cases z : (a = i ∧ b = j) ∨ (a = j ∧ b = i)
    · rw [if_pos z, if_pos z]
    · rw [if_neg z, if_neg z]; exact hA.2.2.1 a b ha hb
  · rw [eT a b hb, eT b a ha]
    by_cases z : (a = i ∧ b = j) ∨ (a = j ∧ b = i)
    · rw [if_pos z, if_pos (by omega)]
    · rw [if_neg z, if_neg (by omega)]; exact hA.2.2.2.1 a b ha hb
  · rw [eT a a ha, if_neg (by omega)]; exact hA.2.2.2.2 a ha
theorem q_lay {D : Nat} {σ : Mem} {v : Int32} (hI : Inv σ) : QC (D + 12) M_TM_lay M_MD_lay [vR 0 0, vI v] [vR 51 0, vI v] σ := by
  intro Post h
  have hA := hI.2.2.2.2.2.2.2.1
  have mk : ∀ τ : Mem, (∀ c, gI τ 81 0 c = gI σ 81 0 c) → (∀ c, gI τ 82 0 c = gI σ 82 0 c) → MarkM τ (TA σ) (UA σ) := fun τ e1 e2 => by
    refine ⟨fun a b ha hb => ?_, fun t u ht hu => ?_, hA.2.2.2.2⟩
    · rw [e1, ← hA.1 a b ha (by omega)]; exact hA.2.1 a b ha (by omega)
    · rw [e2, ← hA.2.2.1 t u ht hu]; exact hA.2.2.2.1 t u ht hu
  refine c_TMlay (TA σ) (UA σ) rfl rfl (fun n τ s f hn ev hE hs hL hf h5 => ?_) (fun n τ hn ev hE hno => ?_) (fun hno => ?_)
  · have F1 : Fr [45, 48, 49, 51, 83, 84] σ τ := fun a i j q => hE.1 a i j (fun z => q (by simp at z ⊢; omega))
    refine h _ τ (Rd.of F1 (by decide) (by decide)) (fun P3 h3 => c_Mlay (d := D + 11) (TA σ) (UA σ) (mk τ (fun c => F1 81 0 c (by decide)) (fun c => F1 82 0 c (by decide))) (fun n' υ s' f' hn' ev' hM h51 hs' hL' hf' h35 => ?_) (fun n' υ hn' ev' hM hc hno => ?_) (fun z => absurd ev (z n hn)))
    · obtain rfl : n = n' := inj_n (ev.symm.trans ev') (by omega) (by omega)
      have un := hL.uni hL'
      rw [← un.1]
      have F : Fr [45, 48, 49, 51, 83, 84] σ υ := F1.tr ((Fr.of hM).mono (by decide))
      have f51 : ∀ j, j ≠ 35 → gI υ 51 0 j = gI σ 51 0 j := fun j hj => by rw [h51 0 j (by omega)]; exact hE.1 51 0 j (by decide)
      refine h3 υ ⟨hI.1.cg F (by decide), hI.2.1.cg F (by decide) (f51 9 (by omega)), hI.2.2.1.cg F (by decide) (f51 10 (by omega)) (f51 11 (by omega)), hI.2.2.2.1.cg F (by decide) (f51 15 (by omega)), hI.2.2.2.2.1.cg F (by decide), hI.2.2.2.2.2.1.cg F (by decide), hI.2.2.2.2.2.2.1.cg F (by decide), hI.2.2.2.2.2.2.2.1.cg F (by decide), ?_, hI.2.2.2.2.2.2.2.2.2.cg F (by decide)⟩ (Rd.of F (by decide) (by decide))
      refine ⟨n, hn, by rw [hM.1 45 0 5 (by decide)]; exact h5, h35, fun a ha => ?_⟩
      rw [hM.1 49 0 a (by decide), hf a ha, hf' a ha, un.2 a ha]
    · obtain rfl : n = n' := inj_n (ev.symm.trans ev') (by omega) (by omega)
      exact absurd hL.1 (hno f)
  · have F1 : Fr [48, 83, 84] σ τ := fun a i j q => hE.1 a i j (fun z => q (by simp at z ⊢; omega))
    refine h _ τ (Rd.of F1 (by decide) (by decide)) (fun P3 h3 => c_Mlay (d := D + 11) (TA σ) (UA σ) (mk τ (fun c => F1 81 0 c (by decide)) (fun c => F1 82 0 c (by decide))) (fun n' υ s' f' hn' ev' hM h51 hs' hL' hf' h35 => ?_) (fun n' υ hn' ev' hM hc _ => ?_) (fun z => absurd ev (z n hn)))
    · obtain rfl : n = n' := inj_n (ev.symm.trans ev') (by omega) (by omega)
      exact absurd hL'.1 (hno f')
    · have F : Fr [48, 83, 84] σ υ := F1.tr ((Fr.of hM).mono (by decide))
      have f51 : ∀ i, i ≠ 1000 → gI υ 51 0 i = gI σ 51 0 i := fun i _ => F 51 0 i (by decide)
      refine h3 υ ⟨hI.1.cg F (by decide), hI.2.1.cg F (by decide) (f51 9 (by omega)), hI.2.2.1.cg F (by decide) (f51 10 (by omega)) (f51 11 (by omega)), hI.2.2.2.1.cg F (by decide) (f51 15 (by omega)), hI.2.2.2.2.1.cg F (by decide), hI.2.2.2.2.2.1.cg F (by decide), hI.2.2.2.2.2.2.1.cg F (by decide), hI.2.2.2.2.2.2.2.1.cg F (by decide), ?_, hI.2.2.2.2.2.2.2.2.2.cg F (by decide)⟩ (Rd.of F (by decide) (by decide))
      obtain ⟨l, l8, l1, l2, l4⟩ := hI.2.2.2.2.2.2.2.2.1
      refine ⟨l, l8, by rw [F 45 0 5 (by decide)]; exact l1, by rw [F 51 0 35 (by decide)]; exact l2, fun a ha => ?_⟩
      rw [F 49 0 a (by decide), hc, hE.1 84 0 a (by decide)]; exact l4 a ha
  · exact h _ σ Rd.rf (fun P3 h3 => c_Mlay (d := D + 11) (TA σ) (UA σ) (mk σ (fun _ => rfl) (fun _ => rfl)) (fun n υ s f hn ev _ _ _ _ _ _ => absurd ev (hno n hn)) (fun n υ hn ev _ _ _ => absurd ev (hno n hn)) (fun _ => h3 σ hI Rd.rf))
