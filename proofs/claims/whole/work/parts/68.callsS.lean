/-! each call: set -/
theorem StF.cg {us us' : Nat → Prop} {ov ov' : Nat → Nat → Prop} {f : Nat → Nat} (h : StF us ov f) (h1 : ∀ q, q < 32 → (us q ↔ us' q)) (h2 : ∀ p q, p < 32 → q < 32 → us p → us q → (ov p q ↔ ov' p q)) : StF us' ov' f := fun n hn => by
  refine ⟨(h n hn).1, fun z => ?_⟩
  have a := (h n hn).2 z
  refine ⟨(h1 _ (by omega)).mp a.1, fun q hq zq y => ?_⟩
  have b := (h q (by omega)).2 zq
  exact a.2 q hq zq ((h2 _ _ (by omega) (by omega) a.1 b.1).mpr y)
theorem StF.wt {us : Nat → Prop} {ov : Nat → Nat → Prop} {f wt wt' : Nat → Nat} (h : StF us ov f) (h3 : ∀ n s, n < 8 → s < 4 → us (n * 4 + s) → wt n = wt' n) : vF 4 wt f 0 8 = vF 4 wt' f 0 8 := vF_gcg 8 0 (fun i _ hi z => h3 i (f i) (by omega) z ((h i (by omega)).2 z).1)
theorem SeO.cg {us us' : Nat → Prop} {ov ov' : Nat → Nat → Prop} {wt wt' f : Nat → Nat} {S : Nat} (h : SeO us ov wt S f) (h1 : ∀ q, q < 32 → (us q ↔ us' q)) (h2 : ∀ p q, p < 32 → q < 32 → us p → us q → (ov p q ↔ ov' p q)) (h3 : ∀ n s, n < 8 → s < 4 → us (n * 4 + s) → wt n = wt' n) : SeO us' ov' wt' S f := by
  have b : ∀ x, StF us' ov' x → StF us ov x := fun x hx => hx.cg (fun q hq => (h1 q hq).symm) (fun p q hp hq u1 u2 => (h2 p q hp hq ((h1 p hp).mpr u1) ((h1 q hq).mpr u2)).symm)
  have e : ∀ x, StF us ov x → vF 4 (fun i => wt i * 16 + 1) x 0 8 = vF 4 (fun i => wt' i * 16 + 1) x 0 8 := fun x hx => hx.wt (fun n s hn hs hu => by rw [h3 n s hn hs hu])
  refine ⟨h.1.cg h1 h2, by rw [h.2.1]; exact h.1.wt h3, fun x hx => ?_⟩
  rw [← e x (b x hx), ← e f h.1]
  exact h.2.2 x (b x hx)
theorem hit_iff {σ : Mem} (hW : InvW σ) (hK : InvK σ) (X Y W : Int) : hitC σ X Y W ↔ hitM σ X Y W := by
  unfold hitC hitM
  constructor
  · rintro ⟨w, hw, h1, i, hi, h2⟩
    have q := hW.at hw
    have v := hW.V w hw
    refine ⟨w, hw, ⟨q.2.2.2.2.2.2.2.2 (by have := v.2.2.2.1; omega), (hK.2.2 w hw).mp h1⟩, i, by rw [← q.2.1]; exact hi, ?_⟩
    rw [← lnW_M hW hw hi]; exact h2
  · rintro ⟨w, hw, h1, i, hi, h2⟩
    have q := hW.at hw
    rw [← q.2.1] at hi
    refine ⟨w, hw, (hK.2.2 w hw).mpr h1.2, i, hi, ?_⟩
    rw [lnW_M hW hw hi]; exact h2
theorem q_set {D : Nat} {σ : Mem} (hI : Inv σ) : QC (D + 12) M_TM_set M_MD_set [vR 0 0] [vR 51 0] σ := by
  intro Post h
  have hC := hI.2.2.2.2.1
  have hN := hI.2.2.2.2.2.1
  have hNO : NmOK σ := fun n hn ht => by
    have a := hN.at hn ht
    exact ⟨a.1, a.2.2.2.2.1, a.2.2.2.2.2.2.2.2.2.2.1, a.2.2.2.2.2.2.2.2.2.2.2.1, a.2.2.2.2.2.2.2.2.2.2.2.2.1, a.2.2.2.2.2.2.2.2.2.2.2.2.2.2⟩
  refine c_TMset (d := D) hI.1.V hNO hC.C hI.2.2.2.2.2.2.1.1 (fun τ NN S f hE hCh hNN hO hf => ?_)
  have F1 : Fr [27, 28, 29, 30, 33, 34, 35, 36, 37, 38, 39, 40, 41, 42, 43, 44, 72, 73, 74, 75, 76, 77, 78, 79, 80] σ τ := (Fr.of hE).mono (by decide)
  have hW2 : InvW τ := hI.1.cg F1 (by decide)
  have hK2 : InvK τ := hI.2.2.1.cg F1 (by decide) (F1 51 0 10 (by decide)) (F1 51 0 11 (by decide))
  have hC2 : InvC τ := hC.cg F1 (by decide)
  have hN2 : InvN τ := hN.cg F1 (by decide)
  have eth : ∀ n, thNM τ n ↔ thNM σ n := fun n => by unfold thNM; rw [F1 67 0 n (by decide)]
  have hNM : NmOM τ := fun n hn ht => by
    have a := hN2.at hn ((hN2.iff hn).mpr ht)
    rw [a.2.2.1, ← a.2.2.2.2.2.2.2.1, ← a.2.2.2.2.2.2.2.2.1, ← a.2.2.2.2.2.2.2.2.2.1]
    exact ⟨a.2.1, a.2.2.2.2.1, a.2.2.2.2.2.2.2.2.2.2.1, a.2.2.2.2.2.2.2.2.2.2.2.1, a.2.2.2.2.2.2.2.2.2.2.2.2.2.1, a.2.2.2.2.2.2.2.2.2.2.2.2.2.2⟩
  refine h _ τ (Rd.of F1 (by decide) (by decide)) (fun P3 h3 => c_Mset (d := D + 8) hW2.M hNM hC2.M (fun υ NN' S' f' hU hNN' hO' hf' => ?_))
  have F : Fr [27, 28, 29, 30, 33, 34, 35, 36, 37, 38, 39, 40, 41, 42, 43, 44, 72, 73, 74, 75, 76, 77, 78, 79, 80] σ υ := F1.tr ((Fr.of hU).mono (by decide))
  have f51 : ∀ i, i ≠ 1000 → gI υ 51 0 i = gI σ 51 0 i := fun i _ => F 51 0 i (by decide)
  -- the same number of cells
  have eN : ∀ n, n < 8 → thN σ n → NN' n = NN n ∧ nXM τ n = nX σ n ∧ nYM τ n = nY σ n ∧ wtNM τ n = wtN σ n := fun n hn ht => by
    have a := hN.at hn ht
    have hm : thNM τ n := (eth n).mpr ((hN.iff hn).mp ht)
    have el : lnNM τ n = lnN σ n := by unfold lnNM; rw [F1 67 0 n (by decide)]; exact a.2.2.1
    obtain ⟨cells, hs⟩ := (hNN n hn ht).1
    obtain ⟨cells', hs'⟩ := (hNN' n hn hm).1
    rw [el] at hs'
    have q := sp_name hC hI.2.2.2.2.2.2.2.2.2 hN hn ht (fun c => F1 62 0 c (by decide)) (fun c => F1 64 0 c (by decide)) (fun c => F1 65 0 c (by decide)) (fun c => F1 66 0 c (by decide)) (fun c => F1 68 0 c (by decide)) hs'
    refine ⟨(SpO.uni (stOK8 hC.C) q hs).1, ?_, ?_, ?_⟩
    · unfold nXM; rw [F1 69 0 n (by decide)]; exact a.2.2.2.2.2.2.2.1.symm
    · unfold nYM; rw [F1 70 0 n (by decide)]; exact a.2.2.2.2.2.2.2.2.1.symm
    · unfold wtNM; rw [F1 71 0 n (by decide)]; exact a.2.2.2.2.2.2.2.2.2.1.symm
  have eB : ∀ q, q < 32 → thN σ (q / 4) → BXf (nXM τ) NN' q = BXf (nX σ) NN q ∧ BYf (nYM τ) q = BYf (nY σ) q ∧ BWf NN' q = BWf NN q := fun q hq ht => by
    obtain ⟨e1, e2, e3, _⟩ := eN (q / 4) (by omega) ht
    unfold BXf BYf BWf
    rw [e1, e2, e3]; exact ⟨rfl, rfl, rfl⟩
  have eh : ∀ X Y W, hitM τ X Y W ↔ hitC σ X Y W := fun X Y W => by
    rw [hit_iff hI.1 hI.2.2.1]
    exact hitM_eq hE (by decide) (by decide) (by decide) (by decide) (by decide) (by decide) X Y W
  have hO2 : SeO (usZ (thN σ) (nX σ) (nY σ) NN (hitC σ)) (ovZ (nX σ) (nY σ) NN) (wtN σ) S' f' := by
    refine hO'.cg (fun q hq => ?_) (fun p q hp hq u1 u2 => ?_) (fun n s hn hs hu => ?_)
    · unfold usZ
      refine and_congr_right fun _ => ?_
      rw [eth, ← hN.iff (by omega)]
      refine and_congr_right fun ht => ?_
      obtain ⟨b1, b2, b3⟩ := eB q hq ht
      rw [b1, b2, b3, eh]
    · have t1 : thN σ (p / 4) := (hN.iff (by omega)).mpr ((eth _).mp u1.2.1)
      have t2 : thN σ (q / 4) := (hN.iff (by omega)).mpr ((eth _).mp u2.2.1)
      obtain ⟨b1, b2, b3⟩ := eB q hq t2
      obtain ⟨c1, c2, c3⟩ := eB p hp t1
      unfold ovZ
      rw [b1, b2, b3, c1, c2, c3]
    · have t1 : thN σ n := by
        have := (eth _).mp hu.2.1
        rw [show (n * 4 + s) / 4 = n by omega] at this
        exact (hN.iff hn).mpr this
      exact (eN n hn t1).2.2.2
  have un := hO.uni hO2
  rw [← un.1]
  refine h3 υ ⟨hI.1.cg F (by decide), hI.2.1.cg F (by decide) (f51 9 (by omega)), hI.2.2.1.cg F (by decide) (f51 10 (by omega)) (f51 11 (by omega)), hI.2.2.2.1.cg F (by decide) (f51 15 (by omega)), hI.2.2.2.2.1.cg F (by decide), hI.2.2.2.2.2.1.cg F (by decide), ?_, hI.2.2.2.2.2.2.2.1.cg F (by decide), hI.2.2.2.2.2.2.2.2.1.cg F (by decide) (f51 35 (by omega)), hI.2.2.2.2.2.2.2.2.2.cg F (by decide)⟩ (Rd.of F (by decide) (by decide))
  refine ⟨?_, fun n hn => ?_⟩
  · have e34 := fun i j => hU.1 34 i j (by decide)
    have e36 := fun i j => hU.1 36 i j (by decide)
    have e37 := fun i j => hU.1 37 i j (by decide)
    unfold ChInv34; simp only [e34, e36, e37]; exact hCh
  · rw [hU.1 44 0 n (by decide), hf n hn]
    by_cases z : gI σ 7 n 4 = 0
    · rw [if_pos z]
      exact ((hf' n hn).2 (fun y => (hN.iff hn).mpr ((eth n).mp y) z)).symm
    · rw [if_neg z, (hf' n hn).1 ((eth n).mpr ((hN.iff hn).mp z)), un.2 n hn]
