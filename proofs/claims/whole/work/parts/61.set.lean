/-! contracts: set of the class -/
theorem c_isUsable {d : Nat} {σ : Mem} {Post : Option AV → Mem → Prop} {q : Nat} (hq : q < 32) (h1 : bI (gI σ 33 0 6) q = true → Post (some (vI 1)) σ) (h0 : ¬ bI (gI σ 33 0 6) q = true → Post (some (vI 0)) σ) : MM d M_Setter_isUsable [vR 33 0, vI (nI q)] σ Post := by
  refine MM.of ok_Setter_isUsable rfl ?_
  refine b_Setter_isUsable_0 ?_
  rw [ush1 _ hq, bit_one]
  exact ⟨h1, h0⟩
theorem l_eq {ks : List Nat} {σ τ : Mem} (h : Eqs ks σ τ) (h1 : 41 ∉ ks) (h2 : 42 ∉ ks) (h3 : 43 ∉ ks) (q : Nat) : lX τ q = lX σ q ∧ lY τ q = lY σ q ∧ lW τ q = lW σ q := by
  unfold lX lY lW; rw [h.1 41 0 q h1, h.1 42 0 q h2, h.1 43 0 q h3]; exact ⟨rfl, rfl, rfl⟩
def enC (σ : Mem) (w i p : Nat) : Prop := entZ (lnW σ w i) (lX σ p) (lY σ p) (lX σ p + lW σ p) (lY σ p + 10)
theorem enC_eq {ks : List Nat} {σ τ : Mem} (h : Eqs ks σ τ) (h1 : 41 ∉ ks) (h2 : 42 ∉ ks) (h3 : 43 ∉ ks) (h4 : 3 ∉ ks) (h5 : 4 ∉ ks) (h6 : 5 ∉ ks) (w i p : Nat) : enC τ w i p ↔ enC σ w i p := by
  unfold enC
  have l := l_eq h h1 h2 h3 p
  rw [l.1, l.2.1, l.2.2, lnW_eq h h4 h5 h6]
theorem c_avoidWay {d : Nat} {σ : Mem} {Post : Option AV → Mem → Prop} {w c s : Nat} (hv : WayV σ w c s) (hsh : ∀ p, p < 32 → bI (gI σ 33 0 6) p = true → shC σ p ∧ 0 ≤ lW σ p ∧ lW σ p ≤ 100) (h : ∀ τ : Mem, Eqs [33, 40] σ τ → (∀ p, p < 32 → (bI (gI τ 33 0 6) p = true ↔ bI (gI σ 33 0 6) p = true ∧ ∀ i, i + 1 < s → ¬ enC σ w i p)) → Post none τ) : MM (d + 2) M_Setter_avoidWay [vR 33 0, vR 2 w] σ Post := by
  have s20 : s ≤ 20 := by have := hv.2.2.1; have := hv.2.2.2.1; omega
  have nn : 2 ∉ [33, 40] ∧ 3 ∉ [33, 40] ∧ 4 ∉ [33, 40] ∧ 5 ∉ [33, 40] ∧ 41 ∉ [33, 40] ∧ 42 ∉ [33, 40] ∧ 43 ∉ [33, 40] := by decide
  obtain ⟨n2, n3, n4, n5, n41, n42, n43⟩ := nn
  refine MM.of ok_Setter_avoidWay rfl ?_
  have key : ∀ k, k ≤ s - 1 → ∀ (τ : Mem) (v3 : AV), Eqs [33, 40] σ τ → (∀ p, p < 32 → (bI (gI τ 33 0 6) p = true ↔ bI (gI σ 33 0 6) p = true ∧ ∀ i, i < k → i + 1 < s → ¬ enC σ w i p)) → WS (d + 1 + 1) M_Setter_avoidWay 2 [vR 33 0, vR 2 w, vI (nI k), v3] [] τ Post := by
    refine upto (s - 1) ?_ ?_
    · intro τ v3 hE hb
      refine b_Setter_avoidWay_2 ⟨fun _ => h τ hE (fun p hp => ?_), fun z => absurd ((lc1 ((hE.1 2 w 4 n2).trans hv.2.1) (by omega) (by omega)).mpr (by omega)) z⟩
      rw [hb p hp]
      exact ⟨fun y => ⟨y.1, fun i hi => y.2 i (by omega) hi⟩, fun y => ⟨y.1, fun i _ hi => y.2 i hi⟩⟩
    · intro k hk ih τ v3 hE hb
      have hvt := hv.eq hE n2 n3 n4 n5
      refine b_Setter_avoidWay_2 ⟨fun z => absurd ((lc1 ((hE.1 2 w 4 n2).trans hv.2.1) (by omega) (by omega)).mp z) (by omega), fun _ => ?_⟩
      refine c_bringLine (Or.inr (Or.inr rfl)) (by omega) (vp_nb hvt (by omega)) (vp_nb hvt (by omega)) (fun υ hU hl => ?_)
      refine b_Setter_avoidWay_21 ?_
      have E1 : Eqs [33, 40] σ υ := hE.tr (hU.mono (by decide))
      have hl2 : lnC υ 40 = lnW σ w k := by rw [hl]; exact lnW_eq hE n3 n4 n5 w k
      have inn : ∀ b, b ≤ 32 → ∀ τ2 : Mem, Eqs [33] υ τ2 → (∀ p, p < 32 → (bI (gI τ2 33 0 6) p = true ↔ bI (gI σ 33 0 6) p = true ∧ ∀ i, (i < k ∨ (i = k ∧ p < b)) → i + 1 < s → ¬ enC σ w i p)) → WS (d + 1 + 1) M_Setter_avoidWay 23 [vR 33 0, vR 2 w, vI (nI k), vI (nI b)] [] τ2 Post := by
        refine upto 32 ?_ ?_
        · intro τ2 h2 hb2
          refine b_Setter_avoidWay_23 (pk_le 32 32 (fun _ => ?_) (fun z => by omega))
          rw [nI_1]
          refine ih τ2 _ (E1.tr (h2.mono (by decide))) (fun p hp => ?_)
          rw [hb2 p hp]
          exact ⟨fun y => ⟨y.1, fun i hi hi2 => y.2 i (by omega) hi2⟩, fun y => ⟨y.1, fun i hi hi2 => y.2 i (by omega) hi2⟩⟩
        · intro b hb32 ihb τ2 h2 hb2
          have E2 : Eqs [33, 40] σ τ2 := E1.tr (h2.mono (by decide))
          have ln := l_eq E2 n41 n42 n43 b
          refine b_Setter_avoidWay_23 (pk_le 32 b (fun z => by omega) (fun _ => ?_))
          refine c_isUsable hb32 (fun z => ?_) (fun z => ?_)
          · have zz := (hb2 b hb32).mp z
            obtain ⟨q1, q2, q3⟩ := hsh b hb32 zz.1
            have vb : vp_in (nI b) 32 := vp_n hb32 (by omega)
            refine b_Setter_avoidWay_34t ⟨vb, vb, vb, vb, vb, ?_⟩
            rw [cl_n (by omega)]
            have x1 : (gI τ2 41 0 b).toInt = lX σ b := ln.1
            have x2 : (gI τ2 42 0 b).toInt = lY σ b := ln.2.1
            have x3 : (gI τ2 43 0 b).toInt = lW σ b := ln.2.2
            obtain ⟨c1, c2, c3, c4⟩ := q1
            have c1' := c1; have c2' := c2
            unfold co at c1' c2'
            have x4 : (gI τ2 41 0 b + gI τ2 43 0 b).toInt = lX σ b + lW σ b := by rw [t_add, x1, x3] <;> rw [x1, x3] <;> omega
            have x5 : (gI τ2 42 0 b + 10).toInt = lY σ b + 10 := by rw [t_add, x2, t_10] <;> rw [x2, t_10] <;> omega
            have hl3 : lnC τ2 40 = lnW σ w k := by rw [lnC_eq h2 (by decide)]; exact hl2
            refine c_enters (by rw [hl3]; exact lnB_W hv (by omega)) (by rw [x1]; exact c1) (by rw [x2]; exact c2) (by rw [x4]; exact c3) (by rw [x5]; exact c4) (fun y => ?_) (fun y => ?_)
            · rw [hl3, x1, x2, x4, x5] at y
              refine b_Setter_avoidWay_78t (fun σ3 e3 => ?_)
              rw [nI_1]
              refine ihb σ3 (by rw [e3]; exact h2.pI (by decide)) (fun p hp => ?_)
              rw [e3, gI_pI, if_pos ⟨rfl, rfl, rfl⟩, f_an _ _ _ (by omega) hp]
              by_cases u : p = b
              · rw [if_pos u]
                refine ⟨fun q => absurd q (by decide), fun q => ?_⟩
                subst u
                exact absurd y (q.2 k (Or.inr ⟨rfl, by omega⟩) (by omega))
              · rw [if_neg u, hb2 p hp]
                exact ⟨fun q => ⟨q.1, fun i hi hi2 => q.2 i (by omega) hi2⟩, fun q => ⟨q.1, fun i hi hi2 => q.2 i (by omega) hi2⟩⟩
            · rw [hl3, x1, x2, x4, x5] at y
              refine b_Setter_avoidWay_78f ?_
              rw [nI_1]
              refine ihb τ2 h2 (fun p hp => ?_)
              rw [hb2 p hp]
              refine ⟨fun q => ⟨q.1, fun i hi hi2 => ?_⟩, fun q => ⟨q.1, fun i hi hi2 => q.2 i (by omega) hi2⟩⟩
              by_cases u : i = k ∧ p = b
              · rw [u.1, u.2]; exact y
              · exact q.2 i (by omega) hi2
          · refine b_Setter_avoidWay_34f ?_
            rw [nI_1]
            refine ihb τ2 h2 (fun p hp => ?_)
            by_cases u : p = b
            · subst u
              constructor
              · intro q; exact absurd q z
              · rintro ⟨q1, q2⟩
                exact absurd ((hb2 p hp).mpr ⟨q1, fun i hi hi2 => q2 i (by omega) hi2⟩) z
            · rw [hb2 p hp]
              exact ⟨fun q => ⟨q.1, fun i hi hi2 => q.2 i (by omega) hi2⟩, fun q => ⟨q.1, fun i hi hi2 => q.2 i (by omega) hi2⟩⟩
      refine inn 0 (by omega) υ Eqs.rf (fun p hp => ?_)
      rw [hU.1 33 0 6 (by decide), hb p hp]
      exact ⟨fun q => ⟨q.1, fun i hi hi2 => q.2 i (by omega) hi2⟩, fun q => ⟨q.1, fun i hi hi2 => q.2 i (by omega) hi2⟩⟩
  refine b_Setter_avoidWay_0 ?_
  exact key 0 (by omega) σ vU Eqs.rf (fun p hp => ⟨fun y => ⟨y, fun i hi => by omega⟩, fun y => y.1⟩)
def hdW (σ : Mem) (w : Nat) : Prop := gI σ 15 0 1 ≠ 0 ∧ gI σ 21 0 w = 0
theorem c_avoid {d : Nat} {σ : Mem} {Post : Option AV → Mem → Prop} (hv : AllV σ) (hsh : ∀ p, p < 32 → bI (gI σ 33 0 6) p = true → shC σ p ∧ 0 ≤ lW σ p ∧ lW σ p ≤ 100) (h : ∀ τ : Mem, Eqs [33, 40] σ τ → (∀ p, p < 32 → (bI (gI τ 33 0 6) p = true ↔ bI (gI σ 33 0 6) p = true ∧ ∀ w, w < 12 → hdW σ w → ∀ i, i + 1 < shW σ w → ¬ enC σ w i p)) → Post none τ) : MM (d + 3) M_Setter_avoid [vR 33 0, vR 1 0, vR 15 0] σ Post := by
  have nn : 2 ∉ [33, 40] ∧ 3 ∉ [33, 40] ∧ 4 ∉ [33, 40] ∧ 5 ∉ [33, 40] ∧ 41 ∉ [33, 40] ∧ 42 ∉ [33, 40] ∧ 43 ∉ [33, 40] := by decide
  obtain ⟨n2, n3, n4, n5, n41, n42, n43⟩ := nn
  refine MM.of ok_Setter_avoid rfl ?_
  have key : ∀ w, w ≤ 12 → ∀ τ : Mem, Eqs [33, 40] σ τ → (∀ p, p < 32 → (bI (gI τ 33 0 6) p = true ↔ bI (gI σ 33 0 6) p = true ∧ ∀ w', w' < w → hdW σ w' → ∀ i, i + 1 < shW σ w' → ¬ enC σ w' i p)) → WS (d + 2 + 1) M_Setter_avoid 2 [vR 33 0, vR 1 0, vR 15 0, vI (nI w)] [] τ Post := by
    refine upto 12 ?_ ?_
    · intro τ hE hb
      exact b_Setter_avoid_2 (pk_le 12 12 (fun _ => h τ hE hb) (fun z => by omega))
    · intro w hw ih τ hE hb
      refine b_Setter_avoid_2 (pk_le 12 w (fun z => by omega) (fun _ => ?_))
      have ehd : (gI τ 15 0 1 ≠ 0 ∧ gI τ 21 0 w = 0) ↔ hdW σ w := by rw [hE.1 15 0 1 (by decide), hE.1 21 0 w (by decide)]; exact Iff.rfl
      refine c_holds hw (fun z => ?_) (fun z => ?_)
      · rw [ehd] at z
        refine b_Setter_avoid_13t ⟨vp_n hw (by omega), ?_⟩
        rw [cl_n (by omega)]
        refine c_avoidWay ((hv w hw).eq hE n2 n3 n4 n5) (fun p hp hp2 => ?_) (fun υ hU hbu => ?_)
        · have l := l_eq hE n41 n42 n43 p
          have := hsh p hp ((hb p hp).mp hp2).1
          unfold shC at this ⊢
          rw [l.1, l.2.1, l.2.2]; exact this
        · refine b_Setter_avoid_23 ?_
          rw [nI_1]
          refine ih υ (hE.tr hU) (fun p hp => ?_)
          rw [hbu p hp, hb p hp]
          constructor
          · rintro ⟨⟨y1, y2⟩, y3⟩
            refine ⟨y1, fun w' hw' hd i hi => ?_⟩
            rcases Nat.lt_or_ge w' w with u | u
            · exact y2 w' u hd i hi
            · have e : w' = w := by omega
              subst e
              have := y3 i hi
              rw [enC_eq hE n41 n42 n43 n3 n4 n5] at this
              exact this
          · rintro ⟨y1, y2⟩
            exact ⟨⟨y1, fun w' hw' hd i hi => y2 w' (by omega) hd i hi⟩, fun i hi => by rw [enC_eq hE n41 n42 n43 n3 n4 n5]; exact y2 w (by omega) z i hi⟩
      · rw [ehd] at z
        refine b_Setter_avoid_13f (b_Setter_avoid_23 ?_)
        rw [nI_1]
        refine ih τ hE (fun p hp => ?_)
        rw [hb p hp]
        constructor
        · rintro ⟨y1, y2⟩
          refine ⟨y1, fun w' hw' hd i hi => ?_⟩
          rcases Nat.lt_or_ge w' w with u | u
          · exact y2 w' u hd i hi
          · rw [show w' = w by omega] at hd; exact absurd hd z
        · rintro ⟨y1, y2⟩
          exact ⟨y1, fun w' hw' hd i hi => y2 w' (by omega) hd i hi⟩
  refine b_Setter_avoid_0 ?_
  exact key 0 (by omega) σ Eqs.rf (fun p hp => ⟨fun y => ⟨y, fun w' hw' => by omega⟩, fun y => y.1⟩)
def ovC (σ : Mem) (p q : Nat) : Prop := lX σ p < lX σ q + lW σ q ∧ lX σ q < lX σ p + lW σ p ∧ lY σ p < lY σ q + 10 ∧ lY σ q < lY σ p + 10
theorem ovC_sym {σ : Mem} {p q : Nat} (h : ovC σ p q) : ovC σ q p := ⟨h.2.1, h.1, h.2.2.2, h.2.2.1⟩
theorem c_overlap {d : Nat} {σ : Mem} {Post : Option AV → Mem → Prop} {p q : Nat} (hp : p < 32) (hq : q < 32) (sp : shC σ p ∧ 0 ≤ lW σ p ∧ lW σ p ≤ 100) (sq : shC σ q ∧ 0 ≤ lW σ q ∧ lW σ q ≤ 100) (h1 : ovC σ p q → Post (some (vI 1)) σ) (h0 : ¬ ovC σ p q → Post (some (vI 0)) σ) : MM d M_Setter_overlap [vR 33 0, vI (nI p), vI (nI q)] σ Post := by
  refine MM.of ok_Setter_overlap rfl ?_
  have vp : vp_in (nI p) 32 := vp_n hp (by omega)
  have vq : vp_in (nI q) 32 := vp_n hq (by omega)
  obtain ⟨⟨p1, p2, p3, p4⟩, p5, p6⟩ := sp
  obtain ⟨⟨q1, q2, q3, q4⟩, q5, q6⟩ := sq
  unfold co lX lY lW at *
  have t10 := t_10
  have xp : (gI σ 41 0 p + gI σ 43 0 p).toInt = (gI σ 41 0 p).toInt + (gI σ 43 0 p).toInt := t_add (by omega) (by omega)
  have xq : (gI σ 41 0 q + gI σ 43 0 q).toInt = (gI σ 41 0 q).toInt + (gI σ 43 0 q).toInt := t_add (by omega) (by omega)
  have yp : (gI σ 42 0 p + 10).toInt = (gI σ 42 0 p).toInt + 10 := by rw [t_add, t_10] <;> rw [t_10] <;> omega
  have yq : (gI σ 42 0 q + 10).toInt = (gI σ 42 0 q).toInt + 10 := by rw [t_add, t_10] <;> rw [t_10] <;> omega
  unfold ovC lX lY lW at h1 h0
  refine b_Setter_overlap_0 ⟨vp, vq, vq, ?_⟩
  rw [cl_n (i := p) (by omega), cl_n (i := q) (by omega), t_le, t_le, t_le, t_le, xp, xq, yp, yq]
  exact ⟨fun z => h0 (by omega), fun z => ⟨vq, vp, vp, fun z2 => h0 (by omega), fun z2 => ⟨vp, vq, fun z3 => h0 (by omega), fun z3 => ⟨vq, vp, fun z4 => h0 (by omega), fun z4 => h1 (by omega)⟩⟩⟩⟩
def ChInv34 (σ : Mem) : Prop := gI σ 34 0 0 = nI 8 ∧ gI σ 34 0 1 = nI 4 ∧ gI σ 37 0 8 = 0 ∧ ∀ i, i < 8 → ∃ g, g ≤ 16001 ∧ gI σ 36 0 i = nI g
theorem c_sfind {d : Nat} {σ : Mem} {Post : Option AV → Mem → Prop} {g : Nat → Nat} (hI : gI σ 34 0 0 = nI 8 ∧ gI σ 34 0 1 = nI 4 ∧ gI σ 37 0 8 = 0) (hgn : ∀ i, i < 8 → gI σ 36 0 i = nI (g i) ∧ g i ≤ 16001) (hsh : ∀ p, p < 32 → bI (gI σ 33 0 6) p = true → shC σ p ∧ 0 ≤ lW σ p ∧ lW σ p ≤ 100) (h : ∀ (τ : Mem) (v : Nat) (f : Nat → Nat), Eqs [34, 35, 37, 38, 39, 44] σ τ → (gI τ 34 0 0 = nI 8 ∧ gI τ 34 0 1 = nI 4 ∧ gI τ 37 0 8 = 0) → ChO 8 4 g (fun p q => p ≠ q ∧ fB (gI σ 33 0 6) p ∧ fB (gI σ 33 0 6) q ∧ ovC σ p q) (fB (gI σ 33 0 6)) v f → (∀ n, n < 8 → gI τ 44 0 n = if gI σ 7 n 4 = 0 then -1 else nI (f n)) → Post (some (vI (nI (v / 16)))) τ) : MM (d + 11) M_Setter_find [vR 33 0, vR 6 0] σ Post := by
  refine MM.of ok_Setter_find rfl ?_
  refine b_Setter_find_0 ?_
  refine c_clearClashes34 (fun τ0 hE0 hz => ?_)
  refine b_Setter_find_7 ?_
  have key : ∀ a, a ≤ 32 → ∀ (τ : Mem) (v3 : AV), Eqs [35] σ τ → (∀ p q, p < 32 → q < 32 → (bI (gI τ 35 0 p) q = true ↔ (p ≠ q ∧ fB (gI σ 33 0 6) p ∧ fB (gI σ 33 0 6) q ∧ ovC σ p q) ∧ p < a ∧ q < a)) → WS (d + 10 + 1) M_Setter_find 9 [vR 33 0, vR 6 0, vI (nI a), v3] [] τ Post := by
    refine upto 32 ?_ ?_
    · intro τ v3 hE hc
      refine b_Setter_find_9 (pk_le 32 32 (fun _ => ?_) (fun z => by omega))
      have hC : ChC34 τ g (fun p q => p ≠ q ∧ fB (gI σ 33 0 6) p ∧ fB (gI σ 33 0 6) q ∧ ovC σ p q) := by
        refine ⟨?_, ?_, fun i hi => ?_, fun p q hp hq => ?_⟩
        · rw [hE.1 34 0 0 (by decide)]; exact hI.1
        · rw [hE.1 34 0 1 (by decide)]; exact hI.2.1
        · rw [hE.1 36 0 i (by decide)]; exact hgn i hi
        · rw [hc p q hp hq]; exact ⟨fun y => y.1, fun y => ⟨y, hp, hq⟩⟩
      rw [hE.1 33 0 6 (by decide)]
      show MM (d + 8 + 2) _ _ _ _
      refine c_choose34 hC (by rw [hE.1 37 0 8 (by decide)]; exact hI.2.2) (fun υ v f hU hK hB hO hf hv2 => ?_)
      refine b_Setter_find_83 ?_
      have loop : ∀ n, n ≤ 8 → ∀ τ2 : Mem, Eqs [44] υ τ2 → (∀ m, m < n → gI τ2 44 0 m = if gI σ 7 m 4 = 0 then -1 else nI (f m)) → WS (d + 10 + 1) M_Setter_find 86 [vR 33 0, vR 6 0, vI (nI (v / 16)), vI (nI n)] [] τ2 Post := by
        refine upto 8 ?_ ?_
        · intro τ2 h2 hs
          refine b_Setter_find_86 (pk_le 8 8 (fun _ => ?_) (fun z => by omega))
          refine h τ2 v f (((hE.mono (by decide)).tr (hU.mono (by decide))).tr (h2.mono (by decide))) ⟨?_, ?_, ?_⟩ hO hs
          · rw [h2.1 34 0 0 (by decide), hK 0 (by omega)]; exact hC.1
          · rw [h2.1 34 0 1 (by decide), hK 1 (by omega)]; exact hC.2.1
          · rw [h2.1 37 0 8 (by decide)]; exact hB
        · intro n hn ihn τ2 h2 hs
          have vn : vp_in (nI n) 8 := vp_n hn (by omega)
          refine b_Setter_find_86 (pk_le 8 n (fun z => by omega) (fun _ => ⟨vn, ?_⟩))
          have e7 : gI τ2 7 n 4 = gI σ 7 n 4 := by rw [h2.1 7 n 4 (by decide), hU.1 7 n 4 (by decide), hE.1 7 n 4 (by decide)]
          have e39 : gI τ2 39 0 n = nI (f n) := by rw [h2.1 39 0 n (by decide)]; exact hf n hn
          rw [cl_n (by omega), e7, e39, nI_1]
          refine ⟨fun z => ⟨vn, fun σ3 e3 => ihn σ3 (by rw [e3]; exact h2.pI (by decide)) (fun m hm => ?_)⟩, fun z => ⟨vn, vn, fun σ3 e3 => ihn σ3 (by rw [e3]; exact h2.pI (by decide)) (fun m hm => ?_)⟩⟩
          · rw [e3, gI_pI]
            by_cases u : m = n
            · rw [if_pos ⟨rfl, rfl, u⟩, u, if_pos z]
            · rw [if_neg (by omega)]; exact hs m (by omega)
          · rw [e3, gI_pI]
            by_cases u : m = n
            · rw [if_pos ⟨rfl, rfl, u⟩, u, if_neg z]
            · rw [if_neg (by omega)]; exact hs m (by omega)
      exact loop 0 (by omega) υ Eqs.rf (fun m hm => by omega)
    · intro a ha ih τ v3 hE hc
      refine b_Setter_find_9 (pk_le 32 a (fun z => by omega) (fun _ => ?_))
      have inn : ∀ b, b ≤ a → ∀ υ : Mem, Eqs [35] σ υ → (∀ p q, p < 32 → q < 32 → (bI (gI υ 35 0 p) q = true ↔ (p ≠ q ∧ fB (gI σ 33 0 6) p ∧ fB (gI σ 33 0 6) q ∧ ovC σ p q) ∧ ((p < a ∧ q < a) ∨ (p = a ∧ q < b) ∨ (q = a ∧ p < b)))) → WS (d + 10 + 1) M_Setter_find 17 [vR 33 0, vR 6 0, vI (nI a), vI (nI b)] [] υ Post := by
        refine upto a ?_ ?_
        · intro υ hU hcu
          refine b_Setter_find_17 (pk_le a a (fun _ => ?_) (fun z => absurd z (Nat.lt_irrefl a)))
          rw [nI_1]
          refine ih υ _ hU (fun p q hp hq => ?_)
          rw [hcu p q hp hq]
          constructor
          · rintro ⟨z1, z2⟩; exact ⟨z1, by omega, by omega⟩
          · rintro ⟨z1, z2, z3⟩
            have := z1.1
            exact ⟨z1, by omega⟩
        · intro b hb ihb υ hU hcu
          have e6 : gI υ 33 0 6 = gI σ 33 0 6 := hU.1 33 0 6 (by decide)
          have lp := fun p => l_eq hU (by decide) (by decide) (by decide) p
          have eov : ovC υ a b ↔ ovC σ a b := by unfold ovC; rw [(lp a).1, (lp a).2.1, (lp a).2.2, (lp b).1, (lp b).2.1, (lp b).2.2]
          -- the pair doesn't clash
          have skip : ∀ υ' : Mem, Eqs [35] σ υ' → (∀ p, gI υ' 35 0 p = gI υ 35 0 p) → ¬ (fB (gI σ 33 0 6) a ∧ fB (gI σ 33 0 6) b ∧ ovC σ a b) → WS (d + 10 + 1) M_Setter_find 60 [vR 33 0, vR 6 0, vI (nI a), vI (nI b)] [] υ' Post := by
            intro υ' hU' heq hno
            refine b_Setter_find_60 ?_
            rw [nI_1]
            refine ihb υ' hU' (fun p q hp hq => ?_)
            rw [heq, hcu p q hp hq]
            constructor
            · rintro ⟨z1, z2⟩; exact ⟨z1, by omega⟩
            · rintro ⟨z1, z2⟩
              refine ⟨z1, ?_⟩
              rcases Nat.lt_or_ge p a with y1 | y1
              · rcases Nat.lt_or_ge q a with y2 | y2
                · exact Or.inl ⟨y1, y2⟩
                · have e3 : q = a := by omega
                  subst e3
                  by_cases e4 : p = b
                  · subst e4; exact absurd ⟨z1.2.2.1, z1.2.1, ovC_sym z1.2.2.2⟩ hno
                  · omega
              · have e3 : p = a := by omega
                subst e3
                by_cases e4 : q = b
                · subst e4; exact absurd ⟨z1.2.1, z1.2.2.1, z1.2.2.2⟩ hno
                · omega
          refine b_Setter_find_17 (pk_le a b (fun z => by omega) (fun _ => ?_))
          refine c_isUsable ha (fun z1 => ?_) (fun z1 => b_Setter_find_27f (skip υ hU (fun _ => rfl) (fun y => z1 (by rw [e6]; exact y.1))))
          refine b_Setter_find_27t ?_
          refine c_isUsable (by omega) (fun z2 => ?_) (fun z2 => b_Setter_find_35f (skip υ hU (fun _ => rfl) (fun y => z2 (by rw [e6]; exact y.2.1))))
          rw [e6] at z1 z2
          refine b_Setter_find_35t ?_
          have sh : ∀ p, p < 32 → bI (gI σ 33 0 6) p = true → shC υ p ∧ 0 ≤ lW υ p ∧ lW υ p ≤ 100 := fun p hp hp2 => by
            have := hsh p hp hp2
            unfold shC at this ⊢
            rw [(lp p).1, (lp p).2.1, (lp p).2.2]; exact this
          refine c_overlap ha (by omega) (sh a ha z1) (sh b (by omega) z2) (fun z3 => ?_) (fun z3 => b_Setter_find_44f (skip υ hU (fun _ => rfl) (fun y => z3 (eov.mpr y.2.2))))
          rw [eov] at z3
          refine b_Setter_find_44t ?_
          refine c_join35 (by omega) ha (by omega) (fun τ3 hJ => ?_)
          refine b_Setter_find_60 ?_
          rw [nI_1]
          refine ihb τ3 (hU.tr hJ.1) (fun p q hp hq => ?_)
          rw [hJ.2 p q (by omega)]
          by_cases u : (p = a ∧ q = b) ∨ (p = b ∧ q = a)
          · rw [if_pos u]
            refine ⟨fun _ => ?_, fun _ => by decide⟩
            rcases u with ⟨rfl, rfl⟩ | ⟨rfl, rfl⟩
            · exact ⟨⟨by omega, z1, z2, z3⟩, by omega⟩
            · exact ⟨⟨by omega, z2, z1, ovC_sym z3⟩, by omega⟩
          · rw [if_neg u, hcu p q hp hq]
            constructor
            · rintro ⟨z1, z2⟩; exact ⟨z1, by omega⟩
            · rintro ⟨z1, z2⟩; exact ⟨z1, by omega⟩
      refine inn 0 (by omega) τ hE (fun p q hp hq => ?_)
      rw [hc p q hp hq]
      constructor
      · rintro ⟨z1, z2⟩; exact ⟨z1, by omega⟩
      · rintro ⟨z1, z2⟩; exact ⟨z1, by omega⟩
  refine key 0 (by omega) τ0 vU hE0 (fun p q hp hq => ?_)
  rw [hz p hp, bI_0]
  constructor
  · intro z; exact absurd z (by decide)
  · intro z; omega
/-- the boxes by numbers -/
def BXf (nx : Nat → Int) (NN : Nat → Nat) (q : Nat) : Int := bX (nx (q / 4)) (NN (q / 4)) (q % 4)
def BYf (ny : Nat → Int) (q : Nat) : Int := bY (ny (q / 4)) (q % 4)
def BWf (NN : Nat → Nat) (q : Nat) : Int := 6 * (NN (q / 4) : Int)
def shZ (X Y W : Int) : Prop := co X ∧ co Y ∧ co (X + W) ∧ co (Y + 10)
def usZ (th : Nat → Prop) (nx ny : Nat → Int) (NN : Nat → Nat) (hit : Int → Int → Int → Prop) (q : Nat) : Prop := q < 32 ∧ th (q / 4) ∧ shZ (BXf nx NN q) (BYf ny q) (BWf NN q) ∧ ¬ hit (BXf nx NN q) (BYf ny q) (BWf NN q)
def ovZ (nx ny : Nat → Int) (NN : Nat → Nat) (p q : Nat) : Prop := BXf nx NN p < BXf nx NN q + BWf NN q ∧ BXf nx NN q < BXf nx NN p + BWf NN p ∧ BYf ny p < BYf ny q + 10 ∧ BYf ny q < BYf ny p + 10
theorem ovZ_sym {nx ny : Nat → Int} {NN : Nat → Nat} {p q : Nat} (h : ovZ nx ny NN p q) : ovZ nx ny NN q p := ⟨h.2.1, h.1, h.2.2.2, h.2.2.1⟩
def hitC (σ : Mem) (X Y W : Int) : Prop := ∃ w, w < 12 ∧ hdW σ w ∧ ∃ i, i + 1 < shW σ w ∧ entZ (lnW σ w i) X Y (X + W) (Y + 10)
theorem ChO.cl {n o : Nat} {g : Nat → Nat} {CL CL' : Nat → Nat → Prop} {F : Nat → Prop} {v : Nat} {f : Nat → Nat} (h : ChO n o g CL F v f) (hc : ∀ p q, F p → F q → (CL p q ↔ CL' p q)) : ChO n o g CL' F v f := by
  have a : ∀ C C' : Nat → Nat → Prop, (∀ p q, F p → F q → (C p q ↔ C' p q)) → ∀ e, AdF n o C F 0 e → AdF n o C' F 0 e := by
    intro C C' hC e he i h1 h2
    refine ⟨(he i h1 h2).1, fun h3 => ⟨((he i h1 h2).2 h3).1, fun j j1 j2 j3 j4 => ?_⟩⟩
    exact ((he i h1 h2).2 h3).2 j j1 j2 j3 ((hC _ _ ((he j j1 (by omega)).2 j3).1 ((he i h1 h2).2 h3).1).mpr j4)
  exact ⟨a CL CL' hc f h.1, h.2.1, fun e he => h.2.2 e (a CL' CL (fun p q hp hq => (hc p q hp hq).symm) e he)⟩
theorem c_TMset {d : Nat} {σ : Mem} {Post : Option AV → Mem → Prop} (hv : AllV σ) (hN : NmOK σ) (hC : CtrOK σ) (hI : ChInv34 σ) (h : ∀ (τ : Mem) (NN : Nat → Nat) (S : Nat) (f : Nat → Nat), Eqs [27, 28, 29, 30, 33, 34, 35, 36, 37, 38, 39, 40, 41, 42, 43, 44] σ τ → ChInv34 τ → (∀ m, m < 8 → thN σ m → SpN σ m (NN m) ∧ 1 ≤ NN m ∧ NN m ≤ 12) → SeO (usZ (thN σ) (nX σ) (nY σ) NN (hitC σ)) (ovZ (nX σ) (nY σ) NN) (wtN σ) S f → (∀ n, n < 8 → gI τ 44 0 n = if gI σ 7 n 4 = 0 then -1 else nI (f n)) → Post (some (vI (nI S))) τ) : MM (d + 12) M_TM_set [vR 0 0] σ Post := by
  refine MM.of ok_TM_set rfl ?_
  refine b_TM_set_0 ?_
  show MM (d + 8 + 3) _ _ _ _
  refine c_smeasure hN hC (fun τ NN hM => ?_)
  refine b_TM_set_15 ?_
  have nb : ∀ q, q < 32 → thN σ (q / 4) → lX τ q = BXf (nX σ) NN q ∧ lY τ q = BYf (nY σ) q ∧ lW τ q = BWf NN q := fun q hq ht => by
    have := (hM.2.1 (q / 4) (by omega) ht).2.2.2.1 (q % 4) (by omega)
    rw [show q / 4 * 4 + q % 4 = q by omega] at this
    exact this
  have ks : 2 ∉ [27, 28, 29, 30, 33, 36, 41, 42, 43] ∧ 3 ∉ [27, 28, 29, 30, 33, 36, 41, 42, 43] ∧ 4 ∉ [27, 28, 29, 30, 33, 36, 41, 42, 43] ∧ 5 ∉ [27, 28, 29, 30, 33, 36, 41, 42, 43] := by decide
  have hsh : ∀ p, p < 32 → bI (gI τ 33 0 6) p = true → shC τ p ∧ 0 ≤ lW τ p ∧ lW τ p ≤ 100 := fun p hp hp2 => by
    have z := (hM.2.2.2 p hp).mp hp2
    have n1 := nb p hp z.2.1
    have n2 := hM.2.1 (p / 4) z.1 z.2.1
    refine ⟨z.2.2, ?_, ?_⟩ <;> rw [n1.2.2] <;> unfold BWf <;> omega
  have hvt : AllV τ := fun w hw => by
    have e1 : ctW τ w = ctW σ w := by unfold ctW; rw [hM.1.1 2 w 3 ks.1]
    have e2 : shW τ w = shW σ w := by unfold shW; rw [hM.1.1 2 w 4 ks.1]
    rw [e1, e2]
    exact (hv w hw).eq hM.1 ks.1 ks.2.1 ks.2.2.1 ks.2.2.2
  show MM (d + 8 + 3) _ _ _ _
  refine c_avoid hvt hsh (fun υ hU hb => ?_)
  refine b_TM_set_30 ?_
  have E1 : Eqs [27, 28, 29, 30, 33, 36, 40, 41, 42, 43] σ υ := (hM.1.mono (by decide)).tr (hU.mono (by decide))
  have lu := fun q => l_eq hU (by decide) (by decide) (by decide) q
  have shu : ∀ p, p < 32 → bI (gI υ 33 0 6) p = true → shC υ p ∧ 0 ≤ lW υ p ∧ lW υ p ≤ 100 := fun p hp hp2 => by
    have := hsh p hp ((hb p hp).mp hp2).1
    unfold shC at this ⊢
    rw [(lu p).1, (lu p).2.1, (lu p).2.2]; exact this
  -- the gains
  have hg : ∃ g : Nat → Nat, (∀ i, i < 8 → gI υ 36 0 i = nI (g i) ∧ g i ≤ 16001) ∧ ∀ i, i < 8 → thN σ i → g i = wtN σ i * 16 + 1 := by
    refine ⟨fun i => if gI σ 7 i 4 = 0 then (gI σ 36 0 i).toNatClampNeg else wtN σ i * 16 + 1, fun i hi => ?_, fun i hi ht => if_neg ht⟩
    dsimp only
    rw [hU.1 36 0 i (by decide)]
    by_cases ht : gI σ 7 i 4 = 0
    · rw [if_pos ht, hM.2.2.1 i (fun y => y.2 ht)]
      obtain ⟨g, g1, g2⟩ := hI.2.2.2 i hi
      rw [g2, cl_n (by omega)]
      exact ⟨rfl, g1⟩
    · have := hM.2.1 i hi ht
      have w := (hN i hi ht).2.2.2.2.2
      rw [if_neg ht]
      exact ⟨this.2.2.2.2, by omega⟩
  obtain ⟨g, hg1, hg2⟩ := hg
  have us_iff : ∀ q, q < 32 → (fB (gI υ 33 0 6) q ↔ usZ (thN σ) (nX σ) (nY σ) NN (hitC σ) q) := fun q hq => by
    unfold fB
    rw [hb q hq, hM.2.2.2 q hq]
    constructor
    · rintro ⟨⟨y1, y2, y3⟩, y4⟩
      have n1 := nb q hq y2
      refine ⟨hq, y2, ?_, ?_⟩
      · unfold shC at y3; unfold shZ; rw [n1.1, n1.2.1, n1.2.2] at y3; exact y3
      · rintro ⟨w, hw, hd, i, hi, he⟩
        have hd' : hdW τ w := by unfold hdW; rw [hM.1.1 15 0 1 (by decide), hM.1.1 21 0 w (by decide)]; exact hd
        have e2 : shW τ w = shW σ w := by unfold shW; rw [hM.1.1 2 w 4 ks.1]
        refine y4 w hw hd' i (by rw [e2]; exact hi) ?_
        unfold enC
        rw [n1.1, n1.2.1, n1.2.2, lnW_eq hM.1 ks.2.1 ks.2.2.1 ks.2.2.2]
        exact he
    · rintro ⟨_, y2, y3, y4⟩
      have n1 := nb q hq y2
      refine ⟨⟨by omega, y2, ?_⟩, fun w hw hd i hi he => y4 ⟨w, hw, ?_, i, ?_, ?_⟩⟩
      · unfold shC; unfold shZ at y3; rw [n1.1, n1.2.1, n1.2.2]; exact y3
      · unfold hdW at hd ⊢; rw [hM.1.1 15 0 1 (by decide), hM.1.1 21 0 w (by decide)] at hd; exact hd
      · have e2 : shW τ w = shW σ w := by unfold shW; rw [hM.1.1 2 w 4 ks.1]
        rw [← e2]; exact hi
      · unfold enC at he
        rw [n1.1, n1.2.1, n1.2.2, lnW_eq hM.1 ks.2.1 ks.2.2.1 ks.2.2.2] at he
        exact he
  show MM (d + 11) _ _ _ _
  refine c_sfind ⟨?_, ?_, ?_⟩ hg1 shu (fun τ2 v f h2 hi2 hO hs => ?_)
  · rw [hU.1 34 0 0 (by decide), hM.1.1 34 0 0 (by decide)]; exact hI.1
  · rw [hU.1 34 0 1 (by decide), hM.1.1 34 0 1 (by decide)]; exact hI.2.1
  · rw [hU.1 37 0 8 (by decide), hM.1.1 37 0 8 (by decide)]; exact hI.2.2.1
  · refine b_TM_set_41 ?_
    have hO2 : ChO 8 4 g (fun p q => p ≠ q ∧ usZ (thN σ) (nX σ) (nY σ) NN (hitC σ) p ∧ usZ (thN σ) (nX σ) (nY σ) NN (hitC σ) q ∧ ovZ (nX σ) (nY σ) NN p q) (usZ (thN σ) (nX σ) (nY σ) NN (hitC σ)) v f := by
      refine ChO.cl (hO.congr us_iff) (fun p q hp hq => ?_)
      have n1 := nb p hp.1 hp.2.1
      have n2 := nb q hq.1 hq.2.1
      have eo : ovC υ p q ↔ ovZ (nX σ) (nY σ) NN p q := by
        unfold ovC ovZ
        rw [(lu p).1, (lu p).2.1, (lu p).2.2, (lu q).1, (lu q).2.1, (lu q).2.2, n1.1, n1.2.1, n1.2.2, n2.1, n2.2.1, n2.2.2]
      rw [us_iff p hp.1, us_iff q hq.1, eo]
    refine h τ2 NN (v / 16) f ((E1.mono (by decide)).tr (h2.mono (by decide))) ⟨hi2.1, hi2.2.1, hi2.2.2, fun i hi => ⟨g i, (hg1 i hi).2, ?_⟩⟩ (fun m hm ht => ⟨(hM.2.1 m hm ht).1, (hM.2.1 m hm ht).2.1, (hM.2.1 m hm ht).2.2.1⟩) (ChO_SeO (fun p q => ovZ_sym) (fun i s hi hs4 hu => hg2 i hi (by have := hu.2.1; rw [show (i * 4 + s) / 4 = i by omega] at this; exact this)) hO2) (fun n hn => ?_)
    · rw [h2.1 36 0 i (by decide)]; exact (hg1 i hi).1
    · rw [hs n hn, E1.1 7 n 4 (by decide)]
