/-! setting names: the pure side; measuring boxes in the class -/
def StF (us : Nat → Prop) (ov : Nat → Nat → Prop) (f : Nat → Nat) : Prop := ∀ n, n < 8 → f n ≤ 4 ∧ (f n < 4 → us (n * 4 + f n) ∧ ∀ q, q < n → f q < 4 → ¬ ov (n * 4 + f n) (q * 4 + f q))
def SeO (us : Nat → Prop) (ov : Nat → Nat → Prop) (wt : Nat → Nat) (S : Nat) (f : Nat → Nat) : Prop := StF us ov f ∧ S = vF 4 wt f 0 8 ∧ ∀ h, StF us ov h → vF 4 (fun i => wt i * 16 + 1) h 0 8 < vF 4 (fun i => wt i * 16 + 1) f 0 8 ∨ (vF 4 (fun i => wt i * 16 + 1) h 0 8 = vF 4 (fun i => wt i * 16 + 1) f 0 8 ∧ lexle 0 8 f h)
theorem SeO.uni {us : Nat → Prop} {ov : Nat → Nat → Prop} {wt f f' : Nat → Nat} {S S' : Nat} (h : SeO us ov wt S f) (h' : SeO us ov wt S' f') : S = S' ∧ ∀ i, i < 8 → f i = f' i := by
  have a := h.2.2 f' h'.1
  have b := h'.2.2 f h.1
  have l1 : lexle 0 8 f f' := by
    rcases a with a | a
    · omega
    · exact a.2
  have l2 : lexle 0 8 f' f := by
    rcases b with b | b
    · omega
    · exact b.2
  have e : ∀ i, i < 8 → f i = f' i := fun i hi => lexle_anti l1 l2 i (Nat.zero_le i) hi
  refine ⟨?_, e⟩
  rw [h.2.1, h'.2.1]
  exact vF_congr 8 0 (fun i _ hi => e i (by omega))
theorem vF_gcg {o : Nat} {g g' f : Nat → Nat} : ∀ (k a : Nat), (∀ i, a ≤ i → i < a + k → f i < o → g i = g' i) → vF o g f a k = vF o g' f a k := by
  intro k
  induction k with
  | zero => intro a _; rfl
  | succ k ih =>
    intro a h
    rw [vF_s, vF_s, ih (a + 1) (fun i h1 h2 => h i (by omega) (by omega))]
    unfold gn
    split
    · rw [h a (Nat.le_refl a) (by omega) (by assumption)]
    · rfl
theorem vF_lin4 {wt : Nat → Nat} {f : Nat → Nat} : ∀ (k a : Nat), vF 4 (fun i => wt i * 16 + 1) f a k = 16 * vF 4 wt f a k + vF 4 (fun _ => 1) f a k := by
  intro k
  induction k with
  | zero => intro a; rfl
  | succ k ih =>
    intro a
    rw [vF_s, vF_s, vF_s, ih (a + 1)]
    unfold gn
    dsimp only
    split <;> omega
theorem vF_one4 (f : Nat → Nat) : vF 4 (fun _ => 1) f 0 8 ≤ 8 := by
  have := vF_le (o := 4) (g := fun _ => 1) (f := f) 8 0 (fun _ _ => Nat.le_refl 1)
  omega
theorem ChO_SeO {us : Nat → Prop} {ov : Nat → Nat → Prop} {wt g f : Nat → Nat} {v : Nat} (hs : ∀ p q, ov p q → ov q p) (hg : ∀ i s, i < 8 → s < 4 → us (i * 4 + s) → g i = wt i * 16 + 1) (h : ChO 8 4 g (fun p q => p ≠ q ∧ us p ∧ us q ∧ ov p q) us v f) : SeO us ov wt (v / 16) f := by
  have toS : ∀ e, AdF 8 4 (fun p q => p ≠ q ∧ us p ∧ us q ∧ ov p q) us 0 e → StF us ov e := by
    intro e he n hn
    refine ⟨(he n (Nat.zero_le n) hn).1, fun h4 => ?_⟩
    have z := (he n (Nat.zero_le n) hn).2 h4
    refine ⟨z.1, fun q hq hq4 ho => ?_⟩
    have zq := ((he q (Nat.zero_le q) (by omega)).2 hq4).1
    exact z.2 q (Nat.zero_le q) hq hq4 ⟨by omega, zq, z.1, hs _ _ ho⟩
  have toA : ∀ e, StF us ov e → AdF 8 4 (fun p q => p ≠ q ∧ us p ∧ us q ∧ ov p q) us 0 e := by
    intro e he n _ hn
    refine ⟨(he n hn).1, fun h4 => ⟨((he n hn).2 h4).1, fun q _ hq hq4 ho => ?_⟩⟩
    exact ((he n hn).2 h4).2 q hq hq4 (hs _ _ ho.2.2.2)
  have ev : ∀ e, StF us ov e → vF 4 g e 0 8 = vF 4 (fun i => wt i * 16 + 1) e 0 8 := fun e he => vF_gcg 8 0 (fun i _ hi h4 => hg i (e i) (by omega) h4 ((he i (by omega)).2 h4).1)
  have hf := toS f h.1
  refine ⟨hf, ?_, fun e he => ?_⟩
  · rw [h.2.1, ev f hf, vF_lin4]
    have := vF_one4 f
    omega
  · have := h.2.2 e (toA e he)
    rw [h.2.1, ev f hf, ev e he] at this
    exact this
def bX (x : Int) (N s : Nat) : Int := if s = 0 then x + 4 else if s = 1 then x - 4 - 6 * N else x - 3 * N
def bY (y : Int) (s : Nat) : Int := if s < 2 then y - 5 else if s = 2 then y + 4 else y - 14
def lX (σ : Mem) (q : Nat) : Int := (gI σ 41 0 q).toInt
def lY (σ : Mem) (q : Nat) : Int := (gI σ 42 0 q).toInt
def lW (σ : Mem) (q : Nat) : Int := (gI σ 43 0 q).toInt
def shC (σ : Mem) (q : Nat) : Prop := co (lX σ q) ∧ co (lY σ q) ∧ co (lX σ q + lW σ q) ∧ co (lY σ q + 10)
/-- a box put down -/
def PbW (σ τ : Mem) (q : Nat) (X Y W : Int32) : Prop := Eqs [33, 41, 42, 43] σ τ ∧ (∀ j, gI τ 41 0 j = if j = q then X else gI σ 41 0 j) ∧ (∀ j, gI τ 42 0 j = if j = q then Y else gI σ 42 0 j) ∧ (∀ j, gI τ 43 0 j = if j = q then W else gI σ 43 0 j) ∧ ∀ p, p < 32 → (bI (gI τ 33 0 6) p = true ↔ bI (gI σ 33 0 6) p = true ∨ (p = q ∧ co X.toInt ∧ co Y.toInt ∧ co (X.toInt + W.toInt) ∧ co (Y.toInt + 10)))
theorem c_putBox {d : Nat} {σ : Mem} {Post : Option AV → Mem → Prop} {q : Nat} {X Y W : Int32} (hq : q < 32) (bx : -1000 ≤ X.toInt ∧ X.toInt ≤ 1000) (by' : -1000 ≤ Y.toInt ∧ Y.toInt ≤ 1000) (bw : 0 ≤ W.toInt ∧ W.toInt ≤ 100) (h : ∀ τ : Mem, PbW σ τ q X Y W → Post none τ) : MM (d + 2) M_Setter_putBox [vR 33 0, vI (nI q), vI X, vI Y, vI W] σ Post := by
  refine MM.of ok_Setter_putBox rfl ?_
  have vq : vp_in (nI q) 32 := vp_n hq (by omega)
  have eq : (nI q).toNatClampNeg = q := cl_n (by omega)
  refine b_Setter_putBox_0 ⟨vq, fun σ1 e1 => ⟨vq, fun σ2 e2 => ⟨vq, fun σ3 e3 => ?_⟩⟩⟩
  rw [eq] at e1 e2 e3
  have kk : ∀ a i j, gI σ3 a i j = if a = 43 ∧ i = 0 ∧ j = q then W else if a = 42 ∧ i = 0 ∧ j = q then Y else if a = 41 ∧ i = 0 ∧ j = q then X else gI σ a i j := by
    intro a i j; rw [e3, gI_pI, e2, gI_pI, e1, gI_pI]
  have E3 : Eqs [33, 41, 42, 43] σ σ3 := by rw [e3, e2, e1]; exact ((Eqs.rf.pI (by decide)).pI (by decide)).pI (by decide)
  have fin : ∀ τ : Mem, Eqs [33] σ3 τ → (∀ p, p < 32 → (bI (gI τ 33 0 6) p = true ↔ bI (gI σ 33 0 6) p = true ∨ (p = q ∧ co X.toInt ∧ co Y.toInt ∧ co (X.toInt + W.toInt) ∧ co (Y.toInt + 10)))) → Post none τ := by
    intro τ hT hb
    refine h τ ⟨E3.tr (hT.mono (by decide)), fun j => ?_, fun j => ?_, fun j => ?_, hb⟩
    · rw [hT.1 41 0 j (by decide), kk, if_neg (by omega), if_neg (by omega)]
      by_cases p : j = q
      · rw [if_pos ⟨rfl, rfl, p⟩, if_pos p]
      · rw [if_neg (by omega), if_neg p]
    · rw [hT.1 42 0 j (by decide), kk, if_neg (by omega)]
      by_cases p : j = q
      · rw [if_pos ⟨rfl, rfl, p⟩, if_pos p]
      · rw [if_neg (by omega), if_neg p, if_neg (by omega)]
    · rw [hT.1 43 0 j (by decide), kk]
      by_cases p : j = q
      · rw [if_pos ⟨rfl, rfl, p⟩, if_pos p]
      · rw [if_neg (by omega), if_neg p, if_neg (by omega), if_neg (by omega)]
  have e6 : gI σ3 33 0 6 = gI σ 33 0 6 := by rw [kk, if_neg (by omega), if_neg (by omega), if_neg (by omega)]
  have s1 : (X + W).toInt = X.toInt + W.toInt := t_add (by omega) (by omega)
  have s2 : (Y + 10).toInt = Y.toInt + 10 := by rw [t_add, t_10] <;> rw [t_10] <;> omega
  refine c_isPlace (fun z1 z2 => ?_) (fun z => ?_)
  · refine b_Setter_putBox_27t ?_
    refine c_isPlace (fun z3 z4 => ?_) (fun z => ?_)
    · rw [s1] at z3
      rw [s2] at z4
      refine b_Setter_putBox_41t (fun σ4 e4 => fin σ4 (by rw [e4]; exact Eqs.rf.pI (by decide)) (fun p hp => ?_))
      rw [e4, gI_pI, if_pos ⟨rfl, rfl, rfl⟩, f_or _ _ _ (by omega) hp, e6]
      by_cases u : p = q
      · rw [if_pos u]; exact ⟨fun _ => Or.inr ⟨u, z1, z2, z3, z4⟩, fun _ => rfl⟩
      · rw [if_neg u]; exact ⟨fun y => Or.inl y, fun y => y.elim id (fun y => absurd y.1 u)⟩
    · rw [s1, s2] at z
      refine b_Setter_putBox_41f (fin σ3 Eqs.rf (fun p hp => ?_))
      rw [e6]
      exact ⟨fun y => Or.inl y, fun y => y.elim id (fun y => absurd ⟨y.2.2.2.1, y.2.2.2.2⟩ z)⟩
  · refine b_Setter_putBox_27f (fin σ3 Eqs.rf (fun p hp => ?_))
    rw [e6]
    exact ⟨fun y => Or.inl y, fun y => y.elim id (fun y => absurd ⟨y.2.1, y.2.2.1⟩ z)⟩
def lnN (σ : Mem) (n : Nat) : Nat := (gI σ 8 n 1).toNatClampNeg
def wtN (σ : Mem) (n : Nat) : Nat := (gI σ 7 n 3).toNatClampNeg
def nX (σ : Mem) (n : Nat) : Int := (gI σ 7 n 1).toInt
def nY (σ : Mem) (n : Nat) : Int := (gI σ 7 n 2).toInt
def thN (σ : Mem) (n : Nat) : Prop := gI σ 7 n 4 ≠ 0
def NmOK (σ : Mem) : Prop := ∀ n, n < 8 → thN σ n → WdC8 σ n (lnN σ n) ∧ 1 ≤ lnN σ n ∧ co (nX σ n) ∧ co (nY σ n) ∧ gI σ 7 n 3 = nI (wtN σ n) ∧ wtN σ n ≤ 1000
def SpN (σ : Mem) (n N : Nat) : Prop := ∃ cells, SpO (lnN σ n) (stC8 σ n (lnN σ n)) (lnP σ) (lcC8 σ n) (ckC σ) N cells
theorem SpO.pos {L : Nat} {st : Nat → Nat → Prop} {len : Nat → Nat} {lc ck : Nat → Int32} {N : Nat} {cells : Nat → Int32} (h : SpO L st len lc ck N cells) (hL : 0 < L) : 1 ≤ N := by
  obtain ⟨m, idx, h1, h2, h3, h4⟩ := h
  have a := (h1.2 0 hL).2.2
  rcases a with a | ⟨k, _, _, a⟩ <;> omega
/-- the boxes of a name -/
def NB (σ τ : Mem) (n N : Nat) : Prop := ∀ s, s < 4 → lX τ (n * 4 + s) = bX (nX σ n) N s ∧ lY τ (n * 4 + s) = bY (nY σ n) s ∧ lW τ (n * 4 + s) = 6 * N
theorem m4r (a : Nat) : nI a * (4 : Int32) = nI (a * 4) := pk_mul a 4
theorem m6 (a : Nat) : (6 : Int32) * nI a = nI (6 * a) := pk_mul 6 a
theorem m3 (a : Nat) : (3 : Int32) * nI a = nI (3 * a) := pk_mul 3 a
theorem t_5 : (5 : Int32).toInt = 5 := by decide
theorem t_14 : (14 : Int32).toInt = 14 := by decide
/-- what measuring gives -/
def MsW (σ τ : Mem) (NN : Nat → Nat) (n : Nat) : Prop := Eqs [27, 28, 29, 30, 33, 36, 41, 42, 43] σ τ ∧ (∀ m, m < n → thN σ m → SpN σ m (NN m) ∧ 1 ≤ NN m ∧ NN m ≤ 12 ∧ NB σ τ m (NN m) ∧ gI τ 36 0 m = nI (wtN σ m * 16 + 1)) ∧ (∀ m, ¬ (m < n ∧ thN σ m) → gI τ 36 0 m = gI σ 36 0 m) ∧ ∀ q, q < 32 → (bI (gI τ 33 0 6) q = true ↔ q / 4 < n ∧ thN σ (q / 4) ∧ shC τ q)
theorem c_smeasure {d : Nat} {σ : Mem} {Post : Option AV → Mem → Prop} (hN : NmOK σ) (hC : CtrOK σ) (h : ∀ (τ : Mem) (NN : Nat → Nat), MsW σ τ NN 8 → Post none τ) : MM (d + 3) M_Setter_measure [vR 33 0, vR 6 0, vR 24 0] σ Post := by
  refine MM.of ok_Setter_measure rfl ?_
  have key : ∀ n, n ≤ 8 → ∀ (τ : Mem) (NN : Nat → Nat) (v4 v5 v6 v7 : AV), MsW σ τ NN n → WS (d + 2 + 1) M_Setter_measure 7 [vR 33 0, vR 6 0, vR 24 0, vI (nI n), v4, v5, v6, v7] [] τ Post := by
    refine upto 8 ?_ ?_
    · intro τ NN v4 v5 v6 v7 hM
      exact b_Setter_measure_7 (pk_le 8 8 (fun _ => h τ NN hM) (fun q => by omega))
    · intro n hn ih τ NN v4 v5 v6 v7 hM
      have vn : vp_in (nI n) 8 := vp_n hn (by omega)
      have en : (nI n).toNatClampNeg = n := cl_n (by omega)
      refine b_Setter_measure_7 (pk_le 8 n (fun q => by omega) (fun _ => ⟨vn, ?_⟩))
      rw [en, hM.1.1 7 n 4 (by decide)]
      refine ⟨fun z => ?_, fun z => ⟨vn, ?_⟩⟩
      · refine b_Setter_measure_154 ?_
        rw [nI_1]
        refine ih τ NN v4 v5 v6 v7 ⟨hM.1, fun m hm ht => ?_, fun m hm => ?_, fun q hq => ?_⟩
        · rcases Nat.lt_or_ge m n with p | p
          · exact hM.2.1 m p ht
          · rw [show m = n by omega] at ht; exact absurd z ht
        · exact hM.2.2.1 m (fun y => hm ⟨by omega, y.2⟩)
        · rw [hM.2.2.2 q hq]
          constructor
          · rintro ⟨y1, y2, y3⟩; exact ⟨by omega, y2, y3⟩
          · rintro ⟨y1, y2, y3⟩
            refine ⟨?_, y2, y3⟩
            rcases Nat.lt_or_ge (q / 4) n with p | p
            · exact p
            · rw [show q / 4 = n by omega] at y2; exact absurd z y2
      · have ht : thN σ n := z
        obtain ⟨w1, w2, w3, w4, w5, w6⟩ := hN n hn ht
        -- the state in which the name is spelled
        have hE := hM.1
        have eln : lnP τ = lnP σ := by funext k; unfold lnP; rw [hE.1 31 k 1 (by decide)]
        have eck : ckC τ = ckC σ := by funext k; unfold ckC; rw [hE.1 26 0 k (by decide)]
        have elc : lcC8 τ n = lcC8 σ n := by funext k; unfold lcC8; rw [hE.1 85 _ _ (by decide), hE.1 9 _ _ (by decide)]
        have est : stC8 τ n (lnN σ n) = stC8 σ n (lnN σ n) := by
          funext k i
          unfold stC8
          rw [eln, hE.1 26 0 k (by decide)]
          have : (∀ j, j < lnP σ k → gI τ 9 n (i + j) = gI τ 32 k j) = (∀ j, j < lnP σ k → gI σ 9 n (i + j) = gI σ 32 k j) := by
            apply forall_congr; intro j
            rw [hE.1 9 _ _ (by decide), hE.1 32 _ _ (by decide)]
          rw [this]
        have eC : CtrOK τ := fun k hk => by
          have e31 := hE.1 31 k 1 (by decide)
          have e26 := hE.1 26 0 k (by decide)
          unfold lnP
          rw [e31, e26]
          exact hC k hk
        have eW : WdC8 τ n (lnN σ n) := ⟨(hE.1 8 n 1 (by decide)).trans w1.1, w1.2.1, fun j hj => by rw [hE.1 9 n j (by decide)]; exact w1.2.2 j hj⟩
        refine c_spell8 trivial eW eC (fun υ N cells hU hNl hS hcl => ?_)
        rw [eln, eck, elc, est] at hS
        have N12 : N ≤ 12 := by have := w1.2.1; omega
        have N1 : 1 ≤ N := hS.pos (by omega)
        have E1 : Eqs [27, 28, 29, 30, 33, 36, 41, 42, 43] σ υ := hE.tr (hU.mono (by decide))
        have x1 : gI υ 7 n 1 = gI σ 7 n 1 := E1.1 7 n 1 (by decide)
        have x2 : gI υ 7 n 2 = gI σ 7 n 2 := E1.1 7 n 2 (by decide)
        unfold nX co at w3
        unfold nY co at w4
        have eW6 : (nI (6 * N)).toInt = 6 * (N : Int) := by rw [nI_t (by omega)]; omega
        refine b_Setter_measure_34 ⟨vn, vn, ?_⟩
        rw [en, x1, x2, m6, m4r]
        have a0 : (gI σ 7 n 1 + 4).toInt = nX σ n + 4 := by unfold nX; rw [t_add, t_4] <;> rw [t_4] <;> omega
        have b0 : (gI σ 7 n 2 - 5).toInt = nY σ n - 5 := by unfold nY; rw [t_sub, t_5] <;> rw [t_5] <;> omega
        have a1 : (gI σ 7 n 1 - 4).toInt = nX σ n - 4 := by unfold nX; rw [t_sub, t_4] <;> rw [t_4] <;> omega
        have a1' : (gI σ 7 n 1 - 4 - nI (6 * N)).toInt = nX σ n - 4 - 6 * N := by rw [t_sub, a1, eW6] <;> rw [a1, eW6] <;> unfold nX <;> omega
        have ed : nI (6 * N) / 2 = nI (3 * N) := by rw [show (2 : Int32) = nI 2 from rfl, pk_div (by omega) (by omega) (by omega)]; congr 1; omega
        have e3N : (nI (3 * N)).toInt = 3 * (N : Int) := by rw [nI_t (by omega)]; omega
        have a2 : (gI σ 7 n 1 - nI (3 * N)).toInt = nX σ n - 3 * N := by unfold nX; rw [t_sub (by rw [e3N]; omega) (by rw [e3N]; omega), e3N]
        have b2 : (gI σ 7 n 2 + 4).toInt = nY σ n + 4 := by unfold nY; rw [t_add, t_4] <;> rw [t_4] <;> omega
        have b3a : (gI σ 7 n 2 - 4).toInt = nY σ n - 4 := by unfold nY; rw [t_sub, t_4] <;> rw [t_4] <;> omega
        have b3 : (gI σ 7 n 2 - 4 - 10).toInt = nY σ n - 14 := by rw [t_sub (by rw [b3a, t_10]; unfold nY; omega) (by rw [b3a, t_10]; unfold nY; omega), b3a, t_10]; omega
        refine c_putBox (by omega) (by rw [a0]; unfold nX; omega) (by rw [b0]; unfold nY; omega) (by rw [eW6]; omega) (fun τ0 P0 => ?_)
        refine b_Setter_measure_74 ?_
        rw [nI_1]
        refine c_putBox (by omega) (by rw [a1']; unfold nX; omega) (by rw [b0]; unfold nY; omega) (by rw [eW6]; omega) (fun τ1 P1 => ?_)
        refine b_Setter_measure_95 ⟨by decide, ?_⟩
        rw [ed, show nI (n * 4) + 2 = nI (n * 4 + 2) from nI_add (n * 4) 2]
        refine c_putBox (by omega) (by rw [a2]; unfold nX; omega) (by rw [b2]; unfold nY; omega) (by rw [eW6]; omega) (fun τ2 P2 => ?_)
        refine b_Setter_measure_116 ⟨by decide, ?_⟩
        rw [ed, show nI (n * 4) + 3 = nI (n * 4 + 3) from nI_add (n * 4) 3]
        refine c_putBox (by omega) (by rw [a2]; unfold nX; omega) (by rw [b3]; unfold nY; omega) (by rw [eW6]; omega) (fun τ3 P3 => ?_)
        refine b_Setter_measure_140 ⟨vn, ?_⟩
        have E3 : Eqs [33, 41, 42, 43] υ τ3 := ((P0.1.tr P1.1).tr P2.1).tr P3.1
        rw [en, E3.1 7 n 3 (by decide), E1.1 7 n 3 (by decide), w5]
        refine c_price34 hn ?_
        refine b_Setter_measure_154 ?_
        rw [nI_1]
        have F : ∀ j, gI τ3 41 0 j = if j = n * 4 + 3 then gI σ 7 n 1 - nI (3 * N) else if j = n * 4 + 2 then gI σ 7 n 1 - nI (3 * N) else if j = n * 4 + 1 then gI σ 7 n 1 - 4 - nI (6 * N) else if j = n * 4 then gI σ 7 n 1 + 4 else gI υ 41 0 j := fun j => by rw [P3.2.1, P2.2.1, P1.2.1, P0.2.1]
        have F2 : ∀ j, gI τ3 42 0 j = if j = n * 4 + 3 then gI σ 7 n 2 - 4 - 10 else if j = n * 4 + 2 then gI σ 7 n 2 + 4 else if j = n * 4 + 1 then gI σ 7 n 2 - 5 else if j = n * 4 then gI σ 7 n 2 - 5 else gI υ 42 0 j := fun j => by rw [P3.2.2.1, P2.2.2.1, P1.2.2.1, P0.2.2.1]
        have F3 : ∀ j, gI τ3 43 0 j = if j = n * 4 + 3 then nI (6 * N) else if j = n * 4 + 2 then nI (6 * N) else if j = n * 4 + 1 then nI (6 * N) else if j = n * 4 then nI (6 * N) else gI υ 43 0 j := fun j => by rw [P3.2.2.2.1, P2.2.2.2.1, P1.2.2.2.1, P0.2.2.2.1]
        have nb : NB σ τ3 n N := by
          intro s hs
          unfold lX lY lW bX bY
          rw [F, F2, F3]
          match s, hs with
          | 0, _ => simp [a0, b0, eW6]
          | 1, _ => simp [a1', b0, eW6]
          | 2, _ => simp [a2, b2, eW6]
          | 3, _ => simp [a2, b3, eW6]
        have oth : ∀ j, ¬ (j / 4 = n) → lX τ3 j = lX τ j ∧ lY τ3 j = lY τ j ∧ lW τ3 j = lW τ j := fun j hj => by
          unfold lX lY lW
          rw [F, F2, F3, if_neg (by omega), if_neg (by omega), if_neg (by omega), if_neg (by omega), if_neg (by omega), if_neg (by omega), if_neg (by omega), if_neg (by omega), if_neg (by omega), if_neg (by omega), if_neg (by omega), if_neg (by omega), hU.1 41 0 j (by decide), hU.1 42 0 j (by decide), hU.1 43 0 j (by decide)]
          exact ⟨rfl, rfl, rfl⟩
        obtain ⟨τ4, e4⟩ : ∃ z, z = pI τ3 36 0 n (nI (wtN σ n * 16 + 1)) := ⟨_, rfl⟩
        rw [← e4]
        have l4 : ∀ j, lX τ4 j = lX τ3 j ∧ lY τ4 j = lY τ3 j ∧ lW τ4 j = lW τ3 j := fun j => by
          unfold lX lY lW; rw [e4, gI_pI, if_neg (by omega), gI_pI, if_neg (by omega), gI_pI, if_neg (by omega)]; exact ⟨rfl, rfl, rfl⟩
        have g4 : ∀ m, gI τ4 36 0 m = if m = n then nI (wtN σ n * 16 + 1) else gI τ 36 0 m := fun m => by
          rw [e4, gI_pI]
          by_cases p : m = n
          · rw [if_pos ⟨rfl, rfl, p⟩, if_pos p]
          · rw [if_neg (by omega), if_neg p, E3.1 36 0 m (by decide), hU.1 36 0 m (by decide)]
        refine ih τ4 (setF NN n N) _ _ _ _ ⟨?_, fun m hm ht2 => ?_, fun m hm => ?_, fun q hq => ?_⟩
        · rw [e4]; exact (E1.tr (E3.mono (by decide))).pI (by decide)
        · by_cases p : m = n
          · subst p
            rw [setF_s, g4, if_pos rfl]
            exact ⟨⟨cells, hS⟩, N1, N12, fun s hs => by rw [(l4 _).1, (l4 _).2.1, (l4 _).2.2]; exact nb s hs, rfl⟩
          · rw [setF_n NN p, g4, if_neg p]
            obtain ⟨m1, m2, m3, m4, m5⟩ := hM.2.1 m (by omega) ht2
            refine ⟨m1, m2, m3, fun s hs => ?_, m5⟩
            have o := oth (m * 4 + s) (by omega)
            rw [(l4 _).1, (l4 _).2.1, (l4 _).2.2, o.1, o.2.1, o.2.2]
            exact m4 s hs
        · rw [g4]
          by_cases p : m = n
          · subst p; exact absurd ⟨by omega, ht⟩ hm
          · rw [if_neg p]; exact hM.2.2.1 m (fun y => hm ⟨by omega, y.2⟩)
        · have e6 : gI τ4 33 0 6 = gI τ3 33 0 6 := by rw [e4, gI_pI, if_neg (by omega)]
          have s4 : shC τ4 q ↔ shC τ3 q := by unfold shC; rw [(l4 q).1, (l4 q).2.1, (l4 q).2.2]
          rw [e6, s4, P3.2.2.2.2 q hq, P2.2.2.2.2 q hq, P1.2.2.2.2 q hq, P0.2.2.2.2 q hq, hU.1 33 0 6 (by decide), hM.2.2.2 q hq, a0, b0, a1', a2, b2, b3, eW6]
          by_cases p : q / 4 = n
          · obtain ⟨s, hs, rfl⟩ : ∃ s, s < 4 ∧ q = n * 4 + s := ⟨q % 4, by omega, by omega⟩
            have nbs := nb s hs
            have hsh : shC τ3 (n * 4 + s) ↔ (co (bX (nX σ n) N s) ∧ co (bY (nY σ n) s) ∧ co (bX (nX σ n) N s + 6 * N) ∧ co (bY (nY σ n) s + 10)) := by unfold shC; rw [nbs.1, nbs.2.1, nbs.2.2]
            rw [hsh, p]
            have nolt : ¬ n < n := Nat.lt_irrefl n
            match s, hs with
            | 0, _ => simp [bX, bY, nolt, ht]
            | 1, _ => simp [bX, bY, nolt, ht]
            | 2, _ => simp [bX, bY, nolt, ht]
            | 3, _ => simp [bX, bY, nolt, ht]
          · have o := oth q p
            have s3 : shC τ3 q ↔ shC τ q := by unfold shC; rw [o.1, o.2.1, o.2.2]
            rw [s3]
            constructor
            · rintro ((((y | y) | y) | y) | y)
              · exact ⟨by omega, y.2.1, y.2.2⟩
              · omega
              · omega
              · omega
              · omega
            · rintro ⟨y1, y2, y3⟩
              exact Or.inl (Or.inl (Or.inl (Or.inl ⟨by omega, y2, y3⟩)))
  refine b_Setter_measure_0 (fun σ1 e1 => ?_)
  refine key 0 (by omega) σ1 (fun _ => 0) vU vU vU vU ⟨by rw [e1]; exact Eqs.rf.pI (by decide), fun m hm => by omega, fun m _ => by rw [e1, gI_pI, if_neg (by omega)], fun q hq => ?_⟩
  rw [e1, gI_pI, if_pos ⟨rfl, rfl, rfl⟩, bI_0]
  constructor
  · intro z; exact absurd z (by decide)
  · intro z; omega
