/-! contracts: boxes of the model -/
def hdM (σ : Mem) (w : Nat) : Prop := gI σ 52 0 w ≠ 0 ∧ bI (gI σ 51 0 10) w = true
def hitM (σ : Mem) (X Y W : Int) : Prop := ∃ w, w < 12 ∧ hdM σ w ∧ ∃ i, i + 1 < shM σ w ∧ entZ (lnMW σ w i) X Y (X + W) (Y + 10)
theorem c_MisFree {d : Nat} {σ : Mem} {Post : Option AV → Mem → Prop} {q : Nat} (hq : q < 32) (hv : AllM σ) (k1 : -1000 ≤ mBx σ q ∧ mBx σ q ≤ 1000) (k2 : -1000 ≤ mBy σ q ∧ mBy σ q ≤ 1000) (k3 : 0 < mBw σ q ∧ mBw σ q ≤ 72) (h1 : shZ (mBx σ q) (mBy σ q) (mBw σ q) ∧ ¬ hitM σ (mBx σ q) (mBy σ q) (mBw σ q) → Post (some (vI 1)) σ) (h0 : ¬ (shZ (mBx σ q) (mBy σ q) (mBw σ q) ∧ ¬ hitM σ (mBx σ q) (mBy σ q) (mBw σ q)) → Post (some (vI 0)) σ) : MM (d + 2) M_MD_isFree [vR 51 0, vI (nI q)] σ Post := by
  refine MM.of ok_MD_isFree rfl ?_
  have vq : vp_in (nI q) 32 := vp_n hq (by omega)
  have eq : (nI q).toNatClampNeg = q := cl_n (by omega)
  have e1 : (gI σ 74 0 q + gI σ 76 0 q).toInt = mBx σ q + mBw σ q := by unfold mBx mBw at *; exact t_add (by omega) (by omega)
  have e2 : (gI σ 75 0 q + 10).toInt = mBy σ q + 10 := by unfold mBy at *; rw [t_add, t_10] <;> rw [t_10] <;> omega
  have e3 : (gI σ 74 0 q).toInt = mBx σ q := rfl
  have e4 : (gI σ 75 0 q).toInt = mBy σ q := rfl
  refine b_MD_isFree_0 ⟨vq, ?_⟩
  rw [eq, t_lt, t_lt, t_lt, t_le, e1, e2, e3, e4, t_0, t_400']
  refine ⟨fun z => h0 (fun y => ?_), fun z1 => ⟨vq, fun z => h0 (fun y => ?_), fun z2 => ⟨vq, vq, fun z => h0 (fun y => ?_), fun z3 => ⟨vq, fun z4 => ?_, fun z => h0 (fun y => ?_)⟩⟩⟩⟩
  · have := y.1.1; unfold co at this; omega
  · have := y.1.2.1; unfold co at this; omega
  · have := y.1.2.2.1; unfold co at this; omega
  · have hsh : shZ (mBx σ q) (mBy σ q) (mBw σ q) := by unfold shZ co; omega
    have key : ∀ w, w ≤ 12 → ∀ v3 : AV, (∀ w', w' < w → hdM σ w' → ∀ i, i + 1 < shM σ w' → ¬ entZ (lnMW σ w' i) (mBx σ q) (mBy σ q) (mBx σ q + mBw σ q) (mBy σ q + 10)) → WS (d + 1 + 1) M_MD_isFree 56 [vR 51 0, vI (nI q), vI (nI w), v3] [] σ Post := by
      refine upto 12 ?_ ?_
      · intro v3 hh
        refine b_MD_isFree_56 (pk_le 12 12 (fun _ => h1 ⟨hsh, ?_⟩) (fun z => by omega))
        rintro ⟨w, hw, hd, i, hi, he⟩
        exact hh w hw hd i hi he
      · intro w hw ih v3 hh
        refine b_MD_isFree_56 (pk_le 12 w (fun z => by omega) (fun _ => ?_))
        have skip : ∀ v3 : AV, ¬ hdM σ w → WS (d + 1 + 1) M_MD_isFree 56 [vR 51 0, vI (nI q), vI (nI (w + 1)), v3] [] σ Post := fun v3 hno => ih v3 (fun w' hw' hd i hi => by
          rcases Nat.lt_or_ge w' w with u | u
          · exact hh w' u hd i hi
          · rw [show w' = w by omega] at hd; exact absurd hd hno)
        refine c_MisWay (fun j hj ej qj => ?_) (fun qn => ?_)
        · obtain rfl : w = j := (nI_eq (by omega) (by omega)).mp ej
          refine b_MD_isFree_67t ?_
          rw [shr1 _ (by omega), bit_zero, nI_1]
          refine ⟨fun z => skip _ (fun y => z y.2), fun z => ?_⟩
          have hd : hdM σ w := ⟨qj, Classical.not_not.mp z⟩
          have vv := hv w hw
          have s20 : shM σ w ≤ 20 := by have := vv.2.2.1; have := vv.2.2.2.1; omega
          have inn : ∀ i, i ≤ shM σ w - 1 → (∀ i', i' < i → i' + 1 < shM σ w → ¬ entZ (lnMW σ w i') (mBx σ q) (mBy σ q) (mBx σ q + mBw σ q) (mBy σ q + 10)) → WS (d + 1 + 1) M_MD_isFree 86 [vR 51 0, vI (nI q), vI (nI w), vI (nI i)] [] σ Post := by
            refine upto (shM σ w - 1) ?_ ?_
            · intro hi
              refine b_MD_isFree_86 ⟨vp_n hw (by omega), ?_⟩
              rw [cl_n (by omega), vv.2.1, nI_1, nI_1]
              refine pk_le (shM σ w) (shM σ w - 1 + 1) (fun _ => ih _ (fun w' hw' hd' i' hi' => ?_)) (fun z => by omega)
              rcases Nat.lt_or_ge w' w with u | u
              · exact hh w' u hd' i' hi'
              · have e : w' = w := by omega
                subst e
                exact hi i' (by omega) hi'
            · intro i hi ihi hh2
              refine b_MD_isFree_86 ⟨vp_n hw (by omega), ?_⟩
              rw [cl_n (by omega), vv.2.1, nI_1]
              refine pk_le (shM σ w) (i + 1) (fun z => by omega) (fun _ => ?_)
              refine c_Mat hw vv (by omega) ?_
              refine b_MD_isFree_105 ?_
              rw [nI_1]
              refine c_Mat hw vv (by omega) ?_
              refine b_MD_isFree_113 ?_
              refine c_MisThrough (mP_at vv (by omega)) (mP_at vv (by omega)) hq hsh.1 hsh.2.1 k3.1 k3.2 (fun y => b_MD_isFree_117t (h0 (fun u => u.2 ⟨w, hw, hd, i, by omega, y⟩))) (fun y => ?_)
              refine b_MD_isFree_117f ?_
              rw [nI_1]
              refine ihi (fun i' hi' hi2 => ?_)
              rcases Nat.lt_or_ge i' i with u | u
              · exact hh2 i' u hi2
              · rw [show i' = i by omega]; exact y
          exact inn 0 (by omega) (fun i' hi' => by omega)
        · refine b_MD_isFree_67f ?_
          rw [nI_1]
          exact skip _ (fun y => y.1 (qn w (by omega) rfl))
    exact key 0 (by omega) vU (fun w' hw' => by omega)
  · have := y.1.2.2.2; unfold co at this; omega
def thNM (σ : Mem) (n : Nat) : Prop := 0 < (gI σ 67 0 n).toInt
def lnNM (σ : Mem) (n : Nat) : Nat := (gI σ 67 0 n).toNatClampNeg
def nXM (σ : Mem) (n : Nat) : Int := (gI σ 69 0 n).toInt
def nYM (σ : Mem) (n : Nat) : Int := (gI σ 70 0 n).toInt
def wtNM (σ : Mem) (n : Nat) : Nat := (gI σ 71 0 n).toNatClampNeg
def NmOM (σ : Mem) : Prop := ∀ n, n < 8 → thNM σ n → WdM σ n (lnNM σ n) ∧ 1 ≤ lnNM σ n ∧ co (nXM σ n) ∧ co (nYM σ n) ∧ gI σ 71 0 n = nI (wtNM σ n) ∧ wtNM σ n ≤ 1000
def SpNM (σ : Mem) (n N : Nat) : Prop := ∃ cells, SpO (lnNM σ n) (stM σ n (lnNM σ n)) (lnS σ) (lcM σ n) (ckM σ) N cells
def BoxM (σ τ : Mem) (NN : Nat → Nat) (q : Nat) : Prop := (thNM σ (q / 4) → SpNM σ (q / 4) (NN (q / 4)) ∧ 1 ≤ NN (q / 4) ∧ NN (q / 4) ≤ 12 ∧ mBx τ q = BXf (nXM σ) NN q ∧ mBy τ q = BYf (nYM σ) q ∧ mBw τ q = BWf NN q ∧ (gI τ 77 0 q ≠ 0 ↔ shZ (BXf (nXM σ) NN q) (BYf (nYM σ) q) (BWf NN q) ∧ ¬ hitM σ (BXf (nXM σ) NN q) (BYf (nYM σ) q) (BWf NN q))) ∧ (¬ thNM σ (q / 4) → gI τ 77 0 q = 0)
theorem hitM_eq {ks : List Nat} {σ τ : Mem} (h : Eqs ks σ τ) (h0 : 51 ∉ ks) (h1 : 52 ∉ ks) (h3 : 56 ∉ ks) (h4 : 57 ∉ ks) (h5 : 58 ∉ ks) (h6 : 59 ∉ ks) (X Y W : Int) : hitM τ X Y W ↔ hitM σ X Y W := by
  have e : ∀ w, hdM τ w ↔ hdM σ w := fun w => by unfold hdM; rw [h.1 52 0 w h1, h.1 51 0 10 h0]
  have e2 : ∀ w, shM τ w = shM σ w := fun w => by unfold shM; rw [h.1 58 0 w h5]
  unfold hitM
  constructor
  · rintro ⟨w, a, b, i, c, z⟩; rw [lnMW_eq h h3 h4 h6] at z; exact ⟨w, a, (e w).mp b, i, by rw [← e2]; exact c, z⟩
  · rintro ⟨w, a, b, i, c, z⟩; exact ⟨w, a, (e w).mpr b, i, by rw [e2]; exact c, by rw [lnMW_eq h h3 h4 h6]; exact z⟩
theorem AllM.eq {ks : List Nat} {σ τ : Mem} (hv : AllM σ) (h : Eqs ks σ τ) (h5 : 55 ∉ ks) (h6 : 56 ∉ ks) (h7 : 57 ∉ ks) (h8 : 58 ∉ ks) (h9 : 59 ∉ ks) : AllM τ := fun w hw => by
  have e1 : ctM τ w = ctM σ w := by unfold ctM; rw [h.1 55 0 w h5]
  have e2 : shM τ w = shM σ w := by unfold shM; rw [h.1 58 0 w h8]
  rw [e1, e2]
  exact (hv w hw).eq h h5 h6 h7 h8 h9
theorem m32 (a : Nat) : (32 : Int32) * nI a = nI (32 * a) := pk_mul 32 a
theorem spm_eq {σ τ : Mem} {n : Nat} (hE : Eqs [72, 73, 74, 75, 76, 77] σ τ) (L : Nat) : stM τ n L = stM σ n L ∧ lnS τ = lnS σ ∧ lcM τ n = lcM σ n ∧ ckM τ = ckM σ := by
  have eln : lnS τ = lnS σ := by funext k; unfold lnS; rw [hE.1 64 0 k (by decide)]
  refine ⟨?_, eln, ?_, ?_⟩
  · funext k i
    unfold stM
    rw [eln]
    have : (∀ j, j < lnS σ k → gI τ 68 0 (12 * n + i + j) = gI τ 65 0 (4 * k + j)) = (∀ j, j < lnS σ k → gI σ 68 0 (12 * n + i + j) = gI σ 65 0 (4 * k + j)) := by
      apply forall_congr; intro j
      rw [hE.1 68 _ _ (by decide), hE.1 65 _ _ (by decide)]
    rw [this]
  · funext i; unfold lcM; rw [hE.1 62 _ _ (by decide), hE.1 68 _ _ (by decide)]
  · funext k; unfold ckM; rw [hE.1 66 _ _ (by decide)]
set_option maxHeartbeats 1000000 in
theorem c_Mboxes {d : Nat} {σ : Mem} {Post : Option AV → Mem → Prop} (hv : AllM σ) (hN : NmOM σ) (hC : CtrM σ) (h : ∀ (τ : Mem) (NN : Nat → Nat), Eqs [72, 73, 74, 75, 76, 77, 78] σ τ → (∀ q, q < 32 → BoxM σ τ NN q) → (∀ p q, p < 32 → q < 32 → thNM σ (p / 4) → thNM σ (q / 4) → (gI τ 78 0 (32 * p + q) ≠ 0 ↔ ovZ (nXM σ) (nYM σ) NN p q)) → Post none τ) : MM (d + 3) M_MD_boxes [vR 51 0] σ Post := by
  refine MM.of ok_MD_boxes rfl ?_
  have nn : 51 ∉ [72, 73, 74, 75, 76, 77] ∧ 52 ∉ [72, 73, 74, 75, 76, 77] ∧ 55 ∉ [72, 73, 74, 75, 76, 77] ∧ 56 ∉ [72, 73, 74, 75, 76, 77] ∧ 57 ∉ [72, 73, 74, 75, 76, 77] ∧ 58 ∉ [72, 73, 74, 75, 76, 77] ∧ 59 ∉ [72, 73, 74, 75, 76, 77] := by decide
  obtain ⟨n51, n52, n55, n56, n57, n58, n59⟩ := nn
  -- the laps
  have laps : ∀ (τ0 : Mem) (NN : Nat → Nat), Eqs [72, 73, 74, 75, 76, 77] σ τ0 → (∀ q, q < 32 → BoxM σ τ0 NN q) → ∀ v2 v3 v4 : AV, WS (d + 2 + 1) M_MD_boxes 183 [vR 51 0, vI (0 : Int32), v2, v3, v4] [] τ0 Post := by
    intro τ0 NN hE0 hB v2 v3 v4
    have bnd : ∀ q, q < 32 → thNM σ (q / 4) → (-1000 ≤ mBx τ0 q ∧ mBx τ0 q ≤ 1000) ∧ (-1000 ≤ mBy τ0 q ∧ mBy τ0 q ≤ 1000) ∧ 0 < mBw τ0 q ∧ mBw τ0 q ≤ 72 := fun q hq ht => by
      obtain ⟨b1, b2, b3, b4, b5, b6, b7⟩ := (hB q hq).1 ht
      have c := hN (q / 4) (by omega) ht
      have c1 := c.2.2.1
      have c2 := c.2.2.2.1
      unfold co at c1 c2
      rw [b4, b5, b6]
      unfold BXf BYf BWf bX bY
      refine ⟨?_, ?_, by omega, by omega⟩
      · split
        · omega
        · split <;> omega
      · split
        · omega
        · split <;> omega
    have key : ∀ a, a ≤ 32 → ∀ (τ : Mem) (v2 v3 v4 : AV), Eqs [78] τ0 τ → (∀ p q, p < a → q < 32 → thNM σ (p / 4) → thNM σ (q / 4) → (gI τ 78 0 (32 * p + q) ≠ 0 ↔ ovZ (nXM σ) (nYM σ) NN p q)) → WS (d + 2 + 1) M_MD_boxes 183 [vR 51 0, vI (nI a), v2, v3, v4] [] τ Post := by
      refine upto 32 ?_ ?_
      · intro τ v2 v3 v4 hE hl
        refine b_MD_boxes_183 (pk_le 32 32 (fun _ => h τ NN ((hE0.mono (by decide)).tr (hE.mono (by decide))) (fun q hq => ?_) hl) (fun z => by omega))
        have := hB q hq
        unfold BoxM mBx mBy mBw at this ⊢
        rw [hE.1 74 0 q (by decide), hE.1 75 0 q (by decide), hE.1 76 0 q (by decide), hE.1 77 0 q (by decide)]
        exact this
      · intro a ha ih τ v2 v3 v4 hE hl
        refine b_MD_boxes_183 (pk_le 32 a (fun z => by omega) (fun _ => ?_))
        have inn : ∀ b, b ≤ 32 → ∀ υ : Mem, Eqs [78] τ0 υ → (∀ p q, (p < a ∨ (p = a ∧ q < b)) → q < 32 → thNM σ (p / 4) → thNM σ (q / 4) → (gI υ 78 0 (32 * p + q) ≠ 0 ↔ ovZ (nXM σ) (nYM σ) NN p q)) → WS (d + 2 + 1) M_MD_boxes 191 [vR 51 0, vI (nI a), vI (nI b), v3, v4] [] υ Post := by
          refine upto 32 ?_ ?_
          · intro υ hU hlu
            refine b_MD_boxes_191 (pk_le 32 32 (fun _ => ?_) (fun z => by omega))
            rw [nI_1]
            exact ih υ _ _ _ hU (fun p q hp hq => hlu p q (by omega) hq)
          · intro b hb ihb υ hU hlu
            have va : vp_in (nI a) 32 := vp_n ha (by omega)
            have vb : vp_in (nI b) 32 := vp_n hb (by omega)
            have fin : ∀ (x : Int32) (σ1 : Mem), σ1 = pI υ 78 0 (32 * a + b) x → (thNM σ (a / 4) → thNM σ (b / 4) → (x ≠ 0 ↔ ovZ (nXM σ) (nYM σ) NN a b)) → WS (d + 2 + 1) M_MD_boxes 191 [vR 51 0, vI (nI a), vI (nI (b + 1)), v3, v4] [] σ1 Post := by
              intro x σ1 e1 hx
              refine ihb σ1 (by rw [e1]; exact hU.pI (by decide)) (fun p q hp hq t1 t2 => ?_)
              rw [e1, gI_pI]
              by_cases u : p = a ∧ q = b
              · obtain ⟨rfl, rfl⟩ := u
                rw [if_pos ⟨rfl, rfl, rfl⟩]
                exact hx t1 t2
              · rw [if_neg (by omega)]
                exact hlu p q (by omega) hq t1 t2
            have eX : ∀ q, gI υ 74 0 q = gI τ0 74 0 q := fun q => hU.1 74 0 q (by decide)
            have eY : ∀ q, gI υ 75 0 q = gI τ0 75 0 q := fun q => hU.1 75 0 q (by decide)
            have eW : ∀ q, gI υ 76 0 q = gI τ0 76 0 q := fun q => hU.1 76 0 q (by decide)
            have hov : thNM σ (a / 4) → thNM σ (b / 4) → (ovZ (nXM σ) (nYM σ) NN a b ↔ mBx τ0 a < mBx τ0 b + mBw τ0 b ∧ mBx τ0 b < mBx τ0 a + mBw τ0 a ∧ mBy τ0 a < mBy τ0 b + 10 ∧ mBy τ0 b < mBy τ0 a + 10) := fun t1 t2 => by
              obtain ⟨_, _, _, a4, a5, a6, _⟩ := (hB a ha).1 t1
              obtain ⟨_, _, _, b4, b5, b6, _⟩ := (hB b hb).1 t2
              unfold ovZ
              rw [a4, a5, a6, b4, b5, b6]
            have sums : thNM σ (a / 4) → thNM σ (b / 4) → (gI τ0 74 0 b + gI τ0 76 0 b).toInt = mBx τ0 b + mBw τ0 b ∧ (gI τ0 74 0 a + gI τ0 76 0 a).toInt = mBx τ0 a + mBw τ0 a ∧ (gI τ0 75 0 b + 10).toInt = mBy τ0 b + 10 ∧ (gI τ0 75 0 a + 10).toInt = mBy τ0 a + 10 := fun t1 t2 => by
              have ba := bnd a ha t1
              have bb := bnd b hb t2
              unfold mBx mBy mBw at *
              have h10 := t_10
              exact ⟨t_add (by omega) (by omega), t_add (by omega) (by omega), by rw [t_add, t_10] <;> rw [t_10] <;> omega, by rw [t_add, t_10] <;> rw [t_10] <;> omega⟩
            refine b_MD_boxes_191 (pk_le 32 b (fun z => by omega) (fun _ => ⟨va, vb, vb, ?_⟩))
            rw [cl_n (i := a) (by omega), cl_n (i := b) (by omega), m32, nI_add, cl_n (i := 32 * a + b) (by omega), eX, eX, eY, eY, eW, eW, nI_1]
            have v10 : vp_in (nI (32 * a + b)) 1024 := vp_n (by omega) (by omega)
            have no : ∀ σ1 : Mem, σ1 = pI υ 78 0 (32 * a + b) 0 → (thNM σ (a / 4) → thNM σ (b / 4) → ¬ (mBx τ0 a < mBx τ0 b + mBw τ0 b ∧ mBx τ0 b < mBx τ0 a + mBw τ0 a ∧ mBy τ0 a < mBy τ0 b + 10 ∧ mBy τ0 b < mBy τ0 a + 10)) → WS (d + 2 + 1) M_MD_boxes 191 [vR 51 0, vI (nI a), vI (nI (b + 1)), v3, v4] [] σ1 Post := fun σ1 e1 hno => fin 0 σ1 e1 (fun t1 t2 => by rw [hov t1 t2]; exact ⟨fun y => absurd rfl y, fun y => absurd y (hno t1 t2)⟩)
            refine ⟨fun z => ⟨v10, fun σ1 e1 => no σ1 e1 (fun t1 t2 => ?_)⟩, fun z1 => ⟨vb, va, va, fun z => ⟨v10, fun σ1 e1 => no σ1 e1 (fun t1 t2 => ?_)⟩, fun z2 => ⟨va, vb, fun z => ⟨v10, fun σ1 e1 => no σ1 e1 (fun t1 t2 => ?_)⟩, fun z3 => ⟨vb, va, fun z => ⟨v10, fun σ1 e1 => no σ1 e1 (fun t1 t2 => ?_)⟩, fun z4 => ⟨v10, fun σ1 e1 => fin 1 σ1 e1 (fun t1 t2 => ?_)⟩⟩⟩⟩⟩
            · rw [t_le, (sums t1 t2).1] at z; unfold mBx mBy mBw at *; omega
            · rw [t_le, (sums t1 t2).2.1] at z; unfold mBx mBy mBw at *; omega
            · rw [t_le, (sums t1 t2).2.2.1] at z; unfold mBx mBy mBw at *; omega
            · rw [t_le, (sums t1 t2).2.2.2] at z; unfold mBx mBy mBw at *; omega
            · rw [t_le, (sums t1 t2).1] at z1
              rw [t_le, (sums t1 t2).2.1] at z2
              rw [t_le, (sums t1 t2).2.2.1] at z3
              rw [t_le, (sums t1 t2).2.2.2] at z4
              rw [hov t1 t2]
              refine ⟨fun _ => ?_, fun _ => by decide⟩
              unfold mBx mBy mBw at *
              omega
        exact inn 0 (by omega) τ hE (fun p q hp hq => hl p q (by omega) hq)
    exact key 0 (by omega) τ0 v2 v3 v4 Eqs.rf (fun p q hp => by omega)
  have key : ∀ n, n ≤ 8 → ∀ (τ : Mem) (NN : Nat → Nat) (v2 v3 v4 : AV), Eqs [72, 73, 74, 75, 76, 77] σ τ → (∀ q, q < 32 → q / 4 < n → BoxM σ τ NN q) → WS (d + 2 + 1) M_MD_boxes 2 [vR 51 0, vI (nI n), v2, v3, v4] [] τ Post := by
    refine upto 8 ?_ ?_
    · intro τ NN v2 v3 v4 hE hB
      exact b_MD_boxes_2 (pk_le 8 8 (fun _ => laps τ NN hE (fun q hq => hB q hq (by omega)) _ _ _) (fun z => by omega))
    · intro n hn ih τ NN v2 v3 v4 hE hB
      refine b_MD_boxes_2 (pk_le 8 n (fun z => by omega) (fun _ => ?_))
      have inn : ∀ s, s ≤ 4 → ∀ (υ : Mem) (NU : Nat → Nat) (v3 v4 : AV), Eqs [72, 73, 74, 75, 76, 77] σ υ → (∀ q, q < 32 → (q / 4 < n ∨ (q / 4 = n ∧ q % 4 < s)) → BoxM σ υ NU q) → WS (d + 2 + 1) M_MD_boxes 10 [vR 51 0, vI (nI n), vI (nI s), v3, v4] [] υ Post := by
        refine upto 4 ?_ ?_
        · intro υ NU v3 v4 hU hBu
          refine b_MD_boxes_10 (pk_le 4 4 (fun _ => ?_) (fun z => by omega))
          rw [nI_1]
          exact ih υ NU _ _ _ hU (fun q hq hqn => hBu q hq (by omega))
        · intro s hs ihs υ NU v3 v4 hU hBu
          refine b_MD_boxes_10 (pk_le 4 s (fun z => by omega) (fun _ => ?_))
          rw [m4, nI_add, cl_n (by omega)]
          refine ⟨vp_n (by omega) (by omega), fun σ1 e1 => ?_⟩
          have E1 : Eqs [72, 73, 74, 75, 76, 77] σ σ1 := by rw [e1]; exact hU.pI (by decide)
          have q4 : (4 * n + s) / 4 = n := by omega
          have qm : (4 * n + s) % 4 = s := by omega
          -- a later memory that differs at this box alone
          have carry : ∀ (τ2 : Mem) (N2 : Nat → Nat), (∀ a q, q ≠ 4 * n + s → a = 74 ∨ a = 75 ∨ a = 76 ∨ a = 77 → gI τ2 a 0 q = gI υ a 0 q) → (∀ m, m ≠ n → N2 m = NU m) → (0 < s → N2 n = NU n) → BoxM σ τ2 N2 (4 * n + s) → ∀ q, q < 32 → (q / 4 < n ∨ (q / 4 = n ∧ q % 4 < s + 1)) → BoxM σ τ2 N2 q := by
            intro τ2 N2 hd h2 h3 hb q hq hqs
            by_cases u : q = 4 * n + s
            · rw [u]; exact hb
            · have b := hBu q hq (by omega)
              have eN : N2 (q / 4) = NU (q / 4) := by
                by_cases w : q / 4 = n
                · rw [w]; exact h3 (by omega)
                · exact h2 _ w
              unfold BoxM mBx mBy mBw BXf BYf BWf at b ⊢
              rw [eN, hd 74 q u (by omega), hd 75 q u (by omega), hd 76 q u (by omega), hd 77 q u (by omega)]
              exact b
          refine c_MisName (fun j hj => ?_) (fun hno => ?_)
          · obtain ⟨j8, ej, jt⟩ := hj
            obtain rfl : n = j := (nI_eq (by omega) (by omega)).mp ej
            have ht : thNM σ n := by unfold thNM; rw [E1.1 67 0 n (by decide)] at jt; exact jt
            obtain ⟨w1, w2, w3, w4, w5, w6⟩ := hN n hn ht
            refine b_MD_boxes_33t ?_
            have sp := spm_eq (n := n) E1 (lnNM σ n)
            have eW : WdM σ1 n (lnNM σ n) := ⟨(E1.1 67 0 n (by decide)).trans w1.1, w1.2.1, fun j hj => by rw [E1.1 68 _ _ (by decide)]; exact w1.2.2 j hj⟩
            have eC : CtrM σ1 := fun k hk => by unfold lnS; rw [E1.1 64 0 k (by decide)]; exact hC k hk
            refine c_Mwrites hn eW eC (fun τ1 N cells hT hNl hS hcl => ?_)
            rw [sp.1, sp.2.1, sp.2.2.1, sp.2.2.2] at hS
            have N12 : N ≤ 12 := by have := w1.2.1; omega
            have N1 : 1 ≤ N := hS.pos (by omega)
            have hNU : 0 < s → N = NU n := fun hs0 => by
              have b := (hBu (4 * n) (by omega) (by omega)).1 (by rw [show 4 * n / 4 = n by omega]; exact ht)
              obtain ⟨c2, hc2⟩ := b.1
              rw [show 4 * n / 4 = n by omega] at hc2
              exact (SpO.uni (stOKM hC) hS hc2).1
            have E2 : Eqs [72, 73, 74, 75, 76, 77] σ τ1 := E1.tr (hT.mono (by decide))
            have x1 : gI τ1 69 0 n = gI σ 69 0 n := E2.1 69 0 n (by decide)
            have x2 : gI τ1 70 0 n = gI σ 70 0 n := E2.1 70 0 n (by decide)
            have xM : nXM σ n = (gI σ 69 0 n).toInt := rfl
            have yM : nYM σ n = (gI σ 70 0 n).toInt := rfl
            unfold co at w3 w4
            have eW6 : (nI (6 * N)).toInt = 6 * (N : Int) := by rw [nI_t (by omega)]; omega
            have e3N : (nI (3 * N)).toInt = 3 * (N : Int) := by rw [nI_t (by omega)]; omega
            -- the box once its numbers are set
            have tail : ∀ (X Y : Int32) (τa τb τc : Mem), τa = pI τ1 76 0 (4 * n + s) (nI (6 * N)) → τb = pI τa 74 0 (4 * n + s) X → τc = pI τb 75 0 (4 * n + s) Y → X.toInt = bX (nXM σ n) N s → Y.toInt = bY (nYM σ n) s → MM (d + 2) M_MD_isFree [vR 51 0, vI (nI (4 * n + s))] τc (fun r τ => WS (d + 2 + 1) M_MD_boxes 168 [vR 51 0, vI (nI n), vI (nI s), vI (nI (4 * n + s)), vI (nI N)] (r.toList ++ [vI (nI (4 * n + s)), vR 77 0]) τ Post) := by
              intro X Y τa τb τc ea eb ec hX hY
              have kk : ∀ a i j, gI τc a i j = if a = 75 ∧ i = 0 ∧ j = 4 * n + s then Y else if a = 74 ∧ i = 0 ∧ j = 4 * n + s then X else if a = 76 ∧ i = 0 ∧ j = 4 * n + s then nI (6 * N) else gI τ1 a i j := by
                intro a i j; rw [ec, gI_pI, eb, gI_pI, ea, gI_pI]
              have E3 : Eqs [72, 73, 74, 75, 76, 77] σ τc := by rw [ec, eb, ea]; exact ((E2.pI (by decide)).pI (by decide)).pI (by decide)
              have mx : mBx τc (4 * n + s) = bX (nXM σ n) N s := by unfold mBx; rw [kk, if_neg (by omega), if_pos ⟨rfl, rfl, rfl⟩]; exact hX
              have my : mBy τc (4 * n + s) = bY (nYM σ n) s := by unfold mBy; rw [kk, if_pos ⟨rfl, rfl, rfl⟩]; exact hY
              have mw : mBw τc (4 * n + s) = 6 * N := by unfold mBw; rw [kk, if_neg (by omega), if_neg (by omega), if_pos ⟨rfl, rfl, rfl⟩]; exact eW6
              have bx : -1000 ≤ bX (nXM σ n) N s ∧ bX (nXM σ n) N s ≤ 1000 := by
                unfold bX
                split
                · omega
                · split <;> omega
              have by' : -1000 ≤ bY (nYM σ n) s ∧ bY (nYM σ n) s ≤ 1000 := by
                unfold bY
                split
                · omega
                · split <;> omega
              have cont : ∀ (x : Int32), (x = 0 ∨ x = 1) → (x ≠ 0 ↔ shZ (bX (nXM σ n) N s) (bY (nYM σ n) s) (6 * N) ∧ ¬ hitM σ (bX (nXM σ n) N s) (bY (nYM σ n) s) (6 * N)) → WS (d + 2 + 1) M_MD_boxes 168 [vR 51 0, vI (nI n), vI (nI s), vI (nI (4 * n + s)), vI (nI N)] [vI x, vI (nI (4 * n + s)), vR 77 0] τc Post := by
                intro x hx01 hx
                refine b_MD_boxes_168 ⟨vp_n (by omega) (by omega), hx01, fun σ4 e4 => ?_⟩
                rw [cl_n (by omega)] at e4
                rw [nI_1]
                have ko : ∀ a q, q ≠ 4 * n + s → a = 74 ∨ a = 75 ∨ a = 76 ∨ a = 77 → gI σ4 a 0 q = gI υ a 0 q := fun a q hq ha => by
                  rw [e4, gI_pI, if_neg (by omega), kk, if_neg (by omega), if_neg (by omega), if_neg (by omega), hT.1 a 0 q (by simp; omega), e1, gI_pI, if_neg (by omega)]
                refine ihs σ4 (setF NU n N) _ _ (by rw [e4]; exact E3.pI (by decide)) (carry σ4 (setF NU n N) ko (fun m hm => setF_n NU hm) (fun hs0 => by rw [setF_s]; exact hNU hs0) ?_)
                refine ⟨fun _ => ?_, fun z => absurd (by rw [q4]; exact ht) z⟩
                rw [q4, setF_s]
                refine ⟨⟨cells, hS⟩, N1, N12, ?_, ?_, ?_, ?_⟩
                · unfold mBx at mx ⊢
                  rw [e4, gI_pI, if_neg (by omega)]
                  unfold BXf; rw [q4, qm, setF_s]; exact mx
                · unfold mBy at my ⊢
                  rw [e4, gI_pI, if_neg (by omega)]
                  unfold BYf; rw [q4, qm]; exact my
                · unfold mBw at mw ⊢
                  rw [e4, gI_pI, if_neg (by omega)]
                  unfold BWf; rw [q4, setF_s]; exact mw
                · rw [e4, gI_pI, if_pos ⟨rfl, rfl, rfl⟩]
                  unfold BXf BYf BWf
                  rw [q4, qm, setF_s]
                  exact hx
              have hh : ∀ X Y W, hitM τc X Y W ↔ hitM σ X Y W := fun X Y W => hitM_eq E3 n51 n52 n56 n57 n58 n59 X Y W
              refine c_MisFree (by omega) (hv.eq E3 n55 n56 n57 n58 n59) (by rw [mx]; exact bx) (by rw [my]; exact by') (by rw [mw]; omega) (fun z => ?_) (fun z => ?_)
              · rw [mx, my, mw, hh] at z
                exact cont 1 (Or.inr rfl) ⟨fun _ => z, fun _ => by decide⟩
              · rw [mx, my, mw, hh] at z
                exact cont 0 (Or.inl rfl) ⟨fun y => absurd rfl y, fun y => absurd y z⟩
            have vn : vp_in (nI n) 8 := vp_n hn (by omega)
            have vq : vp_in (nI (4 * n + s)) 32 := vp_n (by omega) (by omega)
            refine b_MD_boxes_44 ⟨vq, fun τa ea => ?_⟩
            rw [cl_n (i := 4 * n + s) (by omega), m6] at ea
            have xa : gI τa 69 0 n = gI σ 69 0 n := by rw [ea, gI_pI, if_neg (by omega)]; exact x1
            rw [cl_n (i := n) (by omega), cl_n (i := 4 * n + s) (by omega), xa, m6, m3]
            have yb : ∀ (τb : Mem) (X : Int32), τb = pI τa 74 0 (4 * n + s) X → gI τb 70 0 n = gI σ 70 0 n := fun τb X eb => by rw [eb, gI_pI, if_neg (by omega), ea, gI_pI, if_neg (by omega)]; exact x2
            have a0 : (gI σ 69 0 n + 4).toInt = nXM σ n + 4 := by rw [xM, t_add, t_4] <;> rw [t_4] <;> omega
            have a1 : (gI σ 69 0 n - 4).toInt = nXM σ n - 4 := by rw [xM, t_sub, t_4] <;> rw [t_4] <;> omega
            have a1' : (gI σ 69 0 n - 4 - nI (6 * N)).toInt = nXM σ n - 4 - 6 * N := by rw [t_sub (by rw [a1, eW6]; omega) (by rw [a1, eW6]; omega), a1, eW6]
            have a2 : (gI σ 69 0 n - nI (3 * N)).toInt = nXM σ n - 3 * N := by rw [xM, t_sub (by rw [e3N]; omega) (by rw [e3N]; omega), e3N]
            have b0 : (gI σ 70 0 n - 5).toInt = nYM σ n - 5 := by rw [yM, t_sub, t_5] <;> rw [t_5] <;> omega
            have b2 : (gI σ 70 0 n + 4).toInt = nYM σ n + 4 := by rw [yM, t_add, t_4] <;> rw [t_4] <;> omega
            have b3 : (gI σ 70 0 n - 14).toInt = nYM σ n - 14 := by rw [yM, t_sub, t_14] <;> rw [t_14] <;> omega
            refine pk_eq s 0 (fun s0 => ⟨vn, vq, fun τb eb => pk_le 2 s (fun z => by omega) (fun _ => ⟨vn, vq, fun τc ec => ?_⟩)⟩) (fun s0 => pk_eq s 1 (fun s1 => ⟨vn, vq, fun τb eb => pk_le 2 s (fun z => by omega) (fun _ => ⟨vn, vq, fun τc ec => ?_⟩)⟩) (fun s1 => ⟨vn, vq, fun τb eb => pk_le 2 s (fun _ => pk_eq s 2 (fun s2 => ⟨vn, vq, fun τc ec => ?_⟩) (fun s2 => ⟨vn, vq, fun τc ec => ?_⟩)) (fun z => by omega)⟩))
            · rw [yb τb _ eb] at ec
              exact tail _ _ τa τb τc ea eb ec (by rw [a0]; unfold bX; rw [if_pos s0]) (by rw [b0]; unfold bY; rw [if_pos (by omega)])
            · rw [yb τb _ eb] at ec
              exact tail _ _ τa τb τc ea eb ec (by rw [a1']; unfold bX; rw [if_neg s0, if_pos s1]) (by rw [b0]; unfold bY; rw [if_pos (by omega)])
            · rw [yb τb _ eb] at ec
              exact tail _ _ τa τb τc ea eb ec (by rw [a2]; unfold bX; rw [if_neg s0, if_neg s1]) (by rw [b2]; unfold bY; rw [if_neg (by omega), if_pos s2])
            · rw [yb τb _ eb] at ec
              exact tail _ _ τa τb τc ea eb ec (by rw [a2]; unfold bX; rw [if_neg s0, if_neg s1]) (by rw [b3]; unfold bY; rw [if_neg (by omega), if_neg s2])
          · have hnt : ¬ thNM σ n := fun z => hno n ⟨hn, rfl, by rw [E1.1 67 0 n (by decide)]; exact z⟩
            refine b_MD_boxes_33f ?_
            rw [nI_1]
            refine ihs σ1 NU _ _ E1 (carry σ1 NU (fun a q hq ha => by rw [e1, gI_pI, if_neg (by omega)]) (fun _ _ => rfl) (fun _ => rfl) ⟨fun z => absurd (by rw [q4] at z; exact z) hnt, fun _ => by rw [e1, gI_pI, if_pos ⟨rfl, rfl, rfl⟩]⟩)
      exact inn 0 (by omega) τ NN _ _ hE (fun q hq hqn => hB q hq (by omega))
  refine b_MD_boxes_0 ?_
  exact key 0 (by omega) σ (fun _ => 0) vU vU vU Eqs.rf (fun q hq hqn => by omega)
