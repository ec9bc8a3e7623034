/-! contracts: keep of the model -/
def thM (σ : Mem) (w : Nat) : Prop := gI σ 52 0 w ≠ 0 ∧ 0 < (gI σ 55 0 w).toInt
def dgM (σ : Mem) (w : Nat) : Prop := thM σ w ∧ gI σ 54 0 w ≠ 0
def clM (σ : Mem) (p q : Nat) : Prop := p ≠ q ∧ thM σ p ∧ thM σ q ∧ NearM σ p q (shM σ p) (shM σ q) (gI σ 51 0 9).toInt
def wtM (σ : Mem) (w : Nat) : Nat := (gI σ 53 0 w).toNatClampNeg
def WtOM (σ : Mem) : Prop := ∀ w, w < 12 → gI σ 53 0 w = nI (wtM σ w) ∧ wtM σ w ≤ 1000
theorem NearM.sym {σ : Mem} {a b sa sb : Nat} {g : Int} (h : NearM σ a b sa sb g) : NearM σ b a sb sa g := by
  obtain ⟨i, j, h1, h2, h3⟩ := h
  exact ⟨j, i, h2, h1, (closeZ_comm _ _ _).mp h3⟩
theorem mn_eq {ks : List Nat} {σ τ : Mem} (h : Eqs ks σ τ) (hk : 59 ∉ ks) (w i : Nat) : mn τ w i = mn σ w i := by unfold mn; rw [h.1 59 0 _ hk]
theorem lnMW_eq {ks : List Nat} {σ τ : Mem} (h : Eqs ks σ τ) (h3 : 56 ∉ ks) (h4 : 57 ∉ ks) (h5 : 59 ∉ ks) (w i : Nat) : lnMW τ w i = lnMW σ w i := by unfold lnMW; rw [lnM_eq h h3 h4, mn_eq h h5, mn_eq h h5]
theorem WayM.eq {ks : List Nat} {σ τ : Mem} {w c s : Nat} (hv : WayM σ w c s) (h : Eqs ks σ τ) (h5 : 55 ∉ ks) (h6 : 56 ∉ ks) (h7 : 57 ∉ ks) (h8 : 58 ∉ ks) (h9 : 59 ∉ ks) : WayM τ w c s := by
  obtain ⟨a1, a2, a3, a4, a5, a6⟩ := hv
  refine ⟨by rw [h.1 55 _ _ h5]; exact a1, by rw [h.1 58 _ _ h8]; exact a2, a3, a4, fun i hi => ?_, fun i hi => ?_⟩
  · have := a5 i hi
    unfold mP at this ⊢
    rw [mX_eq h h6, mY_eq h h7]; exact this
  · rw [mn_eq h h9, h.1 59 _ _ h9]; exact a6 i hi
theorem NearM_eq {ks : List Nat} {σ τ : Mem} {a b sa sb : Nat} {g : Int} (h : Eqs ks σ τ) (h3 : 56 ∉ ks) (h4 : 57 ∉ ks) (h5 : 59 ∉ ks) : NearM τ a b sa sb g ↔ NearM σ a b sa sb g := by
  unfold NearM
  constructor
  · rintro ⟨i, j, a1, a2, a3⟩; rw [lnMW_eq h h3 h4 h5, lnMW_eq h h3 h4 h5] at a3; exact ⟨i, j, a1, a2, a3⟩
  · rintro ⟨i, j, a1, a2, a3⟩; exact ⟨i, j, a1, a2, by rw [lnMW_eq h h3 h4 h5, lnMW_eq h h3 h4 h5]; exact a3⟩
theorem and_0 {x y : Int32} : (x &&& y) = 0 ↔ ∀ i, i < 32 → bI x i = true → bI y i = false := by
  constructor
  · intro h i hi hx
    have : bI (x &&& y) i = false := by rw [h, bI_0]
    rw [bI_and, hx] at this
    simpa using this
  · intro h
    apply bI_ext
    intro i hi
    rw [bI_and, bI_0]
    cases e : bI x i
    · rfl
    · rw [h i hi e]; rfl
theorem andn_0 {x y : Int32} : (x &&& (y ^^^ (-1))) = 0 ↔ ∀ i, i < 32 → bI x i = true → bI y i = true := by
  rw [and_0]
  constructor
  · intro h i hi hx
    have := h i hi hx
    rw [bI_not _ hi] at this
    simpa using this
  · intro h i hi hx
    rw [bI_not _ hi, h i hi hx]; rfl
def mbM (σ : Mem) (x : Int32) : Prop := ∀ w v, w < 12 → v < 32 → bI x w = true → bI x v = true → bI (gI σ 61 0 w) v = false
theorem c_MmayBe {d : Nat} {σ : Mem} {Post : Option AV → Mem → Prop} {x : Int32} (h1 : mbM σ x → Post (some (vI 1)) σ) (h0 : ¬ mbM σ x → Post (some (vI 0)) σ) : MM d M_MD_mayBe [vR 51 0, vI x] σ Post := by
  refine MM.of ok_MD_mayBe rfl ?_
  have key : ∀ w, w ≤ 12 → (∀ w' v, w' < w → v < 32 → bI x w' = true → bI x v = true → bI (gI σ 61 0 w') v = false) → WS d M_MD_mayBe 2 [vR 51 0, vI x, vI (nI w)] [] σ Post := by
    refine upto 12 ?_ ?_
    · intro hh
      exact b_MD_mayBe_2 (pk_le 12 12 (fun _ => h1 hh) (fun q => by omega))
    · intro w hw ih hh
      refine b_MD_mayBe_2 (pk_le 12 w (fun q => by omega) (fun _ => ?_))
      rw [shr1 x (by omega), bit_one, nI_1, cl_n (by omega), and_0]
      refine ⟨fun z => ⟨vp_n hw (by omega), fun y => ih (fun w' v hw' hv hx hx2 => ?_), fun y => h0 (fun u => y (fun i hi hi2 => ?_))⟩, fun z => ih (fun w' v hw' hv hx hx2 => ?_)⟩
      · rcases Nat.lt_or_ge w' w with p | p
        · exact hh w' v p hv hx hx2
        · rw [show w' = w by omega]
          cases e : bI (gI σ 61 0 w) v
          · rfl
          · have := y v hv e; rw [hx2] at this; exact this
      · cases e : bI x i
        · rfl
        · have := u w i hw hi z e; rw [hi2] at this; exact this
      · rcases Nat.lt_or_ge w' w with p | p
        · exact hh w' v p hv hx hx2
        · rw [show w' = w by omega] at hx; exact absurd hx z
  refine b_MD_mayBe_0 ?_
  exact key 0 (by omega) (fun w' v hw' => by omega)
theorem c_MworthOf {d : Nat} {σ : Mem} {Post : Option AV → Mem → Prop} {x : Int32} (hw : WtOM σ) (h : Post (some (vI (nI (vF 1 (wtM σ) (fS x) 0 12)))) σ) : MM d M_MD_worthOf [vR 51 0, vI x] σ Post := by
  refine MM.of ok_MD_worthOf rfl ?_
  have key : ∀ w, w ≤ 12 → WS d M_MD_worthOf 4 [vR 51 0, vI x, vI (nI (vF 1 (wtM σ) (fS x) 0 w)), vI (nI w)] [] σ Post := by
    refine upto 12 ?_ ?_
    · exact b_MD_worthOf_4 (pk_le 12 12 (fun _ => h) (fun q => by omega))
    · intro w hw12 ih
      refine b_MD_worthOf_4 (pk_le 12 w (fun q => by omega) (fun _ => ?_))
      rw [shr1 x (by omega), bit_one, nI_1, cl_n (by omega), (hw w hw12).1, nI_add]
      rw [vF_split, Nat.zero_add] at ih
      refine ⟨fun z => ⟨vp_n hw12 (by omega), ?_⟩, fun z => ?_⟩
      · unfold gn at ih; rw [if_pos (fS_lt.mpr z)] at ih; exact ih
      · unfold gn at ih; rw [if_neg (fun y => z (fS_lt.mp y))] at ih; exact ih
  refine b_MD_worthOf_0 ?_
  exact key 0 (by omega)
theorem c_MisFirst {d : Nat} {σ : Mem} {Post : Option AV → Mem → Prop} {a b : Int32} (ha : ∀ i, 12 ≤ i → bI a i = false) (hb : ∀ i, 12 ≤ i → bI b i = false) (h1 : lexlt 0 12 (fS a) (fS b) → Post (some (vI 1)) σ) (h0 : ¬ lexlt 0 12 (fS a) (fS b) → Post (some (vI 0)) σ) : MM d M_MD_isFirst [vI a, vI b] σ Post := by
  refine MM.of ok_MD_isFirst rfl ?_
  refine b_MD_isFirst_0 ⟨fun z => h0 (fun y => (first_lex ha hb).mpr y z), fun z => h1 ((first_lex ha hb).mp z)⟩
def dgOM (σ : Mem) : Prop := ∀ i j, i < 12 → j < 12 → dgM σ i → dgM σ j → ¬ clM σ i j
theorem lexle_cg {f f' h h' : Nat → Nat} (e1 : ∀ i, i < 12 → f i = f' i) (e2 : ∀ i, i < 12 → h i = h' i) (hl : lexle 0 12 f h) : lexle 0 12 f' h' := by
  rcases hl with z | ⟨b, b1, b2, b3, b4⟩
  · exact Or.inl (fun c c1 c2 => by rw [← e1 c c2, ← e2 c c2]; exact z c c1 c2)
  · exact Or.inr ⟨b, b1, b2, fun c c1 c2 => by rw [← e1 c (by omega), ← e2 c (by omega)]; exact b3 c c1 c2, by rw [← e1 b b2, ← e2 b b2]; exact b4⟩
/-- the loop over all sets -/
theorem c_keeploop {d : Nat} {σ : Mem} {Post : Option AV → Mem → Prop} {th dg : Nat → Prop} {nr : Nat → Nat → Prop} {x1 x2 : Int32} (hw : WtOM σ) (hx1 : ∀ q, q < 32 → (bI x1 q = true ↔ q < 12 ∧ th q)) (hx2 : ∀ q, q < 32 → (bI x2 q = true ↔ q < 12 ∧ dg q)) (hN : ∀ p v, p < 12 → v < 32 → (bI (gI σ 61 0 p) v = true ↔ v < 12 ∧ nr v p)) (hs : ∀ i j, nr i j → nr j i)
    (h : ∀ b, b < 4096 → KpO th dg nr (wtM σ) (fS (nI b)) → ∀ (v5 : AV), WS (d + 1) M_MD_keep 126 [vR 51 0, vI x1, vI x2, vI (nI b), vI (nI 4096), v5] [] σ Post) : ∀ m, m ≤ 4096 → ∀ (b : Nat) (v5 : AV), b < 4096 → KpF th dg nr (fS (nI b)) → (∀ s, s < m → KpF th dg nr (fS (nI s)) → vF 1 (fun i => wtM σ i * 16 + 1) (fS (nI s)) 0 12 < vF 1 (fun i => wtM σ i * 16 + 1) (fS (nI b)) 0 12 ∨ (vF 1 (fun i => wtM σ i * 16 + 1) (fS (nI s)) 0 12 = vF 1 (fun i => wtM σ i * 16 + 1) (fS (nI b)) 0 12 ∧ lexle 0 12 (fS (nI b)) (fS (nI s)))) → WS (d + 1) M_MD_keep 126 [vR 51 0, vI x1, vI x2, vI (nI b), vI (nI m), v5] [] σ Post := by
  refine upto 4096 ?_ ?_
  · intro b v5 hb hf hbest
    refine h b hb ⟨hf, fun e he => ?_⟩ v5
    obtain ⟨m, hm, hp⟩ := mask12 (fun i => e i = 0)
    have ee : ∀ i, i < 12 → fS (nI m) i = e i := fun i hi => by
      have := hp i hi
      have h1 := (he.1 i hi).1
      by_cases z : e i = 0
      · rw [fS_0.mpr (this.mpr z), z]
      · unfold fS
        rw [if_neg (fun y => z (this.mp y))]; omega
    have hk : KpF th dg nr (fS (nI m)) := ⟨fun i hi => by rw [ee i hi]; exact he.1 i hi, fun i hi hd => by rw [ee i hi]; exact he.2.1 i hi hd, fun i j hi hj h1 h2 => he.2.2 i j hi hj (by rw [← ee i hi]; exact h1) (by rw [← ee j hj]; exact h2)⟩
    have := hbest m hm hk
    rw [vF_congr (f := fS (nI m)) (f' := e) 12 0 (fun i _ hi => ee i (by omega))] at this
    rcases this with z | ⟨z1, z2⟩
    · exact Or.inl z
    · exact Or.inr ⟨z1, lexle_cg (fun i _ => rfl) ee z2⟩
  · intro m hm ih b v5 hb hf hbest
    have hfeas : KpF th dg nr (fS (nI m)) ↔ (∀ i, i < 32 → bI (nI m) i = true → bI x1 i = true) ∧ (∀ i, i < 32 → bI x2 i = true → bI (nI m) i = true) ∧ mbM σ (nI m) := by
      constructor
      · rintro ⟨k1, k2, k3⟩
        refine ⟨fun i hi hm1 => ?_, fun i hi h2 => ?_, fun w v hw' hv h3 h4 => ?_⟩
        · have i12 : i < 12 := by
            rcases Nat.lt_or_ge i 12 with q | q
            · exact q
            · rw [bI_big hm q] at hm1; exact absurd hm1 (by decide)
          exact (hx1 i hi).mpr ⟨i12, (k1 i i12).2 (fS_0.mpr hm1)⟩
        · have := (hx2 i hi).mp h2
          exact fS_0.mp (k2 i this.1 this.2)
        · have v12 : v < 12 := by
            rcases Nat.lt_or_ge v 12 with q | q
            · exact q
            · rw [bI_big hm q] at h4; exact absurd h4 (by decide)
          cases e : bI (gI σ 61 0 w) v
          · rfl
          · exact absurd ((hN w v hw' hv).mp e).2 (k3 v w v12 hw' (fS_0.mpr h4) (fS_0.mpr h3))
      · rintro ⟨k1, k2, k3⟩
        refine ⟨fun i hi => ⟨fS_le _ _, fun h0 => ((hx1 i (by omega)).mp (k1 i (by omega) (fS_0.mp h0))).2⟩, fun i hi hd => fS_0.mpr (k2 i (by omega) ((hx2 i (by omega)).mpr ⟨hi, hd⟩)), fun i j hi hj h1 h2 hn => ?_⟩
        have := k3 j i hj (by omega) (fS_0.mp h2) (fS_0.mp h1)
        rw [(hN j i hj (by omega)).mpr ⟨hi, hn⟩] at this
        exact absurd this (by decide)
    have skip : ∀ v5 : AV, ¬ KpF th dg nr (fS (nI m)) → WS (d + 1) M_MD_keep 126 [vR 51 0, vI x1, vI x2, vI (nI b), vI (nI (m + 1)), v5] [] σ Post := fun v5 hno => by
      refine ih b v5 hb hf (fun s hs' hk => ?_)
      rcases Nat.lt_or_ge s m with p | p
      · exact hbest s p hk
      · rw [show s = m by omega] at hk; exact absurd hk hno
    refine b_MD_keep_126 (pk_le 4096 m (fun q => by omega) (fun _ => ?_))
    rw [nI_1, andn_0, andn_0]
    refine ⟨fun z1 => ⟨fun z2 => ?_, fun z2 => skip _ (fun k => z2 (hfeas.mp k).2.1)⟩, fun z1 => skip _ (fun k => z1 (hfeas.mp k).1)⟩
    refine c_MmayBe (fun z3 => ?_) (fun z3 => b_MD_keep_158f (by rw [nI_1]; exact skip _ (fun k => z3 (hfeas.mp k).2.2)))
    have hk : KpF th dg nr (fS (nI m)) := hfeas.mpr ⟨z1, z2, z3⟩
    refine b_MD_keep_158t (c_MworthOf hw ?_)
    refine b_MD_keep_170 (c_MworthOf hw ?_)
    have w1 : vF 1 (wtM σ) (fS (nI m)) 0 12 ≤ 12 * 1000 := vF_le 12 0 (fun i hi => (hw i (by omega)).2)
    have w2 : vF 1 (wtM σ) (fS (nI b)) 0 12 ≤ 12 * 1000 := vF_le 12 0 (fun i hi => (hw i (by omega)).2)
    have l1 := vF_lin (wt := wtM σ) (f := fS (nI m)) 12 0
    have l2 := vF_lin (wt := wtM σ) (f := fS (nI b)) 12 0
    have o1 := vF_one_le (fS (nI m))
    have o2 := vF_one_le (fS (nI b))
    have on1 := vF_ones (nI m) 12
    have on2 := vF_ones (nI b) 12
    generalize hW1 : vF 1 (wtM σ) (fS (nI m)) 0 12 = W1 at *
    generalize hW2 : vF 1 (wtM σ) (fS (nI b)) 0 12 = W2 at *
    generalize hO1 : vF 1 (fun _ => 1) (fS (nI m)) 0 12 = O1 at *
    generalize hO2 : vF 1 (fun _ => 1) (fS (nI b)) 0 12 = O2 at *
    have ed : (nI W1 - nI W2).toInt = (W1 : Int) - W2 := by rw [t_sub] <;> rw [nI_t (by omega), nI_t (by omega)] <;> omega
    -- the set becomes the best
    have upd : ∀ v5 : AV, (vF 1 (fun i => wtM σ i * 16 + 1) (fS (nI b)) 0 12 < vF 1 (fun i => wtM σ i * 16 + 1) (fS (nI m)) 0 12 ∨ (vF 1 (fun i => wtM σ i * 16 + 1) (fS (nI b)) 0 12 = vF 1 (fun i => wtM σ i * 16 + 1) (fS (nI m)) 0 12 ∧ lexlt 0 12 (fS (nI m)) (fS (nI b)))) → WS (d + 1) M_MD_keep 126 [vR 51 0, vI x1, vI x2, vI (nI m), vI (nI (m + 1)), v5] [] σ Post := fun v5 hup => by
      refine ih m v5 (by omega) hk (fun s hs' hks => ?_)
      rcases Nat.lt_or_ge s m with p | p
      · rcases hbest s p hks with y | ⟨y1, y2⟩
        · left; rcases hup with u | ⟨u, _⟩ <;> omega
        · rcases hup with u | ⟨u1, u2⟩
          · left; omega
          · right; exact ⟨by omega, Or.inr (lexlt_tr u2 y2)⟩
      · rw [show s = m by omega]; exact Or.inr ⟨rfl, Or.inl (fun _ _ _ => rfl)⟩
    have stay : ∀ v5 : AV, (vF 1 (fun i => wtM σ i * 16 + 1) (fS (nI m)) 0 12 < vF 1 (fun i => wtM σ i * 16 + 1) (fS (nI b)) 0 12 ∨ (vF 1 (fun i => wtM σ i * 16 + 1) (fS (nI m)) 0 12 = vF 1 (fun i => wtM σ i * 16 + 1) (fS (nI b)) 0 12 ∧ ¬ lexlt 0 12 (fS (nI m)) (fS (nI b)))) → WS (d + 1) M_MD_keep 126 [vR 51 0, vI x1, vI x2, vI (nI b), vI (nI (m + 1)), v5] [] σ Post := fun v5 hst => by
      refine ih b v5 hb hf (fun s hs' hks => ?_)
      rcases Nat.lt_or_ge s m with p | p
      · exact hbest s p hks
      · rw [show s = m by omega]
        rcases hst with u | ⟨u1, u2⟩
        · exact Or.inl u
        · refine Or.inr ⟨u1, ?_⟩
          rcases lexle_total 0 12 (fS (nI b)) (fS (nI m)) with y | y
          · exact y
          · exact absurd y u2
    refine b_MD_keep_175 ⟨fun e0 => ?_, fun e0 => ⟨fun e1 => ?_, fun e1 => ⟨fun e2 => absurd e2 e0, fun _ => ?_⟩⟩⟩
    · rw [t_eq, ed, t_0] at e0
      refine c_Mones ?_
      refine b_MD_keep_188 (c_Mones ?_)
      rw [← on1, ← on2]
      have eo : (nI O1 - nI O2).toInt = (O1 : Int) - O2 := by rw [t_sub] <;> rw [nI_t (by omega), nI_t (by omega)] <;> omega
      refine b_MD_keep_192 ⟨fun y => ?_, fun y => ⟨fun y2 => ?_, fun y2 => ?_⟩⟩
      · rw [t_lt, t_0, eo] at y
        rw [nI_1]
        exact upd _ (Or.inl (by omega))
      · rw [t_eq, eo, t_0] at y2
        refine c_MisFirst (fun i hi => bI_big hm hi) (fun i hi => bI_big hb hi) (fun u => b_MD_keep_211t ?_) (fun u => b_MD_keep_211f ?_)
        · rw [nI_1]; exact upd _ (Or.inr ⟨by omega, u⟩)
        · rw [nI_1]; exact stay _ (Or.inr ⟨by omega, u⟩)
      · rw [t_lt, t_0, eo] at y
        rw [t_eq, eo, t_0] at y2
        rw [nI_1]
        exact stay _ (Or.inl (by omega))
    · rw [t_lt, t_0, ed] at e1
      rw [nI_1]
      exact upd _ (Or.inl (by omega))
    · rw [t_eq, ed, t_0] at e0
      rw [t_lt, t_0, ed] at e1
      rw [nI_1]
      exact stay _ (Or.inl (by omega))
theorem c_Mkeep {d : Nat} {σ : Mem} {Post : Option AV → Mem → Prop} (hv : AllM σ) (hg : 0 ≤ (gI σ 51 0 9).toInt ∧ (gI σ 51 0 9).toInt ≤ 100) (hw : WtOM σ) (h1 : ∀ (τ : Mem) (x : Int32), Eqs [51, 61] σ τ → (∀ j, j ≠ 10 → j ≠ 11 → gI τ 51 0 j = gI σ 51 0 j) → gI τ 51 0 11 = 1 → gI τ 51 0 10 = x → (∀ i, 12 ≤ i → bI x i = false) → dgOM σ → KpO (thM σ) (dgM σ) (clM σ) (wtM σ) (fS x) → Post (some (vI (nI (vF 1 (wtM σ) (fS x) 0 12)))) τ) (h0 : ∀ τ : Mem, Eqs [61] σ τ → ¬ dgOM σ → Post (some (vI (-1))) τ) : MM (d + 7) M_MD_keep [vR 51 0] σ Post := by
  refine MM.of ok_MD_keep rfl ?_
  have hsym : ∀ i j, clM σ i j → clM σ j i := fun i j z => ⟨fun e => z.1 e.symm, z.2.2.1, z.2.1, z.2.2.2.sym⟩
  have n5 : 55 ∉ [61] ∧ 56 ∉ [61] ∧ 57 ∉ [61] ∧ 58 ∉ [61] ∧ 59 ∉ [61] := by decide
  have key : ∀ w, w ≤ 12 → ∀ (τ : Mem) (x1 x2 : Int32) (v4 : AV), Eqs [61] σ τ → (∀ q, q < 32 → (bI x1 q = true ↔ q < w ∧ thM σ q)) → (∀ q, q < 32 → (bI x2 q = true ↔ q < w ∧ dgM σ q)) → (∀ p v, p < w → v < 32 → (bI (gI τ 61 0 p) v = true ↔ v < 12 ∧ clM σ v p)) → WS (d + 6 + 1) M_MD_keep 6 [vR 51 0, vI x1, vI x2, vI (nI w), v4, vU] [] τ Post := by
    refine upto 12 ?_ ?_
    · intro τ x1 x2 v4 hE hx1 hx2 hN
      refine b_MD_keep_6 (pk_le 12 12 (fun _ => ?_) (fun q => by omega))
      have hwt : WtOM τ := fun w hw12 => by unfold wtM; rw [hE.1 53 0 w (by decide)]; exact hw w hw12
      have ewt : wtM τ = wtM σ := by funext w; unfold wtM; rw [hE.1 53 0 w (by decide)]
      have b12 : ∀ i, 12 ≤ i → bI x2 i = false := fun i hi => by
        rcases Nat.lt_or_ge i 32 with q | q
        · cases e : bI x2 i
          · rfl
          · have := (hx2 i q).mp e; omega
        · exact bI_ge q
      have hmb : mbM τ x2 ↔ dgOM σ := by
        constructor
        · intro hb i j hi hj hdi hdj hc
          have := hb j i hj (by omega) ((hx2 j (by omega)).mpr ⟨hj, hdj⟩) ((hx2 i (by omega)).mpr ⟨hi, hdi⟩)
          rw [(hN j i hj (by omega)).mpr ⟨hi, hc⟩] at this
          exact absurd this (by decide)
        · intro hok w v hw12 hv32 a1 a2
          have b1 := (hx2 w (by omega)).mp a1
          have b2 := (hx2 v hv32).mp a2
          cases e : bI (gI τ 61 0 w) v
          · rfl
          · exact absurd ((hN w v hw12 hv32).mp e).2 (hok v w b2.1 hw12 b2.2 b1.2)
      refine c_MmayBe (fun z => ?_) (fun z => b_MD_keep_116f (h0 τ hE (fun y => z (hmb.mpr y))))
      have hok := hmb.mp z
      refine b_MD_keep_116t ?_
      obtain ⟨b, hb, hbb⟩ := mask12 (fun i => bI x2 i = true)
      have eb : x2 = nI b := bI_ext (fun i hi => by
        rcases Nat.lt_or_ge i 12 with q | q
        · have := hbb i q
          cases e1 : bI x2 i <;> cases e2 : bI (nI b) i <;> simp_all
        · rw [b12 i q, bI_big hb q])
      have kf : KpF (thM σ) (dgM σ) (clM σ) (fS x2) := by
        refine ⟨fun i hi => ⟨fS_le _ _, fun z0 => (((hx2 i (by omega)).mp (fS_0.mp z0)).2).1⟩, fun i hi hd => fS_0.mpr ((hx2 i (by omega)).mpr ⟨hi, hd⟩), fun i j hi hj a1 a2 => ?_⟩
        have b1 := (hx2 i (by omega)).mp (fS_0.mp a1)
        have b2 := (hx2 j (by omega)).mp (fS_0.mp a2)
        exact hok i j hi hj b1.2 b2.2
      rw [eb] at kf
      have loop := c_keeploop (d := d + 6) (σ := τ) (Post := Post) (th := thM σ) (dg := dgM σ) (nr := clM σ) (x1 := x1) (x2 := x2) hwt hx1 hx2 (fun p v hp hv32 => hN p v hp hv32) hsym (fun c hc hO v5 => ?_) 0 (by omega) b vU hb kf (fun s hs => by omega)
      · rw [← eb] at loop; exact loop
      · refine b_MD_keep_126 (pk_le 4096 4096 (fun _ σ1 e1 σ2 e2 => ?_) (fun q => by omega))
        have E2 : Eqs [51, 61] σ σ2 := by rw [e2, e1]; exact ((hE.mono (by decide)).pI (by decide)).pI (by decide)
        have hw2 : WtOM σ2 := fun w hw12 => by unfold wtM; rw [E2.1 53 0 w (by decide)]; exact hw w hw12
        have ew2 : wtM σ2 = wtM σ := by funext w; unfold wtM; rw [E2.1 53 0 w (by decide)]
        refine c_MworthOf hw2 ?_
        rw [ew2]
        rw [ewt] at hO
        refine b_MD_keep_238 (h1 σ2 (nI c) E2 (fun j j1 j2 => ?_) ?_ ?_ (fun i hi => bI_big hc hi) hok hO)
        · rw [e2, gI_pI, if_neg (by omega), e1, gI_pI, if_neg (by omega)]; exact hE.1 51 0 j (by decide)
        · rw [e2, gI_pI, if_pos ⟨rfl, rfl, rfl⟩]
        · rw [e2, gI_pI, if_neg (by omega), e1, gI_pI, if_pos ⟨rfl, rfl, rfl⟩]
    · intro w hw12 ih τ x1 x2 v4 hE hx1 hx2 hN
      have vw : vp_in (nI w) 12 := vp_n hw12 (by omega)
      have ew : (nI w).toNatClampNeg = w := cl_n (by omega)
      refine b_MD_keep_6 (pk_le 12 w (fun q => by omega) (fun _ => ⟨vw, fun σ1 e1 => ?_⟩))
      rw [ew] at e1
      have E1 : Eqs [61] σ σ1 := by rw [e1]; exact hE.pI (by decide)
      have z1 : gI σ1 61 0 w = 0 := by rw [e1, gI_pI, if_pos ⟨rfl, rfl, rfl⟩]
      have N1 : ∀ p v, p < w → v < 32 → (bI (gI σ1 61 0 p) v = true ↔ v < 12 ∧ clM σ v p) := fun p v hp hv32 => by
        rw [e1, gI_pI, if_neg (by omega)]; exact hN p v hp hv32
      have eth : ∀ q : Nat, (gI σ1 52 0 q ≠ 0 ∧ 0 < (gI σ1 55 0 q).toInt) ↔ thM σ q := fun q => by rw [E1.1 52 0 q (by decide), E1.1 55 0 q (by decide)]; exact Iff.rfl
      have inj : ∀ a b : Nat, a < 100 → b < 100 → nI a = nI b → a = b := fun a b h1 h2 h3 => (nI_eq (by omega) (by omega)).mp h3
      refine c_MisThere (fun j hj ej q1 q2 => ?_) (fun q => ?_)
      · obtain rfl : w = j := inj w j (by omega) (by omega) ej
        have hth : thM σ w := (eth w).mp ⟨q1, q2⟩
        -- the inner loop
        have inn : ∀ y1 y2 : Int32, (∀ q, q < 32 → (bI y1 q = true ↔ q < w + 1 ∧ thM σ q)) → (∀ q, q < 32 → (bI y2 q = true ↔ q < w + 1 ∧ dgM σ q)) → ∀ v, v ≤ 12 → ∀ υ : Mem, Eqs [61] σ υ → (∀ p v, p < w → v < 32 → (bI (gI υ 61 0 p) v = true ↔ v < 12 ∧ clM σ v p)) → (∀ v', v' < 32 → (bI (gI υ 61 0 w) v' = true ↔ v' < v ∧ clM σ v' w)) → WS (d + 6 + 1) M_MD_keep 54 [vR 51 0, vI y1, vI y2, vI (nI w), vI (nI v), vU] [] υ Post := by
          intro y1 y2 hy1 hy2
          refine upto 12 ?_ ?_
          · intro υ hU hNu hWu
            refine b_MD_keep_54 (pk_le 12 12 (fun _ => ?_) (fun q => by omega))
            rw [nI_1]
            refine ih υ y1 y2 _ hU hy1 hy2 (fun p v hp hv32 => ?_)
            rcases Nat.lt_or_ge p w with r | r
            · exact hNu p v r hv32
            · rw [show p = w by omega]; exact hWu v hv32
          · intro v hv12 ihv υ hU hNu hWu
            have skip : (¬ clM σ v w) → WS (d + 6 + 1) M_MD_keep 54 [vR 51 0, vI y1, vI y2, vI (nI w), vI (nI (v + 1)), vU] [] υ Post := fun hno => by
              refine ihv υ hU hNu (fun v' hv' => ?_)
              rw [hWu v' hv']
              constructor
              · rintro ⟨a1, a2⟩; exact ⟨by omega, a2⟩
              · rintro ⟨a1, a2⟩
                refine ⟨?_, a2⟩
                rcases Nat.lt_or_ge v' v with r | r
                · exact r
                · rw [show v' = v by omega] at a2; exact absurd a2 hno
            refine b_MD_keep_54 (pk_le 12 v (fun q => by omega) (fun _ => pk_eq v w (fun e => ?_) (fun e => ?_)))
            · rw [nI_1]; exact skip (fun z => z.1 e)
            · have ethu : ∀ q : Nat, (gI υ 52 0 q ≠ 0 ∧ 0 < (gI υ 55 0 q).toInt) ↔ thM σ q := fun q => by rw [hU.1 52 0 q (by decide), hU.1 55 0 q (by decide)]; exact Iff.rfl
              show MM (d + 6) _ _ _ _
              refine c_MisThere (fun i hi ei r1 r2 => ?_) (fun r => ?_)
              · obtain rfl : v = i := inj v i (by omega) (by omega) ei
                have htv : thM σ v := (ethu v).mp ⟨r1, r2⟩
                refine b_MD_keep_73t ?_
                refine c_MareNear (by omega) hw12 ((hv v hv12).eq hU n5.1 n5.2.1 n5.2.2.1 n5.2.2.2.1 n5.2.2.2.2) ((hv w hw12).eq hU n5.1 n5.2.1 n5.2.2.1 n5.2.2.2.1 n5.2.2.2.2) (by rw [hU.1 51 0 9 (by decide)]; exact hg) (fun s => ?_) (fun s => ?_)
                · rw [hU.1 51 0 9 (by decide), NearM_eq hU n5.2.1 n5.2.2.1 n5.2.2.2.2] at s
                  have hcl : clM σ v w := ⟨e, htv, hth, s⟩
                  refine b_MD_keep_83t ⟨vw, vw, fun σ2 e2 => ?_⟩
                  rw [ew] at e2
                  rw [nI_1]
                  refine ihv σ2 (by rw [e2]; exact hU.pI (by decide)) (fun p v' hp hv' => by rw [e2, gI_pI, if_neg (by omega)]; exact hNu p v' hp hv') (fun v' hv' => ?_)
                  rw [e2, gI_pI, if_pos ⟨rfl, rfl, rfl⟩, f_or _ _ _ (by omega) hv']
                  by_cases u : v' = v
                  · rw [if_pos u, u]
                    exact ⟨fun _ => ⟨by omega, hcl⟩, fun _ => rfl⟩
                  · rw [if_neg u, hWu v' hv']
                    constructor
                    · rintro ⟨a1, a2⟩; exact ⟨by omega, a2⟩
                    · rintro ⟨a1, a2⟩; exact ⟨by omega, a2⟩
                · rw [hU.1 51 0 9 (by decide), NearM_eq hU n5.2.1 n5.2.2.1 n5.2.2.2.2] at s
                  refine b_MD_keep_83f ?_
                  rw [nI_1]; exact skip (fun z => s z.2.2.2)
              · refine b_MD_keep_73f ?_
                rw [nI_1]
                refine skip (fun z => ?_)
                have := (ethu v).mpr z.2.1
                exact r v (by omega) rfl this.1 this.2
        have hy : ∀ (x : Int32) (P : Nat → Prop), (∀ q, q < 32 → (bI x q = true ↔ q < w ∧ P q)) → P w → ∀ q, q < 32 → (bI (x ||| ((1 : Int32) <<< (nI w &&& 31))) q = true ↔ q < w + 1 ∧ P q) := fun x P hx hP q hq => by
          rw [f_or _ _ _ (by omega) hq]
          by_cases u : q = w
          · rw [if_pos u, u]; exact ⟨fun _ => ⟨by omega, hP⟩, fun _ => rfl⟩
          · rw [if_neg u, hx q hq]
            constructor
            · rintro ⟨a1, a2⟩; exact ⟨by omega, a2⟩
            · rintro ⟨a1, a2⟩; exact ⟨by omega, a2⟩
        have hy0 : ∀ (x : Int32) (P : Nat → Prop), (∀ q, q < 32 → (bI x q = true ↔ q < w ∧ P q)) → ¬ P w → ∀ q, q < 32 → (bI x q = true ↔ q < w + 1 ∧ P q) := fun x P hx hP q hq => by
          rw [hx q hq]
          constructor
          · rintro ⟨a1, a2⟩; exact ⟨by omega, a2⟩
          · rintro ⟨a1, a2⟩
            refine ⟨?_, a2⟩
            rcases Nat.lt_or_ge q w with r | r
            · exact r
            · rw [show q = w by omega] at a2; exact absurd a2 hP
        have hW0 : ∀ v', v' < 32 → (bI (gI σ1 61 0 w) v' = true ↔ v' < 0 ∧ clM σ v' w) := fun v' hv' => by
          rw [z1, bI_0]; constructor
          · intro z; exact absurd z (by decide)
          · intro z; omega
        refine b_MD_keep_24t ⟨vw, ?_⟩
        rw [ew, E1.1 54 0 w (by decide)]
        refine ⟨fun u => ?_, fun u => ?_⟩
        · exact inn _ x2 (hy x1 _ hx1 hth) (hy0 x2 _ hx2 (fun z => z.2 u)) 0 (by omega) σ1 E1 N1 hW0
        · exact inn _ _ (hy x1 _ hx1 hth) (hy x2 _ hx2 ⟨hth, u⟩) 0 (by omega) σ1 E1 N1 hW0
      · have hno : ¬ thM σ w := fun z => by
          have := (eth w).mpr z
          exact q w (by omega) rfl this.1 this.2
        refine b_MD_keep_24f ?_
        rw [nI_1]
        have hy0 : ∀ (x : Int32) (P : Nat → Prop), (∀ q, q < 32 → (bI x q = true ↔ q < w ∧ P q)) → ¬ P w → ∀ q, q < 32 → (bI x q = true ↔ q < w + 1 ∧ P q) := fun x P hx hP q hq => by
          rw [hx q hq]
          constructor
          · rintro ⟨a1, a2⟩; exact ⟨by omega, a2⟩
          · rintro ⟨a1, a2⟩
            refine ⟨?_, a2⟩
            rcases Nat.lt_or_ge q w with r | r
            · exact r
            · rw [show q = w by omega] at a2; exact absurd a2 hP
        refine ih σ1 x1 x2 _ E1 (hy0 x1 _ hx1 hno) (hy0 x2 _ hx2 (fun z => hno z.1)) (fun p v hp hv32 => ?_)
        rcases Nat.lt_or_ge p w with r | r
        · exact N1 p v r hv32
        · rw [show p = w by omega, z1, bI_0]
          constructor
          · intro z; exact absurd z (by decide)
          · intro z; exact absurd z.2.2.2.1 hno
  refine b_MD_keep_0 ?_
  refine key 0 (by omega) σ 0 0 vU Eqs.rf (fun q _ => ?_) (fun q _ => ?_) (fun p v hp => by omega)
  · rw [bI_0]; constructor
    · intro z; exact absurd z (by decide)
    · intro z; omega
  · rw [bI_0]; constructor
    · intro z; exact absurd z (by decide)
    · intro z; omega
