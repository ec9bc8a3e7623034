/-! contracts: simple of the model -/
def nrM (σ : Mem) (w : Nat) (t : Int) (i j : Nat) : Prop := ∀ k, i < k → k < j → cmL (lnM σ (20 * w + i) (20 * w + j)) (mX σ (20 * w + k)) (mY σ (20 * w + k)) t ≤ 0
theorem nrM1 {σ : Mem} {w : Nat} {t : Int} (i : Nat) : nrM σ w t i (i + 1) := fun k h1 h2 => by omega
theorem mX_eq {ks : List Nat} {σ τ : Mem} (h : Eqs ks σ τ) (hk : 56 ∉ ks) (i : Nat) : mX τ i = mX σ i := by unfold mX; rw [h.1 56 0 i hk]
theorem mY_eq {ks : List Nat} {σ τ : Mem} (h : Eqs ks σ τ) (hk : 57 ∉ ks) (i : Nat) : mY τ i = mY σ i := by unfold mY; rw [h.1 57 0 i hk]
theorem lnM_eq {ks : List Nat} {σ τ : Mem} (h : Eqs ks σ τ) (h3 : 56 ∉ ks) (h4 : 57 ∉ ks) (a b : Nat) : lnM τ a b = lnM σ a b := by unfold lnM; rw [mX_eq h h3, mY_eq h h4, mX_eq h h3, mY_eq h h4]
theorem nrM_eq {ks : List Nat} {σ τ : Mem} {w : Nat} {t : Int} (h : Eqs ks σ τ) (h3 : 56 ∉ ks) (h4 : 57 ∉ ks) : nrM τ w t = nrM σ w t := by
  funext i j
  unfold nrM
  rw [lnM_eq h h3 h4]
  apply propext
  constructor
  · intro z k a b; have := z k a b; rw [mX_eq h h3, mY_eq h h4] at this; exact this
  · intro z k a b; rw [mX_eq h h3, mY_eq h h4]; exact z k a b
theorem c_MisNear {d : Nat} {σ : Mem} {Post : Option AV → Mem → Prop} {w c i j : Nat} {t : Int32} (hw : w < 12) (hc20 : c ≤ 20) (hP : ∀ i, i < c → mP σ (20 * w + i)) (hij : i < j) (hj : j < c) (ht : 0 ≤ t.toInt ∧ t.toInt ≤ 100) (h1 : nrM σ w t.toInt i j → Post (some (vI 1)) σ) (h0 : ¬ nrM σ w t.toInt i j → Post (some (vI 0)) σ) : MM (d + 3) M_MD_isNear [vR 51 0, vI (nI w), vI (nI i), vI (nI j), vI t] σ Post := by
  refine MM.of ok_MD_isNear rfl ?_
  have key : ∀ k, k ≤ j → i < k → (∀ k', i < k' → k' < k → cmL (lnM σ (20 * w + i) (20 * w + j)) (mX σ (20 * w + k')) (mY σ (20 * w + k')) t.toInt ≤ 0) → WS (d + 2 + 1) M_MD_isNear 11 [vR 51 0, vI (nI w), vI (nI i), vI (nI j), vI t, vI (nI (20 * w)), vI (nI k)] [] σ Post := by
    refine upto j ?_ ?_
    · intro _ hk
      exact b_MD_isNear_11 (pk_le j j (fun _ => h1 hk) (fun z => absurd z (Nat.lt_irrefl j)))
    · intro k hk ih hik hh
      refine b_MD_isNear_11 (pk_le j k (fun z => by omega) (fun _ => ?_))
      rw [nI_add, nI_add, nI_add]
      refine c_Mfar (hP k (by omega)) (hP i (by omega)) (hP j hj) ht (fun r hr => ?_)
      have hs : r ≤ 0 ↔ cmL (lnM σ (20 * w + i) (20 * w + j)) (mX σ (20 * w + k)) (mY σ (20 * w + k)) t.toInt ≤ 0 := by
        rw [t_le, t_0, hr]
        exact Int.sign_nonpos_iff
      refine b_MD_isNear_36 ⟨fun z => ?_, fun z => h0 (fun y => z (hs.mpr (y k hik hk)))⟩
      rw [nI_1]
      refine ih (by omega) (fun k' a b => ?_)
      rcases Nat.lt_or_ge k' k with p | p
      · exact hh k' a p
      · rw [show k' = k by omega]; exact hs.mp z
  refine b_MD_isNear_0 ?_
  rw [m20, nI_1]
  exact key (i + 1) (by omega) (by omega) (fun k' a b => by omega)
theorem c_Mputs {d : Nat} {σ : Mem} {Post : Option AV → Mem → Prop} {w k : Nat} {x : Int32} (hw : w < 12) (hk : gI σ 58 0 w = nI k) (h20 : k < 20) (h : Post none (pI (pI σ 59 0 (20 * w + k) x) 58 0 w (nI (k + 1)))) : MM d M_MD_puts [vR 51 0, vI (nI w), vI x] σ Post := by
  refine MM.of ok_MD_puts rfl ?_
  have vw : vp_in (nI w) 12 := vp_n hw (by omega)
  refine b_MD_puts_0 ⟨vw, ?_⟩
  rw [cl_n (by omega), hk, m20, nI_add, cl_n (by omega)]
  refine ⟨vp_n (by omega) (by omega), fun σ1 e1 => ⟨vw, vw, fun σ2 e2 => ?_⟩⟩
  have e : gI σ1 58 0 w = nI k := by rw [e1, gI_pI, if_neg (by omega)]; exact hk
  rw [e, nI_1, e1] at e2
  rw [e2]; exact h
theorem Fw.nx {n : Nat} {nr : Nat → Nat → Prop} {m : Nat → Nat} {i : Nat} (h : Fw n nr m i) : ∃ q, NxS n nr m i q := by
  obtain ⟨j, j1, j2, j3, j4⟩ := h.2
  have key : ∀ e j, j < n → n - j ≤ e → i < j → nr i j → m i = m j + 1 → ∃ q, NxS n nr m i q := by
    intro e
    induction e with
    | zero => intro j a b; omega
    | succ e ih =>
      intro j a b a1 a2 a3
      by_cases z : ∃ j', j < j' ∧ j' < n ∧ nr i j' ∧ m i = m j' + 1
      · obtain ⟨j', z1, z2, z3, z4⟩ := z
        exact ih j' z2 (by omega) (by omega) z3 z4
      · exact ⟨j, a1, a, a2, a3, fun j' z1 z2 z3 z4 => z ⟨j', z1, z2, z3, z4⟩⟩
  exact key (n - j) j j2 (Nat.le_refl _) j1 j3 j4
/-- the least found among the points before j -/
def MF (nr : Nat → Nat → Prop) (m : Nat → Nat) (i j c : Nat) : Prop := (∀ j', i < j' → j' < j → nr i j' → c ≤ m j' + 1) ∧ ((c = 100 ∧ ∀ j', i < j' → j' < j → ¬ nr i j') ∨ ∃ q, i < q ∧ q < j ∧ nr i q ∧ c = m q + 1)
theorem MF.no {nr : Nat → Nat → Prop} {m : Nat → Nat} {i j c : Nat} (h : MF nr m i j c) (hb : m j ≤ 20) (hn : nr i j → c ≤ m j + 1) : MF nr m i (j + 1) c := by
  refine ⟨fun j' a b e => ?_, ?_⟩
  · rcases Nat.lt_or_ge j' j with p | p
    · exact h.1 j' a p e
    · rw [show j' = j by omega] at e ⊢; exact hn e
  · rcases h.2 with ⟨h1, h2⟩ | ⟨q, q1, q2, q3, q4⟩
    · refine Or.inl ⟨h1, fun j' a b e => ?_⟩
      rcases Nat.lt_or_ge j' j with p | p
      · exact h2 j' a p e
      · rw [show j' = j by omega] at e; have := hn e; omega
    · exact Or.inr ⟨q, q1, by omega, q3, q4⟩
theorem MF.take {nr : Nat → Nat → Prop} {m : Nat → Nat} {i j c : Nat} (h : MF nr m i j c) (hij : i < j) (hn : nr i j) (hc : m j + 1 < c) : MF nr m i (j + 1) (m j + 1) := by
  refine ⟨fun j' a b e => ?_, Or.inr ⟨j, hij, by omega, hn, rfl⟩⟩
  rcases Nat.lt_or_ge j' j with p | p
  · have := h.1 j' a p e; omega
  · rw [show j' = j by omega]; exact Nat.le_refl _
theorem MF.done {n : Nat} {nr : Nat → Nat → Prop} {m : Nat → Nat} {i c : Nat} (h : MF nr m i n c) (hi : i + 1 < n) (h1 : nr i (i + 1)) : Fw n nr (setF m i c) i ∧ c ≤ m (i + 1) + 1 := by
  refine ⟨?_, h.1 (i + 1) (by omega) hi h1⟩
  rcases h.2 with ⟨a, b⟩ | ⟨q, q1, q2, q3, q4⟩
  · exact absurd h1 (b (i + 1) (by omega) hi)
  · refine ⟨fun j a b e => ?_, q, q1, q2, q3, ?_⟩
    · rw [setF_s, setF_n m (by omega)]; exact h.1 j a b e
    · rw [setF_s, setF_n m (by omega)]; exact q4
theorem MF.bd {nr : Nat → Nat → Prop} {m : Nat → Nat} {i j c : Nat} (h : MF nr m i j c) (hb : ∀ j', i < j' → j' < j → m j' ≤ 20) : c ≤ 100 := by
  rcases h.2 with ⟨a, b⟩ | ⟨q, q1, q2, q3, q4⟩
  · omega
  · have := hb q q1 q2; omega
/-- a way drawn anew -/
def ThM (σ τ : Mem) (w N : Nat) (f : Nat → Nat) : Prop := Eqs [58, 59, 60] σ τ ∧ (∀ j, j ≠ w → gI τ 58 0 j = gI σ 58 0 j) ∧ gI τ 58 0 w = nI N ∧ (∀ k, k < N → gI τ 59 0 (20 * w + k) = nI (f k)) ∧ ∀ c, ¬ (20 * w ≤ c ∧ c < 20 * w + 20) → gI τ 59 0 c = gI σ 59 0 c
def simM (σ : Mem) (v t : Int32) (j : Nat) : Prop := j < 12 ∧ v = nI j ∧ gI σ 52 0 j ≠ 0 ∧ 0 < ctM σ j ∧ 0 ≤ t.toInt ∧ t.toInt ≤ 100
theorem nI_m2 (e : Nat) : nI (e + 1) - 2 = nI e + (-1) := by
  rw [← nI_1, Int32.sub_eq_add_neg, Int32.add_assoc, show (1 : Int32) + -2 = -1 by decide]
theorem c_Msimple {d : Nat} {σ : Mem} {Post : Option AV → Mem → Prop} {v t : Int32} (hv : AllM σ) (h1 : ∀ (j : Nat) (τ : Mem) (N : Nat) (f : Nat → Nat), simM σ v t j → ThM σ τ j N f → SmO (ctM σ j) (nrM σ j t.toInt) N f → Post (some (vI (nI N))) τ) (h0 : (∀ j, ¬ simM σ v t j) → Post (some (vI (-1))) σ) : MM (d + 4) M_MD_simple [vR 51 0, vI v, vI t] σ Post := by
  refine MM.of ok_MD_simple rfl ?_
  refine b_MD_simple_0 ?_
  refine c_MisWay (fun w hw ew qw => ?_) (fun q => b_MD_simple_5f (h0 (fun j z => z.2.2.1 (q j (by have := z.1; omega) z.2.1))))
  subst ew
  have vw : vp_in (nI w) 12 := vp_n (by omega) (by omega)
  have e_w : (nI w).toNatClampNeg = w := cl_n (by omega)
  obtain ⟨g1, g2, hc20, hsc, hP, hnum⟩ := hv w (by omega)
  have inj : ∀ j, nI w = nI j → j < 12 → j = w := fun j a b => ((nI_eq (by omega) (by omega)).mp a).symm
  refine b_MD_simple_5t ⟨vw, ?_⟩
  rw [e_w, g1]
  refine pk_eq (ctM σ w) 0 (fun z => h0 (fun j y => ?_)) (fun c0 => ?_)
  · have := inj j y.2.1 y.1
    subst this
    have := y.2.2.2.1
    omega
  refine c_MisIn (fun q1 q2 => ?_) (fun q => b_MD_simple_24f (h0 (fun j y => q (by rw [t_0, t_100]; exact y.2.2.2.2))))
  rw [t_0] at q1
  rw [t_100] at q2
  have hO : simM σ (nI w) t w := ⟨by omega, rfl, qw, by omega, q1, q2⟩
  have h1' := h1 w
  generalize ctM σ w = c at *
  -- the second pass
  have out : ∀ (m : Nat → Nat) (τ0 : Mem) (v5 : AV), Eqs [60] σ τ0 → (∀ j, j < c → gI τ0 60 0 j = nI (m j)) → FwA c (nrM σ w t.toInt) m → ∀ σ1 : Mem, σ1 = pI τ0 58 0 w 0 → WS (d + 3 + 1) M_MD_simple 146 [vR 51 0, vI (nI w), vI t, vI (nI c), vI (0 : Int32), v5] [] σ1 Post := by
    intro m τ0 v5 hE hm hA σ1 e1
    have hbd := hA.bd nrM1
    have hN := hbd 0 (by omega)
    have E1 : Eqs [58, 59, 60] σ σ1 := by rw [e1]; exact (hE.mono (by decide)).pI (by decide)
    have key : ∀ e cur k, cur + e + 1 = c → ∀ (τ : Mem) (v5 : AV) (f : Nat → Nat), Eqs [58, 59] σ1 τ → (∀ j, j ≠ w → gI τ 58 0 j = gI σ 58 0 j) → gI τ 58 0 w = nI k → (∀ k', k' < k → gI τ 59 0 (20 * w + k') = nI (f k')) → (∀ x, ¬ (20 * w ≤ x ∧ x < 20 * w + 20) → gI τ 59 0 x = gI σ 59 0 x) → f 0 = 0 → f k = cur → (∀ k', k' < k → NxS c (nrM σ w t.toInt) m (f k') (f (k' + 1))) → WS (d + 3 + 1) M_MD_simple 146 [vR 51 0, vI (nI w), vI t, vI (nI c), vI (nI cur), v5] [] τ Post := by
      intro e
      induction e using Nat.strongRecOn with
      | ind e ih =>
        intro cur k hce τ v5 f hT ho hk hf hx f0 fk hS
        have hmk := wlk f0 hS
        rw [fk] at hmk
        have hb := hbd cur (by omega)
        have ec : nI c - 1 = nI (c - 1) := by rw [show nI c = nI (c - 1 + 1) from congrArg nI (by omega), nI_pred]
        have E2 : Eqs [58, 59, 60] σ τ := E1.tr (hT.mono (by decide))
        refine b_MD_simple_146 ?_
        rw [ec]
        refine pk_le (c - 1) cur (fun z => ?_) (fun z => ?_)
        · have hcur : cur = c - 1 := by omega
          refine c_Mputs (by omega) hk (by omega) ?_
          refine b_MD_simple_219 ⟨vw, ?_⟩
          rw [e_w, gI_pI, if_pos ⟨rfl, rfl, rfl⟩]
          have ek : k + 1 = m 0 := by rw [hcur, hA.1] at hmk; omega
          refine h1' _ (k + 1) f hO ⟨(E2.pI (by decide)).pI (by decide), fun j hj => ?_, ?_, fun k' hk' => ?_, fun x hx' => ?_⟩ ⟨m, hA, ek, f0, fun k' hk' => hS k' (by omega)⟩
          · rw [gI_pI, if_neg (by omega), gI_pI, if_neg (by omega)]; exact ho j hj
          · rw [gI_pI, if_pos ⟨rfl, rfl, rfl⟩]
          · rw [gI_pI, if_neg (by omega), gI_pI]
            by_cases y : k' = k
            · rw [if_pos ⟨rfl, rfl, by omega⟩, y, fk, hcur]
            · rw [if_neg (by omega)]; exact hf k' (by omega)
          · rw [gI_pI, if_neg (by omega), gI_pI, if_neg (by omega)]; exact hx x hx'
        · refine c_Mputs (by omega) hk (by omega) ?_
          refine b_MD_simple_161 ?_
          rw [ec]
          obtain ⟨q, hq⟩ := (hA.2 cur (by omega)).nx
          obtain ⟨τ', et⟩ : ∃ z, z = pI (pI τ 59 0 (20 * w + k) (nI cur)) 58 0 w (nI (k + 1)) := ⟨_, rfl⟩
          rw [← et]
          have T' : Eqs [58, 59] σ1 τ' := by rw [et]; exact (hT.pI (by decide)).pI (by decide)
          have E3 : Eqs [58, 59, 60] σ τ' := E1.tr (T'.mono (by decide))
          have e60 : ∀ j, j < c → gI τ' 60 0 j = nI (m j) := fun j hj => by rw [T'.1 60 0 j (by decide), e1, gI_pI, if_neg (by omega)]; exact hm j hj
          have inn : ∀ y, q + y < c → WS (d + 3 + 1) M_MD_simple 166 [vR 51 0, vI (nI w), vI t, vI (nI c), vI (nI cur), vI (nI (q + y))] [] τ' Post := by
            intro y
            have hP3 : ∀ i, i < c → mP τ' (20 * w + i) := fun i hi => by
              have := hP i hi
              unfold mP at this ⊢
              rw [mX_eq E3 (by decide), mY_eq E3 (by decide)]; exact this
            have enr : nrM τ' w t.toInt = nrM σ w t.toInt := nrM_eq E3 (by decide) (by decide)
            have hqb := hbd q hq.2.1
            induction y with
            | zero =>
              intro _
              show WS (d + 3 + 1) M_MD_simple 166 [vR 51 0, vI (nI w), vI t, vI (nI c), vI (nI cur), vI (nI q)] [] τ' Post
              refine b_MD_simple_166 ⟨vp_n (by have := hq.2.1; omega) (by omega), vp_n (by omega) (by omega), ?_⟩
              rw [cl_n (by have := hq.2.1; omega), cl_n (by omega), e60 q hq.2.1, e60 cur (by omega), nI_1]
              refine pk_eq (m q + 1) (m cur) (fun _ => ?_) (fun y => absurd hq.2.2.2.1.symm y)
              refine c_MisNear (by omega) hc20 hP3 hq.1 hq.2.1 ⟨q1, q2⟩ (fun _ => ?_) (fun y => absurd (by rw [enr]; exact hq.2.2.1) y)
              refine b_MD_simple_195t ?_
              have q12 := hq.1
              have q22 := hq.2.1
              refine ih (c - 1 - q) (by omega) q (k + 1) (by omega) τ' _ (setF f (k + 1) q) T' (fun j hj => ?_) (by rw [et, gI_pI, if_pos ⟨rfl, rfl, rfl⟩]) (fun k' hk' => ?_) (fun x hx' => ?_) (by rw [setF_n f (by omega)]; exact f0) (setF_s _ _ _) (fun k' hk' => ?_)
              · rw [et, gI_pI, if_neg (by omega), gI_pI, if_neg (by omega)]; exact ho j hj
              · rw [setF_n f (by omega), et, gI_pI, if_neg (by omega), gI_pI]
                by_cases y : k' = k
                · rw [if_pos ⟨rfl, rfl, by omega⟩, y, fk]
                · rw [if_neg (by omega)]; exact hf k' (by omega)
              · rw [et, gI_pI, if_neg (by omega), gI_pI, if_neg (by omega)]; exact hx x hx'
              · rcases Nat.lt_or_ge k' k with p | p
                · rw [setF_n f (by omega), setF_n f (by omega)]; exact hS k' p
                · rw [show k' = k by omega, setF_n f (by omega), setF_s, fk]; exact hq
            | succ y ihy =>
              intro hy
              have q12 := hq.1
              have back : WS (d + 3 + 1) M_MD_simple 166 [vR 51 0, vI (nI w), vI t, vI (nI c), vI (nI cur), vI (nI (q + (y + 1)) + (-1))] [] τ' Post := by
                rw [show q + (y + 1) = q + y + 1 from rfl, pk_m1]; exact ihy (by omega)
              have hby := hbd (q + (y + 1)) hy
              refine b_MD_simple_166 ⟨vp_n (by omega) (by omega), vp_n (by omega) (by omega), ?_⟩
              rw [cl_n (by omega), cl_n (by omega), e60 _ hy, e60 cur (by omega), nI_1]
              refine pk_eq (m (q + (y + 1)) + 1) (m cur) (fun z => ?_) (fun _ => back)
              refine c_MisNear (by omega) hc20 hP3 (by omega) hy ⟨q1, q2⟩ (fun u => ?_) (fun _ => b_MD_simple_195f back)
              rw [enr] at u
              exact absurd z.symm (hq.2.2.2.2 _ (by omega) hy u)
          have q22 := hq.2.1
          have := inn (c - 1 - q) (by omega)
          rw [show q + (c - 1 - q) = c - 1 by omega] at this
          exact this
    exact key (c - 1) 0 0 (by omega) σ1 v5 (fun _ => 0) Eqs.rf (fun j hj => by rw [e1, gI_pI, if_neg (by omega)]; exact hE.1 58 0 j (by decide)) (by rw [e1, gI_pI, if_pos ⟨rfl, rfl, rfl⟩]; rfl) (fun k' hk => by omega) (fun x _ => by rw [e1, gI_pI, if_neg (by omega)]; exact hE.1 59 0 x (by decide)) rfl rfl (fun k' hk => by omega)
  have key : ∀ i, i + 1 ≤ c → ∀ (τ : Mem) (m : Nat → Nat) (v5 : AV), Eqs [60] σ τ → (∀ j, i ≤ j → j < c → gI τ 60 0 j = nI (m j)) → m (c - 1) = 1 → (∀ j, i ≤ j → j < c → m j ≤ c - j) → (∀ j, i ≤ j → j + 1 < c → Fw c (nrM σ w t.toInt) m j) → WS (d + 3 + 1) M_MD_simple 50 [vR 51 0, vI (nI w), vI t, vI (nI c), vI (nI i + (-1)), v5] [] τ Post := by
    intro i
    induction i with
    | zero =>
      intro _ τ m v5 hE hm h1c hb hj
      refine b_MD_simple_50 ⟨fun _ => ⟨vw, fun σ1 e1 => ?_⟩, fun z => absurd (by decide) z⟩
      rw [e_w] at e1
      exact out m τ v5 hE (fun j hjc => hm j (Nat.zero_le j) hjc) ⟨h1c, fun j hjc => hj j (Nat.zero_le j) hjc⟩ σ1 e1
    | succ i ih =>
      intro hi τ m v5 hE hm h1c hb hj
      rw [pk_m1]
      have vi : vp_in (nI i) 20 := vp_n (by omega) (by omega)
      have ei : (nI i).toNatClampNeg = i := cl_n (by omega)
      refine b_MD_simple_50 (pk_lt i 0 (fun z => by omega) (fun _ => ⟨vi, fun σ2 e2 => ?_⟩))
      rw [ei] at e2
      rw [nI_1]
      have E2 : Eqs [60] σ σ2 := by rw [e2]; exact hE.pI (by decide)
      have inn : ∀ j, j ≤ c → i < j → ∀ (υ : Mem) (e : Nat), Eqs [60] σ υ → (∀ j, j ≠ i → gI υ 60 0 j = gI τ 60 0 j) → gI υ 60 0 i = nI e → MF (nrM σ w t.toInt) m i j e → WS (d + 3 + 1) M_MD_simple 70 [vR 51 0, vI (nI w), vI t, vI (nI c), vI (nI i), vI (nI j)] [] υ Post := by
        refine upto c ?_ ?_
        · intro _ υ e hU ho he hF
          refine b_MD_simple_70 (pk_le c c (fun _ => ?_) (fun z => absurd z (Nat.lt_irrefl c)))
          obtain ⟨a1, a2⟩ := hF.done (by omega) (nrM1 i)
          have hb1 := hb (i + 1) (by omega) (by omega)
          refine ih (by omega) υ (setF m i e) _ hU (fun j a b => ?_) (by rw [setF_n m (by omega)]; exact h1c) (fun j a b => ?_) (fun j a b => ?_)
          · by_cases z : j = i
            · subst z; rw [setF_s]; exact he
            · rw [setF_n m z, ho j z]; exact hm j (by omega) b
          · by_cases z : j = i
            · subst z; rw [setF_s]; omega
            · rw [setF_n m z]; exact hb j (by omega) b
          · by_cases z : j = i
            · subst z; exact a1
            · exact (hj j (by omega) b).cg (fun x hx => setF_n m (by omega))
        · intro j hjc ihj hij υ e hU ho he hF
          have hbj := hb j (by omega) hjc
          have eb := hF.bd (fun j' a b => by have := hb j' (by omega) (by omega); omega)
          have ej : gI υ 60 0 j = nI (m j) := (ho j (by omega)).trans (hm j (by omega) hjc)
          refine b_MD_simple_70 (pk_le c j (fun z => by omega) (fun _ => ⟨vp_n (by omega) (by omega), vi, ?_⟩))
          rw [ei, cl_n (by omega), he, ej, nI_1, nI_1]
          refine pk_le e (m j + 1) (fun z => ?_) (fun z => ?_)
          · exact ihj (by omega) υ e hU ho he (hF.no (by omega) (fun _ => z))
          · have hP2 : ∀ i, i < c → mP υ (20 * w + i) := fun i hi => by
              have := hP i hi
              unfold mP at this ⊢
              rw [mX_eq hU (by decide), mY_eq hU (by decide)]; exact this
            have enr : nrM υ w t.toInt = nrM σ w t.toInt := nrM_eq hU (by decide) (by decide)
            refine c_MisNear (by omega) hc20 hP2 hij hjc ⟨q1, q2⟩ (fun u => ?_) (fun u => ?_)
            · rw [enr] at u
              refine b_MD_simple_105t ⟨vp_n (by omega) (by omega), vi, fun σ3 e3 => ?_⟩
              rw [ei, cl_n (by omega), ej, nI_1] at e3
              rw [nI_1]
              exact ihj (by omega) σ3 (m j + 1) (by rw [e3]; exact hU.pI (by decide)) (fun j' hj' => by rw [e3, gI_pI, if_neg (by omega)]; exact ho j' hj') (by rw [e3, gI_pI, if_pos ⟨rfl, rfl, rfl⟩]) (hF.take hij u z)
            · rw [enr] at u
              refine b_MD_simple_105f ?_
              rw [nI_1]
              exact ihj (by omega) υ e hU ho he (hF.no (by omega) (fun y => absurd y u))
      exact inn (i + 1) (by omega) (by omega) σ2 100 E2 (fun j hj' => by rw [e2, gI_pI, if_neg (by omega)]) (by rw [e2, gI_pI, if_pos ⟨rfl, rfl, rfl⟩]; rfl) ⟨fun j' a b => by omega, Or.inl ⟨rfl, fun j' a b => by omega⟩⟩
  refine b_MD_simple_24t ⟨vw, ?_⟩
  rw [e_w, g1]
  obtain ⟨e, rfl⟩ : ∃ e, c = e + 1 := ⟨c - 1, by omega⟩
  rw [nI_pred, cl_n (by omega), nI_m2]
  refine ⟨vp_n (by omega) (by omega), fun σ1 e1 => ?_⟩
  refine key e (by omega) σ1 (fun _ => 1) vU (by rw [e1]; exact Eqs.rf.pI (by decide)) (fun j a b => ?_) rfl (fun j a b => by omega) (fun j a b => by omega)
  rw [show j = e by omega, e1, gI_pI, if_pos ⟨rfl, rfl, rfl⟩]
  rfl
