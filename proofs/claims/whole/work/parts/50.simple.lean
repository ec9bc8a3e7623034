/-! simple: the pure side and the class -/
def Fw (n : Nat) (nr : Nat → Nat → Prop) (m : Nat → Nat) (i : Nat) : Prop := (∀ j, i < j → j < n → nr i j → m i ≤ m j + 1) ∧ ∃ j, i < j ∧ j < n ∧ nr i j ∧ m i = m j + 1
def FwA (n : Nat) (nr : Nat → Nat → Prop) (m : Nat → Nat) : Prop := m (n - 1) = 1 ∧ ∀ i, i + 1 < n → Fw n nr m i
def NxS (n : Nat) (nr : Nat → Nat → Prop) (m : Nat → Nat) (i j : Nat) : Prop := i < j ∧ j < n ∧ nr i j ∧ m i = m j + 1 ∧ ∀ j', j < j' → j' < n → nr i j' → m i ≠ m j' + 1
def SmO (n : Nat) (nr : Nat → Nat → Prop) (N : Nat) (f : Nat → Nat) : Prop := ∃ m : Nat → Nat, FwA n nr m ∧ N = m 0 ∧ f 0 = 0 ∧ ∀ k, k + 1 < N → NxS n nr m (f k) (f (k + 1))
theorem FwA.uni {n : Nat} {nr : Nat → Nat → Prop} {m m' : Nat → Nat} (h : FwA n nr m) (h' : FwA n nr m') : ∀ i, i < n → m i = m' i := by
  have key : ∀ e i, i < n → n - i ≤ e → m i = m' i := by
    intro e
    induction e with
    | zero => intro i h1 h2; omega
    | succ e ih =>
      intro i h1 h2
      rcases Nat.lt_or_ge (i + 1) n with q | q
      · have a := h.2 i q
        have a' := h'.2 i q
        obtain ⟨j, j1, j2, j3, j4⟩ := a.2
        obtain ⟨k, k1, k2, k3, k4⟩ := a'.2
        have e1 := a'.1 j j1 j2 j3
        have e2 := a.1 k k1 k2 k3
        have e3 := ih j j2 (by omega)
        have e4 := ih k k2 (by omega)
        omega
      · rw [show i = n - 1 by omega, h.1, h'.1]
  exact fun i hi => key (n - i) i hi (Nat.le_refl _)
theorem NxS.uni {n : Nat} {nr : Nat → Nat → Prop} {m m' : Nat → Nat} {i j j' : Nat} (hm : ∀ i, i < n → m i = m' i) (h : NxS n nr m i j) (h' : NxS n nr m' i j') : j = j' := by
  obtain ⟨a1, a2, a3, a4, a5⟩ := h
  obtain ⟨b1, b2, b3, b4, b5⟩ := h'
  rcases Nat.lt_trichotomy j j' with q | q | q
  · exact absurd (by rw [hm i (by omega), hm j' b2]; exact b4) (a5 j' q b2 b3)
  · exact q
  · exact absurd (by rw [← hm i (by omega), ← hm j a2]; exact a4) (b5 j q a2 a3)
theorem SmO.uni {n : Nat} {nr : Nat → Nat → Prop} {N N' : Nat} {f f' : Nat → Nat} (hn : 0 < n) (h : SmO n nr N f) (h' : SmO n nr N' f') : N = N' ∧ ∀ k, k < N → f k = f' k := by
  obtain ⟨m, h1, h2, h3, h4⟩ := h
  obtain ⟨m', g1, g2, g3, g4⟩ := h'
  have hm := FwA.uni h1 g1
  have eN : N = N' := by rw [h2, g2, hm 0 hn]
  subst eN
  refine ⟨rfl, fun k => ?_⟩
  induction k with
  | zero => intro _; rw [h3, g3]
  | succ k ih =>
    intro hk
    have a := h4 k hk
    have b := g4 k hk
    rw [← ih (by omega)] at b
    exact NxS.uni hm a b
theorem SmO.congr {n : Nat} {nr nr' : Nat → Nat → Prop} {N : Nat} {f f' : Nat → Nat} (h : SmO n nr N f) (he : ∀ i j, i < j → j < n → (nr i j ↔ nr' i j)) (hf : ∀ k, k < N → f k = f' k) (hN : 0 < N) : SmO n nr' N f' := by
  obtain ⟨m, h1, h2, h3, h4⟩ := h
  refine ⟨m, ⟨h1.1, fun i hi => ⟨fun j j1 j2 j3 => (h1.2 i hi).1 j j1 j2 ((he i j j1 j2).mpr j3), ?_⟩⟩, h2, by rw [← hf 0 hN]; exact h3, fun k hk => ?_⟩
  · obtain ⟨j, j1, j2, j3, j4⟩ := (h1.2 i hi).2
    exact ⟨j, j1, j2, (he i j j1 j2).mp j3, j4⟩
  · obtain ⟨a1, a2, a3, a4, a5⟩ := h4 k hk
    rw [← hf k (by omega), ← hf (k + 1) hk]
    exact ⟨a1, a2, (he _ _ a1 a2).mp a3, a4, fun j' b1 b2 b3 => a5 j' b1 b2 ((he _ _ (by omega) b2).mpr b3)⟩
theorem FwA.bd {n : Nat} {nr : Nat → Nat → Prop} {m : Nat → Nat} (h : FwA n nr m) (hn : ∀ i, nr i (i + 1)) : ∀ i, i < n → 1 ≤ m i ∧ m i ≤ n - i := by
  have key : ∀ e i, i < n → n - i ≤ e → 1 ≤ m i ∧ m i ≤ n - i := by
    intro e
    induction e with
    | zero => intro i h1 h2; omega
    | succ e ih =>
      intro i h1 h2
      rcases Nat.lt_or_ge (i + 1) n with q | q
      · have a := (h.2 i q).1 (i + 1) (by omega) q (hn i)
        have b := ih (i + 1) q (by omega)
        obtain ⟨j, j1, j2, j3, j4⟩ := (h.2 i q).2
        omega
      · rw [show i = n - 1 by omega, h.1]; omega
  exact fun i hi => key (n - i) i hi (Nat.le_refl _)
/-- the walk goes down by one a step, and ends at the last point -/
theorem SmO.bd {n : Nat} {nr : Nat → Nat → Prop} {N : Nat} {f : Nat → Nat} (hn : 0 < n) (h1n : ∀ i, nr i (i + 1)) (h : SmO n nr N f) : 1 ≤ N ∧ N ≤ n ∧ ∀ k, k < N → f k < n := by
  obtain ⟨m, h1, h2, h3, h4⟩ := h
  have b := h1.bd h1n 0 hn
  refine ⟨by omega, by omega, fun k hk => ?_⟩
  match k, hk with
  | 0, _ => rw [h3]; exact hn
  | k + 1, hk => exact (h4 k hk).2.1
theorem wlk {n : Nat} {nr : Nat → Nat → Prop} {m f : Nat → Nat} {k : Nat} (h0 : f 0 = 0) (h : ∀ k', k' < k → NxS n nr m (f k') (f (k' + 1))) : m (f k) + k = m 0 := by
  induction k with
  | zero => rw [h0]; rfl
  | succ k ih =>
    have a := ih (fun k' hk => h k' (by omega))
    have b := (h k (by omega)).2.2.2.1
    omega
theorem Fw.cg {n : Nat} {nr : Nat → Nat → Prop} {m m' : Nat → Nat} {i : Nat} (h : Fw n nr m i) (e : ∀ x, i ≤ x → m' x = m x) : Fw n nr m' i := by
  refine ⟨fun j a b c => by rw [e i (Nat.le_refl i), e j (by omega)]; exact h.1 j a b c, ?_⟩
  obtain ⟨j, a, b, c, z⟩ := h.2
  exact ⟨j, a, b, c, by rw [e i (Nat.le_refl i), e j (by omega)]; exact z⟩
theorem NxS.cg {n : Nat} {nr : Nat → Nat → Prop} {m m' : Nat → Nat} {i j : Nat} (h : NxS n nr m i j) (e : ∀ x, i ≤ x → m' x = m x) : NxS n nr m' i j := by
  obtain ⟨a1, a2, a3, a4, a5⟩ := h
  exact ⟨a1, a2, a3, by rw [e i (Nat.le_refl i), e j (by omega)]; exact a4, fun j' b1 b2 b3 => by rw [e i (Nat.le_refl i), e j' (by omega)]; exact a5 j' b1 b2 b3⟩
def nrW (σ : Mem) (w : Nat) (t : Int) (i j : Nat) : Prop := ∀ k, i < k → k < j → cmL (spn σ w i j) (px σ w k) (py σ w k) t ≤ 0
theorem nrW1 {σ : Mem} {w : Nat} {t : Int} (i : Nat) : nrW σ w t i (i + 1) := fun k h1 h2 => by omega
theorem nrW_eq {ks : List Nat} {σ τ : Mem} {w : Nat} {t : Int} (h : Eqs ks σ τ) (h3 : 3 ∉ ks) (h4 : 4 ∉ ks) : nrW τ w t = nrW σ w t := by
  funext i j
  unfold nrW
  rw [spn_eq h h3 h4]
  apply propext
  constructor
  · intro z k a b; have := z k a b; rw [px_eq h h3, py_eq h h4] at this; exact this
  · intro z k a b; rw [px_eq h h3, py_eq h h4]; exact z k a b
theorem c_spares {d : Nat} {σ : Mem} {Post : Option AV → Mem → Prop} {w c s i j : Nat} {t : Int32} (hv : WayV σ w c s) (hij : i < j) (hj : j < c) (ht : 0 ≤ t.toInt ∧ t.toInt ≤ 100) (h1 : ∀ τ : Mem, Eqs [11] σ τ → nrW σ w t.toInt i j → Post (some (vI 1)) τ) (h0 : ∀ τ : Mem, Eqs [11] σ τ → ¬ nrW σ w t.toInt i j → Post (some (vI 0)) τ) : MM (d + 2) M_Ruler_spares [vR 10 0, vR 2 w, vI (nI i), vI (nI j), vI t] σ Post := by
  have hc20 := hv.2.2.1
  have hco := hv.2.2.2.2.1
  refine MM.of ok_Ruler_spares rfl ?_
  refine b_Ruler_spares_0 ?_
  refine c_bringSpan (Or.inl rfl) (vp_n (by omega) (by omega)) (vp_n (by omega) (by omega)) (fun τ hE hl => ?_)
  rw [cl_n (by omega), cl_n (by omega)] at hl
  have key : ∀ k, k ≤ j → i < k → (∀ k', i < k' → k' < k → cmL (spn σ w i j) (px σ w k') (py σ w k') t.toInt ≤ 0) → WS (d + 1 + 1) M_Ruler_spares 15 [vR 10 0, vR 2 w, vI (nI i), vI (nI j), vI t, vI (nI k)] [] τ Post := by
    refine upto j ?_ ?_
    · intro _ hk
      exact b_Ruler_spares_15 (pk_le j j (fun _ => h1 τ hE hk) (fun z => absurd z (Nat.lt_irrefl j)))
    · intro k hk ih hik hh
      have vk : vp_in (nI k) 20 := vp_n (by omega) (by omega)
      refine b_Ruler_spares_15 (pk_le j k (fun z => by omega) (fun _ => ⟨vk, vk, ?_⟩))
      rw [cl_n (by omega), hE.1 3 w k (by decide), hE.1 4 w k (by decide)]
      have ck := hco k (by omega)
      refine c_compareMiss ck.1 ck.2 (Or.inl rfl) (by rw [hl]; exact ⟨(hco i (by omega)).1, (hco i (by omega)).2, (hco j hj).1, (hco j hj).2⟩) ht (fun r hr => ?_)
      rw [hl] at hr
      have hs : r ≤ 0 ↔ cmL (spn σ w i j) (px σ w k) (py σ w k) t.toInt ≤ 0 := by
        rw [t_le, t_0, hr]
        have a := Int.sign_nonpos_iff (x := cmL (spn σ w i j) (gI σ 3 w k).toInt (gI σ 4 w k).toInt t.toInt)
        exact a
      refine b_Ruler_spares_44 ⟨fun z => ?_, fun z => h0 τ hE (fun y => z (hs.mpr (y k hik hk)))⟩
      rw [nI_1]
      refine ih (by omega) (fun k' a b => ?_)
      rcases Nat.lt_or_ge k' k with p | p
      · exact hh k' a p
      · rw [show k' = k by omega]; exact hs.mp z
  refine b_Ruler_spares_10 ?_
  rw [nI_1]
  exact key (i + 1) (by omega) (by omega) (fun k' a b => by omega)
/-- the next point found among those before j -/
def FN (nr : Nat → Nat → Prop) (m : Nat → Nat) (i j c : Nat) (x : Int32) : Prop := (∀ j', i < j' → j' < j → nr i j' → c ≤ m j' + 1) ∧ ((c = 21 ∧ ∀ j', i < j' → j' < j → ¬ nr i j') ∨ ∃ q, i < q ∧ q < j ∧ nr i q ∧ c = m q + 1 ∧ x = nI q ∧ ∀ j', q < j' → j' < j → nr i j' → c ≠ m j' + 1)
theorem FN.no {nr : Nat → Nat → Prop} {m : Nat → Nat} {i j c : Nat} {x : Int32} (h : FN nr m i j c x) (hb : m j ≤ 20) (hn : nr i j → c < m j + 1) : FN nr m i (j + 1) c x := by
  refine ⟨fun j' a b e => ?_, ?_⟩
  · rcases Nat.lt_or_ge j' j with p | p
    · exact h.1 j' a p e
    · rw [show j' = j by omega] at e ⊢; have := hn e; omega
  · rcases h.2 with ⟨h1, h2⟩ | ⟨q, q1, q2, q3, q4, q5, q6⟩
    · refine Or.inl ⟨h1, fun j' a b e => ?_⟩
      rcases Nat.lt_or_ge j' j with p | p
      · exact h2 j' a p e
      · rw [show j' = j by omega] at e; have := hn e; omega
    · refine Or.inr ⟨q, q1, by omega, q3, q4, q5, fun j' a b e => ?_⟩
      rcases Nat.lt_or_ge j' j with p | p
      · exact q6 j' a p e
      · rw [show j' = j by omega] at e ⊢; have := hn e; omega
theorem FN.take {nr : Nat → Nat → Prop} {m : Nat → Nat} {i j c : Nat} {x : Int32} (h : FN nr m i j c x) (hij : i < j) (hn : nr i j) (hc : m j + 1 ≤ c) : FN nr m i (j + 1) (m j + 1) (nI j) := by
  refine ⟨fun j' a b e => ?_, Or.inr ⟨j, hij, by omega, hn, rfl, rfl, fun j' a b => by omega⟩⟩
  rcases Nat.lt_or_ge j' j with p | p
  · have := h.1 j' a p e; omega
  · rw [show j' = j by omega]; exact Nat.le_refl _
theorem FN.done {n : Nat} {nr : Nat → Nat → Prop} {m : Nat → Nat} {i c : Nat} {x : Int32} (h : FN nr m i n c x) (hi : i + 1 < n) (h1 : nr i (i + 1)) : ∃ q, x = nI q ∧ c = m q + 1 ∧ Fw n nr (setF m i c) i ∧ NxS n nr (setF m i c) i q := by
  rcases h.2 with ⟨a, b⟩ | ⟨q, q1, q2, q3, q4, q5, q6⟩
  · exact absurd h1 (b (i + 1) (by omega) hi)
  · refine ⟨q, q5, q4, ⟨fun j a b e => ?_, q, q1, q2, q3, ?_⟩, q1, q2, q3, ?_, fun j' a b e => ?_⟩
    · rw [setF_s, setF_n m (by omega)]; exact h.1 j a b e
    · rw [setF_s, setF_n m (by omega)]; exact q4
    · rw [setF_s, setF_n m (by omega)]; exact q4
    · rw [setF_s, setF_n m (by omega)]; exact q6 j' a b e
theorem FN.bd {nr : Nat → Nat → Prop} {m : Nat → Nat} {i j c : Nat} {x : Int32} (h : FN nr m i j c x) (hb : ∀ j', i < j' → j' < j → m j' ≤ 20) : c ≤ 21 := by
  rcases h.2 with ⟨a, b⟩ | ⟨q, q1, q2, q3, q4, q5, q6⟩
  · omega
  · have := hb q q1 q2; omega
theorem c_findNext {d : Nat} {σ : Mem} {Post : Option AV → Mem → Prop} {w c s i : Nat} {t : Int32} {m : Nat → Nat} (hv : WayV σ w c s) (hi : i + 1 < c) (ht : 0 ≤ t.toInt ∧ t.toInt ≤ 100) (hm : ∀ j, i < j → j < c → gI σ 13 0 j = nI (m j) ∧ m j ≤ 20) (h : ∀ (τ : Mem) (e q : Nat), Eqs [11, 13, 14] σ τ → (∀ j, j ≠ i → gI τ 13 0 j = gI σ 13 0 j ∧ gI τ 14 0 j = gI σ 14 0 j) → gI τ 13 0 i = nI e → gI τ 14 0 i = nI q → e = m q + 1 → i < q → q < c → Fw c (nrW σ w t.toInt) (setF m i e) i → NxS c (nrW σ w t.toInt) (setF m i e) i q → Post none τ) : MM (d + 3) M_Ruler_findNext [vR 10 0, vR 2 w, vI (nI i), vI t] σ Post := by
  have hc20 := hv.2.2.1
  have vi : vp_in (nI i) 20 := vp_n (by omega) (by omega)
  have ei : (nI i).toNatClampNeg = i := cl_n (by omega)
  refine MM.of ok_Ruler_findNext rfl ?_
  have key : ∀ j, j ≤ c → i < j → ∀ (τ : Mem) (e : Nat) (x : Int32), Eqs [11, 13, 14] σ τ → (∀ j, j ≠ i → gI τ 13 0 j = gI σ 13 0 j ∧ gI τ 14 0 j = gI σ 14 0 j) → gI τ 13 0 i = nI e → gI τ 14 0 i = x → FN (nrW σ w t.toInt) m i j e x → WS (d + 2 + 1) M_Ruler_findNext 13 [vR 10 0, vR 2 w, vI (nI i), vI t, vI (nI j)] [] τ Post := by
    refine upto c ?_ ?_
    · intro _ τ e x hE ho he hx hF
      refine b_Ruler_findNext_13 ?_
      rw [hE.1 2 w 3 (by decide), hv.1]
      refine pk_le c c (fun _ => ?_) (fun z => absurd z (Nat.lt_irrefl c))
      obtain ⟨q, q1, q2, q3, q4⟩ := hF.done hi (nrW1 i)
      exact h τ e q hE ho he (hx.trans q1) q2 q4.1 q4.2.1 q3 q4
    · intro j hj ih hij τ e x hE ho he hx hF
      have vj : vp_in (nI j) 20 := vp_n (by omega) (by omega)
      have ej : (nI j).toNatClampNeg = j := cl_n (by omega)
      have hmj := hm j hij hj
      have e13 : gI τ 13 0 j = nI (m j) := (ho j (by omega)).1.trans hmj.1
      have eb := hF.bd (fun j' a b => (hm j' a (by omega)).2)
      refine b_Ruler_findNext_13 ?_
      rw [hE.1 2 w 3 (by decide), hv.1, ei, ej, he, e13, nI_1, nI_1]
      refine pk_le c j (fun z => by omega) (fun _ => ⟨vj, vi, pk_lt e (m j + 1) (fun z => ?_) (fun z => ?_)⟩)
      · exact ih (by omega) τ e x hE ho he hx (hF.no hmj.2 (fun _ => z))
      · refine c_spares (hv.eq hE (by decide) (by decide) (by decide) (by decide)) hij hj ht (fun υ hU hn => ?_) (fun υ hU hn => ?_)
        · rw [nrW_eq hE (by decide) (by decide)] at hn
          refine b_Ruler_findNext_49t ⟨vj, vi, fun σ1 e1 => ⟨vi, fun σ2 e2 => ?_⟩⟩
          rw [ei, ej, hU.1 13 0 j (by decide), e13, nI_1] at e1
          rw [ei] at e2
          rw [nI_1]
          have E2 : Eqs [11, 13, 14] σ σ2 := by rw [e2, e1]; exact ((hE.tr (hU.mono (by decide))).pI (by decide)).pI (by decide)
          refine ih (by omega) σ2 (m j + 1) (nI j) E2 (fun j' hj' => ?_) ?_ ?_ (hF.take hij hn z)
          · rw [e2, gI_pI, if_neg (by omega), gI_pI, if_neg (by omega), e1, gI_pI, if_neg (by omega), gI_pI, if_neg (by omega), hU.1 13 0 j' (by decide), hU.1 14 0 j' (by decide)]
            exact ho j' hj'
          · rw [e2, gI_pI, if_neg (by omega), e1, gI_pI, if_pos ⟨rfl, rfl, rfl⟩]
          · rw [e2, gI_pI, if_pos ⟨rfl, rfl, rfl⟩]
        · rw [nrW_eq hE (by decide) (by decide)] at hn
          refine b_Ruler_findNext_49f ?_
          rw [nI_1]
          exact ih (by omega) υ e x (hE.tr (hU.mono (by decide))) (fun j' hj' => by rw [hU.1 13 0 j' (by decide), hU.1 14 0 j' (by decide)]; exact ho j' hj') (by rw [hU.1 13 0 i (by decide)]; exact he) (by rw [hU.1 14 0 i (by decide)]; exact hx) (hF.no hmj.2 (fun y => absurd y hn))
  refine b_Ruler_findNext_0 ⟨vi, fun σ1 e1 => ?_⟩
  rw [ei] at e1
  rw [nI_1]
  refine key (i + 1) (by omega) (by omega) σ1 21 (gI σ1 14 0 i) (by rw [e1]; exact Eqs.rf.pI (by decide)) (fun j hj => ?_) (by rw [e1, gI_pI, if_pos ⟨rfl, rfl, rfl⟩]; rfl) rfl ⟨fun j' a b => by omega, Or.inl ⟨rfl, fun j' a b => by omega⟩⟩
  rw [e1, gI_pI, if_neg (by omega), gI_pI, if_neg (by omega)]
  exact ⟨rfl, rfl⟩
/-- a way drawn anew -/
def ThW (σ τ : Mem) (w N : Nat) (f : Nat → Nat) : Prop := (∀ a i j, a ≠ 11 → a ≠ 13 → a ≠ 14 → ¬ (a = 2 ∧ i = w ∧ j = 4) → ¬ (a = 5 ∧ i = w) → gI τ a i j = gI σ a i j) ∧ (∀ a i j, gJ τ a i j = gJ σ a i j) ∧ gI τ 2 w 4 = nI N ∧ ∀ k, k < N → gI τ 5 w k = nI (f k)
def itr (p : Nat → Nat) : Nat → Nat
  | 0 => 0
  | k + 1 => p (itr p k)
theorem c_thin {d : Nat} {σ : Mem} {Post : Option AV → Mem → Prop} {w c s : Nat} {t : Int32} (hv : WayV σ w c s) (hc : 0 < c) (ht : 0 ≤ t.toInt ∧ t.toInt ≤ 100) (h : ∀ (τ : Mem) (N : Nat) (f : Nat → Nat), ThW σ τ w N f → SmO c (nrW σ w t.toInt) N f → Post none τ) : MM (d + 4) M_Ruler_thin [vR 10 0, vR 2 w, vI t] σ Post := by
  have hc20 := hv.2.2.1
  refine MM.of ok_Ruler_thin rfl ?_
  have v0 : vp_in (0 : Int32) 20 := vp_n (i := 0) (by omega) (by omega)
  have out : ∀ (m p : Nat → Nat) (τ0 : Mem) (x3 : Int32), Eqs [11, 13, 14] σ τ0 → (∀ j, j < c → gI τ0 13 0 j = nI (m j)) → FwA c (nrW σ w t.toInt) m → (∀ j, j + 1 < c → NxS c (nrW σ w t.toInt) m j (p j) ∧ gI τ0 14 0 j = nI (p j)) → ∀ σ1 : Mem, σ1 = pI τ0 2 w 4 (gI τ0 13 0 0) → WS (d + 3 + 1) M_Ruler_thin 54 [vR 10 0, vR 2 w, vI t, vI x3, vI (0 : Int32), vI (0 : Int32)] [] σ1 Post := by
    intro m p τ0 x3 hE hm hA hp σ1 e1
    have hbd := hA.bd nrW1
    have hN := hbd 0 hc
    have e24 : gI σ1 2 w 4 = nI (m 0) := by rw [e1, gI_pI, if_pos ⟨rfl, rfl, rfl⟩, hm 0 hc]
    -- the walk by the next points
    have walk : ∀ k, k < m 0 → itr p k < c ∧ m (itr p k) + k = m 0 ∧ ∀ k', k' < k → NxS c (nrW σ w t.toInt) m (itr p k') (itr p (k' + 1)) := by
      intro k
      induction k with
      | zero => intro _; exact ⟨hc, rfl, fun k' hk => by omega⟩
      | succ k ih =>
        intro hk
        obtain ⟨a1, a2, a3⟩ := ih (by omega)
        have hlt : itr p k + 1 < c := by
          rcases Nat.lt_or_ge (itr p k + 1) c with z | z
          · exact z
          · rw [show itr p k = c - 1 by omega, hA.1] at a2; omega
        have hx := (hp (itr p k) hlt).1
        refine ⟨hx.2.1, ?_, fun k' hk' => ?_⟩
        · have e1 := hx.2.2.2.1
          show m (p (itr p k)) + (k + 1) = m 0
          omega
        · rcases Nat.lt_or_ge k' k with z | z
          · exact a3 k' z
          · rw [show k' = k by omega]; exact hx
    have key : ∀ k, k ≤ m 0 → ∀ (υ : Mem) (x : Int32), Eqs [5] σ1 υ → (∀ i j, i ≠ w → gI υ 5 i j = gI σ1 5 i j) → (k < m 0 → x = nI (itr p k)) → (∀ k', k' < k → gI υ 5 w k' = nI (itr p k')) → WS (d + 3 + 1) M_Ruler_thin 54 [vR 10 0, vR 2 w, vI t, vI x3, vI x, vI (nI k)] [] υ Post := by
      refine upto (m 0) ?_ ?_
      · intro υ x hU ho hx hk
        refine b_Ruler_thin_54 ?_
        rw [hU.1 2 w 4 (by decide), e24]
        refine pk_le (m 0) (m 0) (fun _ => ?_) (fun z => absurd z (Nat.lt_irrefl _))
        refine h υ (m 0) (itr p) ⟨fun a i j a1 a2 a3 a4 a5 => ?_, fun a i j => ?_, ?_, hk⟩ ⟨m, hA, rfl, rfl, fun k hk => (walk (k + 1) hk).2.2 k (by omega)⟩
        · by_cases z : a = 5
          · subst z
            rw [ho i j (by omega), e1, gI_pI, if_neg (by omega)]; exact hE.1 5 i j (by decide)
          · rw [hU.1 a i j (by simpa using z), e1, gI_pI, if_neg a4]; exact hE.1 a i j (by simp; omega)
        · rw [hU.2, e1, gJ_pI]; exact hE.2 a i j
        · rw [hU.1 2 w 4 (by decide), e24]
      · intro k hk ih υ x hU ho hx hh
        obtain ⟨a1, a2, a3⟩ := walk k hk
        have ex := hx hk
        subst ex
        refine b_Ruler_thin_54 ?_
        rw [hU.1 2 w 4 (by decide), e24]
        refine pk_le (m 0) k (fun z => by omega) (fun _ => ⟨vp_n (by omega) (by omega), fun σ2 e2 => ⟨vp_n (by omega) (by omega), ?_⟩⟩)
        rw [cl_n (by omega)] at e2
        rw [cl_n (by omega), nI_1]
        have U2 : Eqs [5] σ1 σ2 := by rw [e2]; exact hU.pI (by decide)
        refine ih σ2 _ U2 (fun i j hi => by rw [e2, gI_pI, if_neg (by omega)]; exact ho i j hi) (fun hk1 => ?_) (fun k' hk' => ?_)
        · have hlt : itr p k + 1 < c := by
            rcases Nat.lt_or_ge (itr p k + 1) c with z | z
            · exact z
            · rw [show itr p k = c - 1 by omega, hA.1] at a2; omega
          rw [U2.1 14 0 _ (by decide), e1, gI_pI, if_neg (by omega)]
          exact (hp _ hlt).2
        · rw [e2, gI_pI]
          by_cases z : k' = k
          · rw [if_pos ⟨rfl, rfl, z⟩, z]
          · rw [if_neg (by omega)]; exact hh k' (by omega)
    exact key 0 (by omega) σ1 0 Eqs.rf (fun _ _ _ => rfl) (fun _ => rfl) (fun k' hk => by omega)
  have key : ∀ i, i + 1 ≤ c → ∀ (τ : Mem) (m p : Nat → Nat) (x3 : Int32), Eqs [11, 13, 14] σ τ → (∀ j, i ≤ j → j < c → gI τ 13 0 j = nI (m j)) → m (c - 1) = 1 → (∀ j, i ≤ j → j < c → m j ≤ c - j) → (∀ j, i ≤ j → j + 1 < c → Fw c (nrW σ w t.toInt) m j ∧ NxS c (nrW σ w t.toInt) m j (p j) ∧ gI τ 14 0 j = nI (p j)) → WS (d + 3 + 1) M_Ruler_thin 19 [vR 10 0, vR 2 w, vI t, vI x3, vI (nI i + (-1)), vU] [] τ Post := by
    intro i
    induction i with
    | zero =>
      intro _ τ m p x3 hE hm h1 hb hj
      refine b_Ruler_thin_19 ⟨fun _ => ⟨v0, fun σ1 e1 => ?_⟩, fun z => absurd (by decide) z⟩
      exact out m p τ x3 hE (fun j hjc => hm j (Nat.zero_le j) hjc) ⟨h1, fun j hjc => (hj j (Nat.zero_le j) hjc).1⟩ (fun j hjc => (hj j (Nat.zero_le j) hjc).2) σ1 e1
    | succ i ih =>
      intro hi τ m p x3 hE hm h1 hb hj
      rw [pk_m1]
      refine b_Ruler_thin_19 (pk_lt i 0 (fun z => by omega) (fun _ => ?_))
      refine c_findNext (m := m) (hv.eq hE (by decide) (by decide) (by decide) (by decide)) (by omega) ht (fun j a b => ⟨hm j (by omega) b, by have := hb j (by omega) b; omega⟩) (fun υ e q hU ho he hq eq1 hq1 hq2 hF hN => ?_)
      rw [nrW_eq hE (by decide) (by decide)] at hF hN
      refine b_Ruler_thin_32 ?_
      have hbq := hb q (by omega) hq2
      have hb1 := hb (i + 1) (by omega) (by omega)
      have hle : e ≤ m (i + 1) + 1 := by
        have := hF.1 (i + 1) (by omega) (by omega) (nrW1 i)
        rw [setF_s, setF_n m (by omega)] at this
        exact this
      refine ih (by omega) υ (setF m i e) (setF p i q) x3 (hE.tr hU) (fun j a b => ?_) (by rw [setF_n m (by omega)]; exact h1) (fun j a b => ?_) (fun j a b => ?_)
      · by_cases z : j = i
        · subst z; rw [setF_s]; exact he
        · rw [setF_n m z, (ho j z).1]; exact hm j (by omega) b
      · by_cases z : j = i
        · subst z; rw [setF_s]; omega
        · rw [setF_n m z]; exact hb j (by omega) b
      · by_cases z : j = i
        · subst z; rw [setF_s]; exact ⟨hF, hN, hq⟩
        · rw [setF_n p z, (ho j z).2]
          obtain ⟨a1, a2, a3⟩ := hj j (by omega) b
          exact ⟨a1.cg (fun x hx => setF_n m (by omega)), a2.cg (fun x hx => setF_n m (by omega)), a3⟩
  refine b_Ruler_thin_0 ?_
  obtain ⟨e, rfl⟩ : ∃ e, c = e + 1 := ⟨c - 1, by omega⟩
  rw [hv.1, nI_pred, cl_n (by omega), Int32.sub_eq_add_neg]
  refine ⟨vp_n (by omega) (by omega), fun σ1 e1 => ?_⟩
  refine key e (by omega) σ1 (fun _ => 1) (fun _ => 0) _ (by rw [e1]; exact Eqs.rf.pI (by decide)) (fun j a b => ?_) rfl (fun j a b => by omega) (fun j a b => by omega)
  rw [show j = e by omega, e1, gI_pI, if_pos ⟨rfl, rfl, rfl⟩]
  rfl
def simO (σ : Mem) (v t : Int32) (j : Nat) : Prop := j < 12 ∧ v = nI j ∧ 0 < ctW σ j ∧ 0 ≤ t.toInt ∧ t.toInt ≤ 100
theorem c_TMsimple {d : Nat} {σ : Mem} {Post : Option AV → Mem → Prop} {v t : Int32} (hv : AllV σ) (h1 : ∀ (j : Nat) (τ : Mem) (N : Nat) (f : Nat → Nat), simO σ v t j → ThW σ τ j N f → SmO (ctW σ j) (nrW σ j t.toInt) N f → Post (some (vI (nI N))) τ) (h0 : (∀ j, ¬ simO σ v t j) → Post (some (vI (-1))) σ) : MM (d + 5) M_TM_simple [vR 0 0, vI v, vI t] σ Post := by
  refine MM.of ok_TM_simple rfl ?_
  refine b_TM_simple_0 ?_
  have ct : ∀ j, j < 12 → (0 < (gI σ 2 j 3).toInt ↔ 0 < ctW σ j) := fun j hj => by
    have a := (hv j hj).1
    have b := (hv j hj).2.2.1
    rw [a, nI_t (by omega)]; omega
  refine c_hasPoints (fun j hj ej qj => ?_) (fun q => b_TM_simple_5f (h0 (fun j z => q j (by have := z.1; omega) z.2.1 ((ct j z.1).mpr z.2.2.1))))
  subst ej
  have qc := (ct j (by omega)).mp qj
  refine b_TM_simple_5t ?_
  refine c_inRange (fun q1 q2 => ?_) (fun q => b_TM_simple_14f (h0 (fun i z => q (by rw [t_100]; exact ⟨z.2.2.2.1, z.2.2.2.2⟩))))
  rw [t_100] at q2
  refine b_TM_simple_14t ⟨vp_n (by omega) (by omega), ?_⟩
  rw [cl_n (by omega)]
  refine c_thin (hv j (by omega)) qc ⟨q1, q2⟩ (fun τ N f hT hS => ?_)
  refine b_TM_simple_33 ⟨vp_n (by omega) (by omega), ?_⟩
  rw [cl_n (by omega), hT.2.2.1]
  exact h1 j τ N f ⟨by omega, rfl, qc, q1, q2⟩ hT hS
