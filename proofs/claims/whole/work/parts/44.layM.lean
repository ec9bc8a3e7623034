/-! contracts: lay of the model -/
def MarkM (σ : Mem) (T U : Nat → Nat → Prop) : Prop := (∀ a b, a < 8 → b < a → (gI σ 81 0 (8 * a + b) ≠ 0 ↔ T b a)) ∧ (∀ t u, t < 5 → u < 5 → (gI σ 82 0 (5 * t + u) ≠ 0 ↔ U u t)) ∧ ∀ t, t < 5 → ¬ U t t
theorem MarkM.eq {ks : List Nat} {σ τ : Mem} {T U : Nat → Nat → Prop} (h : MarkM σ T U) (hE : Eqs ks σ τ) (k1 : 81 ∉ ks) (k2 : 82 ∉ ks) : MarkM τ T U := ⟨fun a b h1 h2 => by rw [hE.1 81 _ _ k1]; exact h.1 a b h1 h2, fun t u h1 h2 => by rw [hE.1 82 _ _ k2]; exact h.2.1 t u h1 h2, h.2.2⟩
theorem c_MmayHave {d : Nat} {σ : Mem} {Post : Option AV → Mem → Prop} {T U : Nat → Nat → Prop} {a : Nat} {f : Nat → Nat} (ha : a < 8) (hf : ∀ c, c ≤ a → gI σ 83 0 c = nI (f c)) (f5 : ∀ c, c ≤ a → f c < 5) (hm : MarkM σ T U) (h1 : (∀ b, b < a → T b a → U (f b) (f a)) → Post (some (vI 1)) σ) (h0 : ¬ (∀ b, b < a → T b a → U (f b) (f a)) → Post (some (vI 0)) σ) : MM d M_MD_mayHave [vR 51 0, vI (nI a)] σ Post := by
  refine MM.of ok_MD_mayHave rfl ?_
  have key : ∀ e, e ≤ a → (∀ b, b < e → T b a → U (f b) (f a)) → WS d M_MD_mayHave 2 [vR 51 0, vI (nI a), vI (nI e)] [] σ Post := by
    refine upto a ?_ ?_
    · intro hc
      exact b_MD_mayHave_2 (pk_le a a (fun _ => h1 hc) (fun q => absurd q (Nat.lt_irrefl a)))
    · intro e he ih hc
      have := f5 a (Nat.le_refl a)
      have := f5 e (by omega)
      refine b_MD_mayHave_2 (pk_le a e (fun q => by omega) (fun _ => ?_))
      have va : vp_in (nI a) 8 := vp_n ha (by omega)
      have ve : vp_in (nI e) 8 := vp_n (by omega) (by omega)
      rw [m8, nI_add, cl_n (by omega), cl_n (by omega), cl_n (by omega), hf a (Nat.le_refl a), hf e (by omega), m5, nI_add, cl_n (by omega), nI_1]
      have hT := hm.1 a e ha he
      have hU := hm.2.1 (f a) (f e) (by omega) (by omega)
      refine ⟨vp_n (by omega) (by omega), fun q => ?_, fun q => ⟨va, ve, ?_⟩⟩
      · refine ih (fun b hb hT2 => ?_)
        rcases Nat.lt_or_ge b e with p | p
        · exact hc b p hT2
        · have : b = e := by omega
          subst this
          exact absurd q (hT.mpr hT2)
      · have hTT := hT.mp q
        refine pk_eq (f a) (f e) (fun q2 => h0 (fun z => ?_)) (fun q2 => ⟨va, ve, vp_n (by omega) (by omega), fun q3 => h0 (fun z => hU.mpr (z e he hTT) q3), fun q3 => ?_⟩)
        · have := z e he hTT
          rw [q2] at this
          exact hm.2.2 _ (by omega) this
        · refine ih (fun b hb hT2 => ?_)
          rcases Nat.lt_or_ge b e with p | p
          · exact hc b p hT2
          · have : b = e := by omega
            subst this
            exact hU.mp q3
  refine b_MD_mayHave_0 ?_
  exact key 0 (by omega) (fun b hb => by omega)
theorem c_Mones {d : Nat} {σ : Mem} {Post : Option AV → Mem → Prop} {x : Int32} (h : Post (some (vI (nI (cN (fun k => bI x k = true) 12)))) σ) : MM d M_MD_ones [vI x] σ Post := by
  refine MM.of ok_MD_ones rfl ?_
  have key : ∀ k, k ≤ 12 → WS d M_MD_ones 4 [vI x, vI (nI (cN (fun k => bI x k = true) k)), vI (nI k)] [] σ Post := by
    refine upto 12 ?_ ?_
    · exact b_MD_ones_4 (pk_le 12 12 (fun _ => h) (fun q => by omega))
    · intro k hk ih
      refine b_MD_ones_4 (pk_le 12 k (fun q => by omega) (fun _ => ?_))
      rw [shr1 x (by omega), nI_1]
      by_cases q : bI x k = true
      · rw [if_pos q, nI_1, ← cN_t (p := fun k => bI x k = true) q]; exact ih
      · rw [if_neg q, Int32.add_zero, ← cN_f (p := fun k => bI x k = true) q]; exact ih
  refine b_MD_ones_0 ?_
  exact key 0 (by omega)
theorem cN_cut {p : Nat → Prop} {m n : Nat} (h : ∀ k, m ≤ k → k < n → ¬ p k) (hm : m ≤ n) : cN p n = cN p m := by
  induction n with
  | zero => rw [show m = 0 by omega]
  | succ n ih =>
    rcases Nat.lt_or_ge m (n + 1) with q | q
    · rw [cN_f (h n (by omega) (by omega)), ih (fun k h1 h2 => h k h1 (by omega)) (by omega)]
    · rw [show m = n + 1 by omega]
/-- behind what the search has gone by -/
def posB (a : Nat) (f : Nat → Nat) (s : Nat) (g : Nat → Nat) : Prop := lexlt 0 a g f ∨ ((∀ c, c < a → g c = f c) ∧ g a < s)
def setF (f : Nat → Nat) (a s : Nat) : Nat → Nat := fun c => if c = a then s else f c
theorem setF_s (f : Nat → Nat) (a s : Nat) : setF f a s a = s := if_pos rfl
theorem setF_n (f : Nat → Nat) {a s c : Nat} (h : c ≠ a) : setF f a s c = f c := if_neg h
theorem lexlt_set {a : Nat} {f g : Nat → Nat} {s : Nat} : lexlt 0 (a + 1) g (setF f a s) ↔ lexlt 0 a g f ∨ ((∀ c, c < a → g c = f c) ∧ g a < s) := by
  constructor
  · rintro ⟨b, b1, b2, b3, b4⟩
    rcases Nat.lt_or_ge b a with p | p
    · refine Or.inl ⟨b, b1, p, fun c c1 c2 => ?_, ?_⟩
      · rw [b3 c c1 c2, setF_n f (by omega)]
      · rw [setF_n f (by omega)] at b4; exact b4
    · have : b = a := by omega
      subst this
      rw [setF_s] at b4
      exact Or.inr ⟨fun c hc => by rw [b3 c (Nat.zero_le c) hc, setF_n f (by omega)], b4⟩
  · rintro (⟨b, b1, b2, b3, b4⟩ | ⟨h1, h2⟩)
    · exact ⟨b, b1, by omega, fun c c1 c2 => by rw [setF_n f (by omega)]; exact b3 c c1 c2, by rw [setF_n f (by omega)]; exact b4⟩
    · exact ⟨a, Nat.zero_le a, by omega, fun c c1 c2 => by rw [setF_n f (by omega)]; exact h1 c c2, by rw [setF_s]; exact h2⟩
theorem agr_set {a : Nat} {f g : Nat → Nat} {s : Nat} : (∀ c, c < a + 1 → g c = setF f a s c) ↔ (∀ c, c < a → g c = f c) ∧ g a = s := by
  constructor
  · intro h
    exact ⟨fun c hc => by rw [h c (by omega), setF_n f (by omega)], by rw [h a (by omega), setF_s]⟩
  · rintro ⟨h1, h2⟩ c hc
    by_cases p : c = a
    · subst p; rw [setF_s]; exact h2
    · rw [setF_n f p]; exact h1 c (by omega)
theorem pos_down {a : Nat} {f g : Nat → Nat} {s : Nat} : posB (a + 1) (setF f a s) 0 g ↔ posB a f s g := by
  unfold posB
  rw [lexlt_set]
  constructor
  · rintro (h | h)
    · exact h
    · omega
  · exact Or.inl
theorem pos_up {a : Nat} {f g : Nat → Nat} {s m : Nat} (hg : g (a + 1) < m) : posB (a + 1) (setF f a s) m g ↔ posB a f (s + 1) g := by
  unfold posB
  rw [lexlt_set, agr_set]
  constructor
  · rintro ((h | ⟨h1, h2⟩) | ⟨⟨h1, h2⟩, _⟩)
    · exact Or.inl h
    · exact Or.inr ⟨h1, by omega⟩
    · exact Or.inr ⟨h1, by omega⟩
  · rintro (h | ⟨h1, h2⟩)
    · exact Or.inl (Or.inl h)
    · rcases Nat.lt_or_ge (g a) s with p | p
      · exact Or.inl (Or.inr ⟨h1, p⟩)
      · exact Or.inr ⟨⟨h1, by omega⟩, hg⟩
theorem pos_skip {a : Nat} {f g : Nat → Nat} {s : Nat} (h : ¬ ((∀ c, c < a → g c = f c) ∧ g a = s)) : posB a f (s + 1) g ↔ posB a f s g := by
  unfold posB
  constructor
  · rintro (h1 | ⟨h1, h2⟩)
    · exact Or.inl h1
    · exact Or.inr ⟨h1, by have : g a ≠ s := fun q => h ⟨h1, q⟩; omega⟩
  · rintro (h1 | ⟨h1, h2⟩)
    · exact Or.inl h1
    · exact Or.inr ⟨h1, by omega⟩
theorem pos_full {a : Nat} {f g : Nat → Nat} {s : Nat} : posB a f (s + 1) g ↔ posB a f s g ∨ ∀ c, c < a + 1 → g c = setF f a s c := by
  rw [agr_set]
  unfold posB
  constructor
  · rintro (h1 | ⟨h1, h2⟩)
    · exact Or.inl (Or.inl h1)
    · rcases Nat.lt_or_ge (g a) s with p | p
      · exact Or.inl (Or.inr ⟨h1, p⟩)
      · exact Or.inr ⟨h1, by omega⟩
  · rintro ((h1 | ⟨h1, h2⟩) | ⟨h1, h2⟩)
    · exact Or.inl h1
    · exact Or.inr ⟨h1, by omega⟩
    · exact Or.inr ⟨h1, by omega⟩
theorem pos_lt {a : Nat} {f g : Nat → Nat} {s : Nat} (h : posB a f s g) : lexlt 0 (a + 1) g (setF f a s) := lexlt_set.mpr h
theorem dn_congr {n : Nat} {f g : Nat → Nat} (h : ∀ c, c < n → f c = g c) : dn n f = dn n g := by
  unfold dn
  refine cN_congr (fun u _ => ⟨?_, ?_⟩)
  · rintro ⟨b, hb, e⟩; exact ⟨b, hb, by rw [← h b hb]; exact e⟩
  · rintro ⟨b, hb, e⟩; exact ⟨b, hb, by rw [h b hb]; exact e⟩
/-- the best of those gone by -/
def BstM (T U : Nat → Nat → Prop) (n : Nat) (S : (Nat → Nat) → Prop) (b : Int32) (σ0 σ : Mem) : Prop := (b = 100 ∧ (∀ g, okA T U n g → ¬ S g) ∧ ∀ c, gI σ 84 0 c = gI σ0 84 0 c) ∨ ∃ f0, okA T U n f0 ∧ S f0 ∧ b = nI (dn n f0) ∧ (∀ c, c < n → gI σ 84 0 c = nI (f0 c)) ∧ ∀ g, okA T U n g → S g → dn n f0 < dn n g ∨ (dn n f0 = dn n g ∧ lexle 0 n f0 g)
theorem BstM.congr {T U : Nat → Nat → Prop} {n : Nat} {S S' : (Nat → Nat) → Prop} {b : Int32} {σ0 σ τ : Mem} (h : BstM T U n S b σ0 σ) (hS : ∀ g, okA T U n g → (S g ↔ S' g)) (hE : ∀ c, gI τ 84 0 c = gI σ 84 0 c) : BstM T U n S' b σ0 τ := by
  rcases h with ⟨h1, h2, h3⟩ | ⟨f0, h1, h2, h3, h4, h5⟩
  · exact Or.inl ⟨h1, fun g hg hs => h2 g hg ((hS g hg).mpr hs), fun c => (hE c).trans (h3 c)⟩
  · exact Or.inr ⟨f0, h1, (hS f0 h1).mp h2, h3, fun c hc => (hE c).trans (h4 c hc), fun g hg hs => h5 g hg ((hS g hg).mpr hs)⟩
def StM (T U : Nat → Nat → Prop) (n : Nat) (σ0 : Mem) (a : Nat) (f : Nat → Nat) (s : Nat) (τ : Mem) (b : Int32) : Prop := Eqs [83, 84] σ0 τ ∧ (∀ c, c < a → gI τ 83 0 c = nI (f c)) ∧ BstM T U n (posB a f s) b σ0 τ
theorem m1_1 (x : Int32) : x + (-1) + 1 = x := by rw [Int32.add_assoc, show (-1 : Int32) + 1 = 0 by decide, Int32.add_zero]
theorem dn_le5 (n : Nat) (f : Nat → Nat) : dn n f ≤ 5 := cN_le _ 5
theorem c_laynew {d : Nat} {σ0 : Mem} {Post : Option AV → Mem → Prop} {T U : Nat → Nat → Prop} {n a s : Nat} {f : Nat → Nat} (hn : n ≤ 8) (han : a + 1 = n) (hf : okA T U n (setF f a s)) {τ : Mem} {b : Int32} {v4 v5 : AV} (hE : Eqs [83, 84] σ0 τ) (hN : ∀ c, c < n → gI τ 83 0 c = nI (setF f a s c)) (hB : BstM T U n (posB a f s) b σ0 τ)
    (K : ∀ (τ' : Mem) (b' : Int32) (v4 v5 : AV), Eqs [83, 84] σ0 τ' → (∀ c, gI τ' 83 0 c = gI τ 83 0 c) → BstM T U n (posB a f (s + 1)) b' σ0 τ' → WS (d + 1) M_MD_lay 32 [vR 51 0, vI (nI n), vI b', vI (nI a), v4, v5] [] τ' Post) : WS (d + 1) M_MD_lay 103 [vR 51 0, vI (nI n), vI b, vI (nI a), vI 0, vI 0] [] τ Post := by
  have h5 : ∀ c, c < n → setF f a s c < 5 := fun c hc => (hf c hc).1
  have copy : ∀ q, q ≤ n → ∀ (υ : Mem) (x4 : Int32), Eqs [84] τ υ → (∀ c, c < q → gI υ 84 0 c = nI (setF f a s c)) → (∀ υ' : Mem, Eqs [84] τ υ' → (∀ c, c < n → gI υ' 84 0 c = nI (setF f a s c)) → ∀ (v4 v5 : AV), WS (d + 1) M_MD_lay 32 [vR 51 0, vI (nI n), vI (nI (dn n (setF f a s))), vI (nI a), v4, v5] [] υ' Post) → WS (d + 1) M_MD_lay 150 [vR 51 0, vI (nI n), vI (nI (dn n (setF f a s))), vI (nI a), vI x4, vI (nI q)] [] υ Post := by
    refine upto n ?_ ?_
    · intro υ x4 hF hc hk
      exact b_MD_lay_150 (pk_le n n (fun _ => hk υ hF hc _ _) (fun q => absurd q (Nat.lt_irrefl n)))
    · intro q hq ih υ x4 hF hc hk
      have vq : vp_in (nI q) 8 := vp_n (by omega) (by omega)
      refine b_MD_lay_150 (pk_le n q (fun z => by omega) (fun _ => ⟨vq, vq, fun σ1 e1 => ?_⟩))
      rw [cl_n (by omega), hF.1 83 0 q (by decide), hN q hq] at e1
      rw [nI_1]
      subst e1
      refine ih _ x4 (hF.pI List.mem_cons_self) (fun c hc2 => ?_) hk
      rw [gI_pI]
      by_cases p : c = q
      · subst p; rw [if_pos ⟨rfl, rfl, rfl⟩]
      · rw [if_neg (by omega)]; exact hc c (by omega)
  have bits : ∀ q, q ≤ n → ∀ (x4 : Int32), (∀ k, k < 32 → (bI x4 k = true ↔ ∃ b, b < q ∧ setF f a s b = k)) → WS (d + 1) M_MD_lay 103 [vR 51 0, vI (nI n), vI b, vI (nI a), vI x4, vI (nI q)] [] τ Post := by
    refine upto n ?_ ?_
    · intro x4 hx
      have eones : cN (fun k => bI x4 k = true) 12 = dn n (setF f a s) := by
        rw [cN_congr (q := fun k => ∃ b, b < n ∧ setF f a s b = k) (fun k hk => hx k (by omega))]
        refine cN_cut (fun k h1 h2 => ?_) (by omega)
        rintro ⟨c, c1, c2⟩
        have := h5 c c1
        omega
      have hd5 := dn_le5 n (setF f a s)
      refine b_MD_lay_103 (pk_le n n (fun _ => ?_) (fun q => absurd q (Nat.lt_irrefl n)))
      refine c_Mones ?_
      rw [eones]
      have hl : ∀ g, posB a f s g → lexlt 0 n g (setF f a s) := fun g hg => by rw [← han]; exact pos_lt hg
      have hfu : ∀ g, posB a f (s + 1) g ↔ posB a f s g ∨ ∀ c, c < n → g c = setF f a s c := fun g => by rw [← han]; exact pos_full
      have upd : (∀ g, okA T U n g → posB a f s g → dn n (setF f a s) < dn n g) → ∀ (v4 v5 : AV), MM d M_MD_ones [vI x4] τ (fun r τ => WS (d + 1) M_MD_lay 146 [vR 51 0, vI (nI n), vI b, vI (nI a), vI x4, vI (nI n)] (r.toList ++ []) τ Post) := by
        intro hlt _ _
        refine c_Mones ?_
        rw [eones]
        refine b_MD_lay_146 ?_
        refine copy 0 (by omega) τ x4 Eqs.rf (fun c hc => by omega) (fun υ hF hc v4 v5 => ?_)
        refine K υ _ _ _ (hE.tr (hF.mono (by decide))) (fun c => hF.1 83 0 c (by decide)) (Or.inr ⟨setF f a s, hf, (hfu _).mpr (Or.inr (fun c _ => rfl)), rfl, hc, fun g hg hs => ?_⟩)
        rcases (hfu g).mp hs with z | z
        · exact Or.inl (hlt g hg z)
        · exact Or.inr ⟨dn_congr (fun c hc => (z c hc).symm), Or.inl (fun c _ hc => (z c hc).symm)⟩
      rcases hB with ⟨rfl, g2, g3⟩ | ⟨f0, g1, g2, rfl, g4, g5⟩
      · refine b_MD_lay_134 (pk_lt (dn n (setF f a s)) 100 (fun _ => ?_) (fun q => by omega))
        exact upd (fun g hg hs => absurd hs (g2 g hg)) vU vU
      · have := dn_le5 n f0
        refine b_MD_lay_134 (pk_lt (dn n (setF f a s)) (dn n f0) (fun q => ?_) (fun q => ?_))
        · exact upd (fun g hg hs => by have := g5 g hg hs; omega) vU vU
        · refine K τ _ _ _ hE (fun _ => rfl) (Or.inr ⟨f0, g1, (hfu f0).mpr (Or.inl g2), rfl, g4, fun g hg hs => ?_⟩)
          rcases (hfu g).mp hs with z | z
          · exact g5 g hg z
          · have e := dn_congr (n := n) z
            rcases Nat.lt_or_ge (dn n f0) (dn n g) with p | p
            · exact Or.inl p
            · refine Or.inr ⟨by omega, lexle_tr (Or.inr (hl f0 g2)) (Or.inl (fun c _ hc => (z c hc).symm))⟩
    · intro q hq ih x4 hx
      refine b_MD_lay_103 (pk_le n q (fun z => by omega) (fun _ => ⟨vp_n (by omega) (by omega), ?_⟩))
      have := h5 q hq
      rw [cl_n (by omega), hN q hq, nI_1]
      refine ih _ (fun k hk => ?_)
      rw [f_or _ _ _ (by omega) hk]
      by_cases p : k = setF f a s q
      · rw [if_pos p]
        exact ⟨fun _ => ⟨q, by omega, p.symm⟩, fun _ => rfl⟩
      · rw [if_neg p, hx k hk]
        constructor
        · rintro ⟨c, c1, c2⟩; exact ⟨c, by omega, c2⟩
        · rintro ⟨c, c1, c2⟩
          rcases Nat.lt_or_ge c q with z | z
          · exact ⟨c, z, c2⟩
          · rw [show c = q by omega] at c2; exact absurd c2.symm p
  exact bits 0 (by omega) 0 (fun k _ => by rw [bI_0]; constructor <;> intro h <;> simp at h)
theorem c_layloop {d : Nat} {σ0 : Mem} {Post : Option AV → Mem → Prop} {T U : Nat → Nat → Prop} {n : Nat} (hn : n ≤ 8) (hM : MarkM σ0 T U) : ∀ (k a : Nat) (f : Nat → Nat), a + k + 1 = n → okA T U a f → (∀ (τ : Mem) (b : Int32) (v4 v5 : AV), StM T U n σ0 a f 5 τ b → WS (d + 1) M_MD_lay 32 [vR 51 0, vI (nI n), vI b, vI (nI a + (-1)), v4, v5] [] τ Post) →
    ∀ s, s ≤ 5 → ∀ (τ : Mem) (b : Int32) (v4 v5 : AV), StM T U n σ0 a f s τ b → gI τ 83 0 a = nI s + (-1) → WS (d + 1) M_MD_lay 32 [vR 51 0, vI (nI n), vI b, vI (nI a), v4, v5] [] τ Post := by
  intro k
  induction k with
  | zero =>
    intro a f hk hf K
    have va : vp_in (nI a) 8 := vp_n (by omega) (by omega)
    have ea : (nI a).toNatClampNeg = a := cl_n (by omega)
    refine upto 5 ?_ ?_
    · intro τ b v4 v5 hS h5
      refine b_MD_lay_32 (pk_lt a 0 (fun q => by omega) (fun _ => pk_le n 0 (fun q => by omega) (fun _ => ⟨va, va, fun σ3 e3 => ⟨va, ?_⟩⟩)))
      rw [ea, h5, m1_1] at e3
      have e5 : gI σ3 83 0 a = nI 5 := by rw [e3, gI_pI, if_pos ⟨rfl, rfl, rfl⟩]
      rw [ea, e5]
      refine pk_eq 5 5 (fun _ => ?_) (fun q => absurd rfl q)
      refine K σ3 b v4 v5 ⟨by rw [e3]; exact hS.1.pI (by decide), fun c hc => by rw [e3, gI_pI, if_neg (by omega)]; exact hS.2.1 c hc, hS.2.2.congr (fun g _ => Iff.rfl) (fun c => by rw [e3, gI_pI, if_neg (by omega)])⟩
    · intro s hs ih τ b v4 v5 hS h5
      refine b_MD_lay_32 (pk_lt a 0 (fun q => by omega) (fun _ => pk_le n 0 (fun q => by omega) (fun _ => ⟨va, va, fun σ3 e3 => ⟨va, ?_⟩⟩)))
      rw [ea, h5, m1_1] at e3
      have e5 : gI σ3 83 0 a = nI s := by rw [e3, gI_pI, if_pos ⟨rfl, rfl, rfl⟩]
      have E3 : Eqs [83, 84] σ0 σ3 := by rw [e3]; exact hS.1.pI (by decide)
      have N3 : ∀ c, c < a + 1 → gI σ3 83 0 c = nI (setF f a s c) := fun c hc => by
        by_cases p : c = a
        · subst p; rw [setF_s, e5]
        · rw [setF_n f p, e3, gI_pI, if_neg (by omega)]; exact hS.2.1 c (by omega)
      have B3 : BstM T U n (posB a f s) b σ0 σ3 := hS.2.2.congr (fun g _ => Iff.rfl) (fun c => by rw [e3, gI_pI, if_neg (by omega)])
      have f5 : ∀ c, c ≤ a → setF f a s c < 5 := fun c hc => by
        by_cases p : c = a
        · subst p; rw [setF_s]; exact hs
        · rw [setF_n f p]; exact (hf c (by omega)).1
      rw [ea, e5]
      refine pk_eq s 5 (fun q => by omega) (fun _ => ?_)
      refine c_MmayHave (f := setF f a s) (by omega) (fun c hc => N3 c (by omega)) f5 (hM.eq E3 (by decide) (by decide)) (fun q => ?_) (fun q => ?_)
      · refine b_MD_lay_71t ?_
        rw [show nI n = nI (a + 1) from congrArg nI (by omega), nI_pred, show nI (a + 1) = nI n from congrArg nI (by omega)]
        refine pk_le a a (fun _ => ?_) (fun q => absurd q (Nat.lt_irrefl a))
        have hfo : okA T U n (setF f a s) := by
          intro b hb
          refine ⟨f5 b (by omega), fun c hc hT => ?_⟩
          by_cases p : b = a
          · subst p; exact q c hc hT
          · rw [setF_n f p, setF_n f (by omega)]; exact (hf b (by omega)).2 c hc hT
        refine c_laynew (v4 := vU) (v5 := vU) hn hk hfo E3 (fun c hc => N3 c (by omega)) B3 (fun τ' b' v4 v5 k1 k2 k3 => ?_)
        refine ih τ' b' v4 v5 ⟨k1, fun c hc => ?_, k3⟩ ?_
        · rw [k2, N3 c (by omega), setF_n f (by omega)]
        · rw [k2, e5, ← nI_1, Int32.add_assoc, show (1 : Int32) + (-1) = 0 by decide, Int32.add_zero]
      · refine b_MD_lay_71f ?_
        refine ih σ3 b v4 v5 ⟨E3, fun c hc => by rw [N3 c (by omega), setF_n f (by omega)], B3.congr (fun g hg => (pos_skip (fun z => q (fun c hc hT => ?_))).symm) (fun _ => rfl)⟩ ?_
        · have := (hg a (by omega)).2 c hc hT
          rw [z.1 c hc, z.2] at this
          rw [setF_s, setF_n f (by omega)]
          exact this
        · rw [e5, ← nI_1, Int32.add_assoc, show (1 : Int32) + (-1) = 0 by decide, Int32.add_zero]
  | succ k ihk =>
    intro a f hk hf K
    have va : vp_in (nI a) 8 := vp_n (by omega) (by omega)
    have ea : (nI a).toNatClampNeg = a := cl_n (by omega)
    refine upto 5 ?_ ?_
    · intro τ b v4 v5 hS h5
      refine b_MD_lay_32 (pk_lt a 0 (fun q => by omega) (fun _ => pk_le n 0 (fun q => by omega) (fun _ => ⟨va, va, fun σ3 e3 => ⟨va, ?_⟩⟩)))
      rw [ea, h5, m1_1] at e3
      have e5 : gI σ3 83 0 a = nI 5 := by rw [e3, gI_pI, if_pos ⟨rfl, rfl, rfl⟩]
      rw [ea, e5]
      refine pk_eq 5 5 (fun _ => ?_) (fun q => absurd rfl q)
      refine K σ3 b v4 v5 ⟨by rw [e3]; exact hS.1.pI (by decide), fun c hc => by rw [e3, gI_pI, if_neg (by omega)]; exact hS.2.1 c hc, hS.2.2.congr (fun g _ => Iff.rfl) (fun c => by rw [e3, gI_pI, if_neg (by omega)])⟩
    · intro s hs ih τ b v4 v5 hS h5
      refine b_MD_lay_32 (pk_lt a 0 (fun q => by omega) (fun _ => pk_le n 0 (fun q => by omega) (fun _ => ⟨va, va, fun σ3 e3 => ⟨va, ?_⟩⟩)))
      rw [ea, h5, m1_1] at e3
      have e5 : gI σ3 83 0 a = nI s := by rw [e3, gI_pI, if_pos ⟨rfl, rfl, rfl⟩]
      have E3 : Eqs [83, 84] σ0 σ3 := by rw [e3]; exact hS.1.pI (by decide)
      have N3 : ∀ c, c < a + 1 → gI σ3 83 0 c = nI (setF f a s c) := fun c hc => by
        by_cases p : c = a
        · subst p; rw [setF_s, e5]
        · rw [setF_n f p, e3, gI_pI, if_neg (by omega)]; exact hS.2.1 c (by omega)
      have B3 : BstM T U n (posB a f s) b σ0 σ3 := hS.2.2.congr (fun g _ => Iff.rfl) (fun c => by rw [e3, gI_pI, if_neg (by omega)])
      have f5 : ∀ c, c ≤ a → setF f a s c < 5 := fun c hc => by
        by_cases p : c = a
        · subst p; rw [setF_s]; exact hs
        · rw [setF_n f p]; exact (hf c (by omega)).1
      rw [ea, e5]
      refine pk_eq s 5 (fun q => by omega) (fun _ => ?_)
      refine c_MmayHave (f := setF f a s) (by omega) (fun c hc => N3 c (by omega)) f5 (hM.eq E3 (by decide) (by decide)) (fun q => ?_) (fun q => ?_)
      · refine b_MD_lay_71t ?_
        rw [show nI n = nI (a + k + 1 + 1) from congrArg nI (by omega), nI_pred, show nI (a + k + 1 + 1) = nI n from congrArg nI (by omega)]
        refine pk_le (a + k + 1) a (fun q => by omega) (fun _ => ?_)
        rw [nI_1]
        refine ⟨vp_n (by omega) (by omega), fun σ1 e1 => ?_⟩
        rw [cl_n (by omega)] at e1
        have hfo : okA T U (a + 1) (setF f a s) := by
          intro b hb
          refine ⟨f5 b (by omega), fun c hc hT => ?_⟩
          by_cases p : b = a
          · subst p; exact q c hc hT
          · rw [setF_n f p, setF_n f (by omega)]; exact (hf b (by omega)).2 c hc hT
        refine ihk (a + 1) (setF f a s) (by omega) hfo (fun τ' b' v4 v5 hS' => ?_) 0 (by omega) σ1 b v4 v5 ⟨by rw [e1]; exact E3.pI (by decide), fun c hc => by rw [e1, gI_pI, if_neg (by omega)]; exact N3 c hc, B3.congr (fun g _ => pos_down.symm) (fun c => by rw [e1, gI_pI, if_neg (by omega)])⟩ (by rw [e1, gI_pI, if_pos ⟨rfl, rfl, rfl⟩]; decide)
        rw [pk_m1]
        refine ih τ' b' v4 v5 ⟨hS'.1, fun c hc => by rw [hS'.2.1 c (by omega), setF_n f (by omega)], hS'.2.2.congr (fun g hg => pos_up (hg (a + 1) (by omega)).1) (fun _ => rfl)⟩ ?_
        rw [hS'.2.1 a (by omega), setF_s, ← nI_1, Int32.add_assoc, show (1 : Int32) + (-1) = 0 by decide, Int32.add_zero]
      · refine b_MD_lay_71f ?_
        refine ih σ3 b v4 v5 ⟨E3, fun c hc => by rw [N3 c (by omega), setF_n f (by omega)], B3.congr (fun g hg => (pos_skip (fun z => q (fun c hc hT => ?_))).symm) (fun _ => rfl)⟩ ?_
        · have := (hg a (by omega)).2 c hc hT
          rw [z.1 c hc, z.2] at this
          rw [setF_s, setF_n f (by omega)]
          exact this
        · rw [e5, ← nI_1, Int32.add_assoc, show (1 : Int32) + (-1) = 0 by decide, Int32.add_zero]
theorem c_Mlay {d : Nat} {σ : Mem} {Post : Option AV → Mem → Prop} {v : Int32} (T U : Nat → Nat → Prop) (hM : MarkM σ T U)
    (h1 : ∀ (n : Nat) (τ : Mem) (s : Nat) (f : Nat → Nat), n ≤ 8 → v = nI n → Eqs [51, 83, 84] σ τ → (∀ i j, ¬ (i = 0 ∧ j = 35) → gI τ 51 i j = gI σ 51 i j) → s ≤ 5 → LayO T U n s f → (∀ c, c < n → gI τ 84 0 c = nI (f c)) → gI τ 51 0 35 = nI n → Post (some (vI (nI s))) τ)
    (h2 : ∀ (n : Nat) (τ : Mem), n ≤ 8 → v = nI n → Eqs [83, 84] σ τ → (∀ c, gI τ 84 0 c = gI σ 84 0 c) → (∀ g, ¬ okA T U n g) → Post (some (vI (-2))) τ) (h0 : (∀ n, n ≤ 8 → v ≠ nI n) → Post (some (vI (-1))) σ) : MM (d + 1) M_MD_lay [vR 51 0, vI v] σ Post := by
  refine MM.of ok_MD_lay rfl ?_
  refine b_MD_lay_0 ?_
  refine c_MisIn (fun q1 q2 => ?_) (fun q => ?_)
  · rw [t_0] at q1
    rw [t_8] at q2
    obtain ⟨n, hn, rfl⟩ := t_nat (x := v) (n := 8) q1 q2 (by omega)
    have v0 : vp_in (0 : Int32) 8 := vp_n (i := 0) (by omega) (by omega)
    refine b_MD_lay_7t (pk_eq n 0 (fun e => ⟨v0, fun σ1 e1 => ?_⟩) (fun e => ⟨v0, fun σ1 e1 => ?_⟩))
    · subst e
      have E1 : Eqs [83, 84] σ σ1 := by rw [e1]; exact Eqs.rf.pI (by decide)
      refine b_MD_lay_32 ⟨fun q => absurd q (by decide), fun _ => ⟨fun _ => ⟨fun q => absurd q (by decide), fun _ σ2 e2 => ?_⟩, fun q => absurd (by decide) q⟩⟩
      subst e2
      refine h1 0 _ 0 (fun _ => 0) (by omega) rfl ((E1.mono (by decide)).pI (by decide)) (fun i j h => ?_) (by omega) ⟨fun b hb => by omega, ?_, fun g hg => Or.inr ⟨?_, Or.inl (fun c _ hc => by omega)⟩⟩ (fun c hc => by omega) (by rw [gI_pI, if_pos ⟨rfl, rfl, rfl⟩])
      · rw [gI_pI, if_neg (by omega), e1, gI_pI, if_neg (by omega)]
      · unfold dn
        rw [cN_cut (m := 0) (fun k _ _ => by rintro ⟨c, c1, _⟩; omega) (by omega)]; rfl
      · unfold dn
        rw [cN_cut (m := 0) (fun k _ _ => by rintro ⟨c, c1, _⟩; omega) (by omega)]; rfl
    · have E1 : Eqs [83, 84] σ σ1 := by rw [e1]; exact Eqs.rf.pI (by decide)
      refine c_layloop hn hM (n - 1) 0 (fun _ => 0) (by omega) (fun b hb => by omega) (fun τ b v4 v5 hS => ?_) 0 (by omega) σ1 100 vU vU ⟨E1, fun c hc => by omega, Or.inl ⟨rfl, fun g hg hs => ?_, fun c => by rw [e1, gI_pI, if_neg (by omega)]⟩⟩ (by rw [e1, gI_pI, if_pos ⟨rfl, rfl, rfl⟩]; decide)
      · refine b_MD_lay_32 ⟨fun _ => ?_, fun q => absurd (by decide) q⟩
        have hall : ∀ g, okA T U n g → posB 0 (fun _ => 0) 5 g := fun g hg => Or.inr ⟨fun c hc => by omega, (hg 0 (by omega)).1⟩
        rcases hS.2.2 with ⟨rfl, g2, g3⟩ | ⟨f0, g1, g2, rfl, g4, g5⟩
        · exact ⟨fun _ => h2 n τ hn rfl hS.1 g3 (fun g hg => g2 g hg (hall g hg)), fun q => absurd rfl q⟩
        · have hd5 := dn_le5 n f0
          refine pk_eq (dn n f0) 100 (fun q => by omega) (fun _ σ2 e2 => ?_)
          subst e2
          refine h1 n _ (dn n f0) f0 hn rfl ((hS.1.mono (by decide)).pI (by decide)) (fun i j h => ?_) hd5 ⟨g1, rfl, fun g hg => ?_⟩ (fun c hc => by rw [gI_pI, if_neg (by omega)]; exact g4 c hc) (by rw [gI_pI, if_pos ⟨rfl, rfl, rfl⟩])
          · rw [gI_pI, if_neg (by omega), hS.1.1 51 i j (by decide)]
          · rcases g5 g hg (hall g hg) with z | z
            · exact Or.inl z
            · exact Or.inr ⟨z.1.symm, z.2⟩
      · rcases hs with ⟨c, c1, c2, _⟩ | ⟨_, c⟩
        · omega
        · omega
  · refine b_MD_lay_7f (h0 (fun n hn e => q ?_))
    rw [e, nI_t (by omega), t_8, t_0]
    omega
