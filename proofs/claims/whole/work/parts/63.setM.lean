/-! contracts: set of the model -/
def okS (us : Nat → Prop) (ov : Nat → Nat → Prop) (a : Nat) (f : Nat → Nat) : Prop := ∀ n, n < a → f n ≤ 4 ∧ (f n < 4 → us (n * 4 + f n) ∧ ∀ q, q < n → f q < 4 → ¬ ov (n * 4 + f n) (q * 4 + f q))
def comS (us : Nat → Prop) (ov : Nat → Nat → Prop) (n : Nat) (f : Nat → Nat) : Prop := f n < 4 → us (n * 4 + f n) ∧ ∀ q, q < n → f q < 4 → ¬ ov (n * 4 + f n) (q * 4 + f q)
def BoxS (σ : Mem) (us : Nat → Prop) (ov : Nat → Nat → Prop) : Prop := (∀ q, q < 32 → (gI σ 77 0 q ≠ 0 ↔ us q)) ∧ ∀ p q, p < 32 → q < 32 → us p → us q → (gI σ 78 0 (32 * p + q) ≠ 0 ↔ ov p q)
theorem c_MmayCome {d : Nat} {σ : Mem} {Post : Option AV → Mem → Prop} {us : Nat → Prop} {ov : Nat → Nat → Prop} {n : Nat} {f : Nat → Nat} (hn : n < 8) (hf : ∀ q, q ≤ n → gI σ 79 0 q = nI (f q)) (hf4 : ∀ q, q ≤ n → f q ≤ 4) (hB : BoxS σ us ov) (hp : ∀ q, q < n → f q < 4 → us (q * 4 + f q)) (h1 : comS us ov n f → Post (some (vI 1)) σ) (h0 : ¬ comS us ov n f → Post (some (vI 0)) σ) : MM d M_MD_mayCome [vR 51 0, vI (nI n)] σ Post := by
  refine MM.of ok_MD_mayCome rfl ?_
  have vn : vp_in (nI n) 8 := vp_n hn (by omega)
  have n4 := hf4 n (Nat.le_refl n)
  refine b_MD_mayCome_0 ⟨vn, ?_⟩
  rw [cl_n (by omega), hf n (Nat.le_refl n)]
  refine pk_eq (f n) 4 (fun e => h1 (fun z => by omega)) (fun e => ⟨vn, ?_⟩)
  rw [m4, nI_add, cl_n (i := 4 * n + f n) (by omega)]
  have hb := hB.1 (4 * n + f n) (by omega)
  have e4 : n * 4 + f n = 4 * n + f n := by omega
  refine ⟨vp_n (by omega) (by omega), fun z => h0 (fun y => hb.mpr (by have := (y (by omega)).1; rw [e4] at this; exact this) z), fun z => ?_⟩
  have hus := hb.mp z
  have key : ∀ q, q ≤ n → (∀ q', q' < q → f q' < 4 → ¬ ov (n * 4 + f n) (q' * 4 + f q')) → WS d M_MD_mayCome 36 [vR 51 0, vI (nI n), vI (nI (4 * n + f n)), vI (nI q)] [] σ Post := by
    refine upto n ?_ ?_
    · intro hh
      exact b_MD_mayCome_36 (pk_le n n (fun _ => h1 (fun _ => ⟨by rw [e4]; exact hus, hh⟩)) (fun y => absurd y (Nat.lt_irrefl n)))
    · intro q hq ih hh
      have q4 := hf4 q (by omega)
      have vq : vp_in (nI q) 8 := vp_n (by omega) (by omega)
      refine b_MD_mayCome_36 (pk_le n q (fun y => by omega) (fun _ => ⟨vq, ?_⟩))
      rw [cl_n (i := q) (by omega), hf q (by omega), m32, m4, nI_add, nI_add, nI_1]
      refine pk_le 4 (f q) (fun y => ih (fun q' hq' h4 => ?_)) (fun y => ?_)
      · rcases Nat.lt_or_ge q' q with u | u
        · exact hh q' u h4
        · rw [show q' = q by omega] at h4; omega
      · rw [cl_n (i := 32 * (4 * n + f n) + 4 * q + f q) (by omega)]
        have ho := hB.2 (4 * n + f n) (4 * q + f q) (by omega) (by omega) hus (by have := hp q hq y; rw [show q * 4 + f q = 4 * q + f q by omega] at this; exact this)
        rw [show 32 * (4 * n + f n) + 4 * q + f q = 32 * (4 * n + f n) + (4 * q + f q) by omega]
        have e5 : q * 4 + f q = 4 * q + f q := by omega
        refine ⟨vq, vp_n (by omega) (by omega), fun u => ih (fun q' hq' h4 => ?_), fun u => h0 (fun v => (v (by omega)).2 q hq y (by rw [e4, e5]; exact ho.mp u))⟩
        rcases Nat.lt_or_ge q' q with v | v
        · exact hh q' v h4
        · rw [show q' = q by omega, e4, e5]; exact fun w => ho.mpr w u
  exact key 0 (by omega) (fun q' hq' => by omega)
/-- the best of those gone by -/
def BstS (us : Nat → Prop) (ov : Nat → Nat → Prop) (wt : Nat → Nat) (nmd : Nat → Prop) (P : (Nat → Nat) → Prop) (b m : Int32) (σ : Mem) : Prop := (b = -1 ∧ m = -1 ∧ ∀ g, StF us ov g → ¬ P g) ∨ ∃ f0, StF us ov f0 ∧ P f0 ∧ b = nI (vF 4 wt f0 0 8) ∧ m = nI (vF 4 (fun _ => 1) f0 0 8) ∧ (∀ c, c < 8 → (nmd c → gI σ 80 0 c = nI (f0 c)) ∧ (¬ nmd c → gI σ 80 0 c = -1)) ∧ ∀ g, StF us ov g → P g → vF 4 (fun i => wt i * 16 + 1) g 0 8 < vF 4 (fun i => wt i * 16 + 1) f0 0 8 ∨ (vF 4 (fun i => wt i * 16 + 1) g 0 8 = vF 4 (fun i => wt i * 16 + 1) f0 0 8 ∧ lexle 0 8 f0 g)
theorem BstS.congr {us : Nat → Prop} {ov : Nat → Nat → Prop} {wt : Nat → Nat} {nmd : Nat → Prop} {P P' : (Nat → Nat) → Prop} {b m : Int32} {σ τ : Mem} (h : BstS us ov wt nmd P b m σ) (hS : ∀ g, StF us ov g → (P g ↔ P' g)) (hE : ∀ c, gI τ 80 0 c = gI σ 80 0 c) : BstS us ov wt nmd P' b m τ := by
  rcases h with ⟨h1, h2, h3⟩ | ⟨f0, h1, h2, h3, h4, h5, h6⟩
  · exact Or.inl ⟨h1, h2, fun g hg hs => h3 g hg ((hS g hg).mpr hs)⟩
  · exact Or.inr ⟨f0, h1, (hS f0 h1).mp h2, h3, h4, fun c hc => by rw [hE c]; exact h5 c hc, fun g hg hs => h6 g hg ((hS g hg).mpr hs)⟩
def StS8 (us : Nat → Prop) (ov : Nat → Nat → Prop) (wt : Nat → Nat) (nmd : Nat → Prop) (σ0 : Mem) (a : Nat) (f : Nat → Nat) (s : Nat) (τ : Mem) (b m : Int32) : Prop := Eqs [79, 80] σ0 τ ∧ (∀ c, c < a → gI τ 79 0 c = nI (f c)) ∧ BstS us ov wt nmd (posB a f s) b m τ
theorem BoxS.eq {σ τ : Mem} {us : Nat → Prop} {ov : Nat → Nat → Prop} (h : BoxS σ us ov) (hE : Eqs [79, 80] σ τ) : BoxS τ us ov := ⟨fun q hq => by rw [hE.1 77 0 q (by decide)]; exact h.1 q hq, fun p q hp hq h1 h2 => by rw [hE.1 78 0 _ (by decide)]; exact h.2 p q hp hq h1 h2⟩
/-- a whole setting -/
theorem c_setnew {d : Nat} {σ0 : Mem} {Post : Option AV → Mem → Prop} {us : Nat → Prop} {ov : Nat → Nat → Prop} {wt : Nat → Nat} {s : Nat} {f : Nat → Nat} (hwt : ∀ n, n < 8 → (gI σ0 71 0 n = nI (wt n) ∧ wt n ≤ 1000) ∨ ¬ thNM σ0 n) (hus : ∀ n s, n < 8 → s < 4 → us (n * 4 + s) → thNM σ0 n) (hf : StF us ov (setF f 7 s)) {τ : Mem} {b m : Int32} (hE : Eqs [79, 80] σ0 τ) (hN : ∀ c, c < 8 → gI τ 79 0 c = nI (setF f 7 s c)) (hB : BstS us ov wt (thNM σ0) (posB 7 f s) b m τ)
    (K : ∀ (τ' : Mem) (b' m' : Int32) (v4 v5 v6 : AV), Eqs [79, 80] σ0 τ' → (∀ c, gI τ' 79 0 c = gI τ 79 0 c) → BstS us ov wt (thNM σ0) (posB 7 f (s + 1)) b' m' τ' → WS (d + 2) M_MD_set 29 [vR 51 0, vI b', vI m', vI (nI 7), v4, v5, v6] [] τ' Post) : WS (d + 2) M_MD_set 110 [vR 51 0, vI b, vI m, vI (nI 7), vI 0, vI 0, vI 0] [] τ Post := by
  have h4 : ∀ c, c < 8 → setF f 7 s c ≤ 4 := fun c hc => (hf c hc).1
  have hwt' : ∀ n, n < 8 → setF f 7 s n < 4 → gI σ0 71 0 n = nI (wt n) ∧ wt n ≤ 1000 := fun n hn hlt => by
    rcases hwt n hn with z | z
    · exact z
    · exact absurd (hus n _ hn hlt ((hf n hn).2 hlt).1) z
  have wle : ∀ e, StF us ov e → vF 4 wt e 0 8 ≤ 8 * 1000 := fun e he => by
    have : vF 4 wt e 0 8 = vF 4 (fun i => min (wt i) 1000) e 0 8 := vF_gcg 8 0 (fun i _ hi hlt => by
      rcases hwt i (by omega) with z | z
      · omega
      · exact absurd (hus i _ (by omega) hlt ((he i (by omega)).2 hlt).1) z)
    rw [this]
    exact vF_le 8 0 (fun i _ => by omega)
  have hl : ∀ g, posB 7 f s g → lexlt 0 8 g (setF f 7 s) := fun g hg => pos_lt hg
  have hfu : ∀ g, posB 7 f (s + 1) g ↔ posB 7 f s g ∨ ∀ c, c < 8 → g c = setF f 7 s c := fun g => pos_full
  have copy : ∀ q, q ≤ 8 → ∀ (υ : Mem) (x4 x5 : Int32), Eqs [80] τ υ → (∀ c, c < q → (thNM σ0 c → gI υ 80 0 c = nI (setF f 7 s c)) ∧ (¬ thNM σ0 c → gI υ 80 0 c = -1)) → (∀ υ' : Mem, Eqs [80] τ υ' → (∀ c, c < 8 → (thNM σ0 c → gI υ' 80 0 c = nI (setF f 7 s c)) ∧ (¬ thNM σ0 c → gI υ' 80 0 c = -1)) → ∀ (v4 v5 v6 : AV), WS (d + 2) M_MD_set 29 [vR 51 0, vI (nI (vF 4 wt (setF f 7 s) 0 8)), vI (nI (vF 4 (fun _ => 1) (setF f 7 s) 0 8)), vI (nI 7), v4, v5, v6] [] υ' Post) → WS (d + 1 + 1) M_MD_set 182 [vR 51 0, vI (nI (vF 4 wt (setF f 7 s) 0 8)), vI (nI (vF 4 (fun _ => 1) (setF f 7 s) 0 8)), vI (nI 7), vI x4, vI x5, vI (nI q)] [] υ Post := by
    refine upto 8 ?_ ?_
    · intro υ x4 x5 hU hc hk
      exact b_MD_set_182 (pk_le 8 8 (fun _ => hk υ hU hc _ _ _) (fun z => by omega))
    · intro q hq ih υ x4 x5 hU hc hk
      have vq : vp_in (nI q) 8 := vp_n hq (by omega)
      have eth : ∀ n, 0 < (gI υ 67 0 n).toInt ↔ thNM σ0 n := fun n => by rw [hU.1 67 0 n (by decide), hE.1 67 0 n (by decide)]; exact Iff.rfl
      refine b_MD_set_182 (pk_le 8 q (fun z => by omega) (fun _ => ?_))
      refine c_MisName (fun j hj => ?_) (fun hno => ?_)
      · obtain ⟨j8, ej, jt⟩ := hj
        obtain rfl : q = j := (nI_eq (by omega) (by omega)).mp ej
        have ht := (eth q).mp jt
        refine b_MD_set_201t ⟨vq, vq, fun σ1 e1 => ?_⟩
        rw [cl_n (by omega), hU.1 79 0 q (by decide), hN q hq] at e1
        rw [nI_1]
        refine ih σ1 x4 x5 (by rw [e1]; exact hU.pI (by decide)) (fun c hc2 => ?_) hk
        rw [e1, gI_pI]
        by_cases u : c = q
        · subst u; rw [if_pos ⟨rfl, rfl, rfl⟩]; exact ⟨fun _ => rfl, fun z => absurd ht z⟩
        · rw [if_neg (by omega)]; exact hc c (by omega)
      · have hnt : ¬ thNM σ0 q := fun z => hno q ⟨hq, rfl, (eth q).mpr z⟩
        refine b_MD_set_201f ⟨vq, fun σ1 e1 => ?_⟩
        rw [cl_n (by omega)] at e1
        rw [nI_1]
        refine ih σ1 x4 x5 (by rw [e1]; exact hU.pI (by decide)) (fun c hc2 => ?_) hk
        rw [e1, gI_pI]
        by_cases u : c = q
        · subst u; rw [if_pos ⟨rfl, rfl, rfl⟩]; exact ⟨fun z => absurd z hnt, fun _ => rfl⟩
        · rw [if_neg (by omega)]; exact hc c (by omega)
  have hS1 := wle _ hf
  have hO1 := vF_one4 (setF f 7 s)
  have lin1 := vF_lin4 (wt := wt) (f := setF f 7 s) 8 0
  have upd : (∀ g, StF us ov g → posB 7 f s g → vF 4 (fun i => wt i * 16 + 1) g 0 8 < vF 4 (fun i => wt i * 16 + 1) (setF f 7 s) 0 8) → ∀ x4 x5 : Int32, WS (d + 1 + 1) M_MD_set 182 [vR 51 0, vI (nI (vF 4 wt (setF f 7 s) 0 8)), vI (nI (vF 4 (fun _ => 1) (setF f 7 s) 0 8)), vI (nI 7), vI x4, vI x5, vI (0 : Int32)] [] τ Post := by
    intro hlt x4 x5
    refine copy 0 (by omega) τ x4 x5 Eqs.rf (fun c hc => by omega) (fun υ hU hc v4 v5 v6 => ?_)
    refine K υ _ _ _ _ _ (hE.tr (hU.mono (by decide))) (fun c => hU.1 79 0 c (by decide)) (Or.inr ⟨setF f 7 s, hf, (hfu _).mpr (Or.inr (fun c _ => rfl)), rfl, rfl, hc, fun g hg hs => ?_⟩)
    rcases (hfu g).mp hs with z | z
    · exact Or.inl (hlt g hg z)
    · refine Or.inr ⟨vF_congr 8 0 (fun i _ hi => z i (by omega)), Or.inl (fun c _ hc => (z c hc).symm)⟩
  have sum : ∀ q, q ≤ 8 → WS (d + 2) M_MD_set 110 [vR 51 0, vI b, vI m, vI (nI 7), vI (nI (vF 4 wt (setF f 7 s) 0 q)), vI (nI (vF 4 (fun _ => 1) (setF f 7 s) 0 q)), vI (nI q)] [] τ Post := by
    refine upto 8 ?_ ?_
    · refine b_MD_set_110 (pk_le 8 8 (fun _ => ?_) (fun z => by omega))
      rcases hB with ⟨rfl, rfl, g3⟩ | ⟨f0, g1, g2, rfl, rfl, g5, g6⟩
      · refine ⟨fun z => ?_, fun _ => ⟨fun z => ?_, fun z => upd (fun g hg hs => absurd hs (g3 g hg)) _ _⟩⟩
        · rw [t_lt, nI_t (by omega), show (-1 : Int32).toInt = -1 by decide] at z; omega
        · rw [t_eq, nI_t (by omega), show (-1 : Int32).toInt = -1 by decide] at z; omega
      · have hS0 := wle _ g1
        have hO0 := vF_one4 f0
        have lin0 := vF_lin4 (wt := wt) (f := f0) 8 0
        have keep : (vF 4 (fun i => wt i * 16 + 1) (setF f 7 s) 0 8 ≤ vF 4 (fun i => wt i * 16 + 1) f0 0 8) → ∀ (v4 v5 v6 : AV), WS (d + 2) M_MD_set 29 [vR 51 0, vI (nI (vF 4 wt f0 0 8)), vI (nI (vF 4 (fun _ => 1) f0 0 8)), vI (nI 7), v4, v5, v6] [] τ Post := by
          intro hle v4 v5 v6
          refine K τ _ _ _ _ _ hE (fun _ => rfl) (Or.inr ⟨f0, g1, (hfu f0).mpr (Or.inl g2), rfl, rfl, g5, fun g hg hs => ?_⟩)
          rcases (hfu g).mp hs with z | z
          · exact g6 g hg z
          · have e := vF_congr (o := 4) (g := fun i => wt i * 16 + 1) (f := g) (f' := setF f 7 s) 8 0 (fun i _ hi => z i (by omega))
            rcases Nat.lt_or_ge (vF 4 (fun i => wt i * 16 + 1) g 0 8) (vF 4 (fun i => wt i * 16 + 1) f0 0 8) with p | p
            · exact Or.inl p
            · exact Or.inr ⟨by omega, lexle_tr (Or.inr (hl f0 g2)) (Or.inl (fun c _ hc => (z c hc).symm))⟩
        have better : (vF 4 (fun i => wt i * 16 + 1) f0 0 8 < vF 4 (fun i => wt i * 16 + 1) (setF f 7 s) 0 8) → ∀ g, StF us ov g → posB 7 f s g → vF 4 (fun i => wt i * 16 + 1) g 0 8 < vF 4 (fun i => wt i * 16 + 1) (setF f 7 s) 0 8 := fun hlt g hg hs => by
          rcases g6 g hg hs with z | z <;> omega
        refine pk_lt (vF 4 wt (setF f 7 s) 0 8) (vF 4 wt f0 0 8) (fun z => keep (by omega) _ _ _) (fun z => pk_eq (vF 4 wt (setF f 7 s) 0 8) (vF 4 wt f0 0 8) (fun e => pk_lt (vF 4 (fun _ => 1) f0 0 8) (vF 4 (fun _ => 1) (setF f 7 s) 0 8) (fun y => upd (better (by omega)) _ _) (fun y => keep (by omega) _ _ _)) (fun e => upd (better (by omega)) _ _))
    · intro q hq ih
      have vq : vp_in (nI q) 8 := vp_n hq (by omega)
      have hq4 := h4 q hq
      refine b_MD_set_110 (pk_le 8 q (fun z => by omega) (fun _ => ⟨vq, ?_⟩))
      rw [cl_n (by omega), hN q hq, nI_1, nI_1]
      rw [vF_split, vF_split, Nat.zero_add] at ih
      unfold gn at ih
      refine pk_eq (setF f 7 s q) 4 (fun e => ?_) (fun e => ⟨vq, ?_⟩)
      · rw [if_neg (by omega), if_neg (by omega)] at ih; exact ih
      · rw [if_pos (by omega), if_pos (by omega)] at ih
        rw [hE.1 71 0 q (by decide), (hwt' q hq (by omega)).1, nI_add]
        exact ih
  exact sum 0 (by omega)
set_option maxHeartbeats 1000000 in
theorem c_setloop {d : Nat} {σ0 : Mem} {Post : Option AV → Mem → Prop} {us : Nat → Prop} {ov : Nat → Nat → Prop} {wt : Nat → Nat} (hwt : ∀ n, n < 8 → (gI σ0 71 0 n = nI (wt n) ∧ wt n ≤ 1000) ∨ ¬ thNM σ0 n) (hus : ∀ n s, n < 8 → s < 4 → us (n * 4 + s) → thNM σ0 n) (hBx : BoxS σ0 us ov) : ∀ (k a : Nat) (f : Nat → Nat), a + k = 7 → okS us ov a f → (∀ (τ : Mem) (b m : Int32) (v4 v5 v6 : AV), StS8 us ov wt (thNM σ0) σ0 a f 5 τ b m → WS (d + 2) M_MD_set 29 [vR 51 0, vI b, vI m, vI (nI a + (-1)), v4, v5, v6] [] τ Post) →
    ∀ s, s ≤ 5 → ∀ (τ : Mem) (b m : Int32) (v4 v5 v6 : AV), StS8 us ov wt (thNM σ0) σ0 a f s τ b m → gI τ 79 0 a = nI s + (-1) → WS (d + 2) M_MD_set 29 [vR 51 0, vI b, vI m, vI (nI a), v4, v5, v6] [] τ Post := by
  have main : ∀ (a : Nat) (f : Nat → Nat), a < 8 → okS us ov a f → (∀ (τ : Mem) (b m : Int32) (v4 v5 v6 : AV), StS8 us ov wt (thNM σ0) σ0 a f 5 τ b m → WS (d + 2) M_MD_set 29 [vR 51 0, vI b, vI m, vI (nI a + (-1)), v4, v5, v6] [] τ Post) →
      (∀ s, s < 5 → ∀ (σ1 : Mem) (b m : Int32) (v4 v5 v6 : AV), Eqs [79, 80] σ0 σ1 → (∀ c, c < a + 1 → gI σ1 79 0 c = nI (setF f a s c)) → BstS us ov wt (thNM σ0) (posB a f s) b m σ1 → okS us ov (a + 1) (setF f a s) → (∀ (τ : Mem) (b m : Int32) (v4 v5 v6 : AV), Eqs [79, 80] σ0 τ → (∀ c, c < a + 1 → gI τ 79 0 c = nI (setF f a s c)) → BstS us ov wt (thNM σ0) (posB a f (s + 1)) b m τ → WS (d + 2) M_MD_set 29 [vR 51 0, vI b, vI m, vI (nI a), v4, v5, v6] [] τ Post) → WS (d + 2) M_MD_set 64 [vR 51 0, vI b, vI m, vI (nI a), v4, v5, v6] [vI (1 : Int32)] σ1 Post) →
      ∀ s, s ≤ 5 → ∀ (τ : Mem) (b m : Int32) (v4 v5 v6 : AV), StS8 us ov wt (thNM σ0) σ0 a f s τ b m → gI τ 79 0 a = nI s + (-1) → WS (d + 2) M_MD_set 29 [vR 51 0, vI b, vI m, vI (nI a), v4, v5, v6] [] τ Post := by
    intro a f ha hf K step
    have va : vp_in (nI a) 8 := vp_n ha (by omega)
    have ea : (nI a).toNatClampNeg = a := cl_n (by omega)
    refine upto 5 ?_ ?_
    · intro τ b m v4 v5 v6 hS h5
      refine b_MD_set_29 (d := d + 1) (pk_lt a 0 (fun q => by omega) (fun _ => ⟨va, va, fun σ3 e3 => ⟨va, ?_⟩⟩))
      rw [ea, h5, m1_1] at e3
      have e5 : gI σ3 79 0 a = nI 5 := by rw [e3, gI_pI, if_pos ⟨rfl, rfl, rfl⟩]
      rw [ea, e5]
      refine pk_le 5 4 (fun q => by omega) (fun _ => ?_)
      exact K σ3 b m v4 v5 v6 ⟨by rw [e3]; exact hS.1.pI (by decide), fun c hc => by rw [e3, gI_pI, if_neg (by omega)]; exact hS.2.1 c hc, hS.2.2.congr (fun g _ => Iff.rfl) (fun c => by rw [e3, gI_pI, if_neg (by omega)])⟩
    · intro s hs ih τ b m v4 v5 v6 hS h5
      refine b_MD_set_29 (d := d + 1) (pk_lt a 0 (fun q => by omega) (fun _ => ⟨va, va, fun σ3 e3 => ⟨va, ?_⟩⟩))
      rw [ea, h5, m1_1] at e3
      have e5 : gI σ3 79 0 a = nI s := by rw [e3, gI_pI, if_pos ⟨rfl, rfl, rfl⟩]
      have E3 : Eqs [79, 80] σ0 σ3 := by rw [e3]; exact hS.1.pI (by decide)
      have N3 : ∀ c, c < a + 1 → gI σ3 79 0 c = nI (setF f a s c) := fun c hc => by
        by_cases p : c = a
        · subst p; rw [setF_s, e5]
        · rw [setF_n f p, e3, gI_pI, if_neg (by omega)]; exact hS.2.1 c (by omega)
      have B3 : BstS us ov wt (thNM σ0) (posB a f s) b m σ3 := hS.2.2.congr (fun g _ => Iff.rfl) (fun c => by rw [e3, gI_pI, if_neg (by omega)])
      have f4 : ∀ c, c ≤ a → setF f a s c ≤ 4 := fun c hc => by
        by_cases p : c = a
        · subst p; rw [setF_s]; omega
        · rw [setF_n f p]; exact (hf c (by omega)).1
      have next : ∀ (τ : Mem) (b m : Int32) (v4 v5 v6 : AV), Eqs [79, 80] σ0 τ → (∀ c, c < a + 1 → gI τ 79 0 c = nI (setF f a s c)) → BstS us ov wt (thNM σ0) (posB a f (s + 1)) b m τ → WS (d + 2) M_MD_set 29 [vR 51 0, vI b, vI m, vI (nI a), v4, v5, v6] [] τ Post := fun τ' b' m' v4 v5 v6 k1 k2 k3 => by
        refine ih τ' b' m' v4 v5 v6 ⟨k1, fun c hc => by rw [k2 c (by omega), setF_n f (by omega)], k3⟩ ?_
        rw [k2 a (by omega), setF_s, ← nI_1, Int32.add_assoc, show (1 : Int32) + (-1) = 0 by decide, Int32.add_zero]
      rw [ea, e5]
      refine pk_le s 4 (fun _ => ?_) (fun q => by omega)
      refine c_MmayCome (f := setF f a s) ha (fun c hc => N3 c (by omega)) f4 (hBx.eq E3) (fun q hq h4 => ?_) (fun q => ?_) (fun q => ?_)
      · rw [setF_n f (by omega)] at h4 ⊢; exact ((hf q hq).2 h4).1
      · refine step s hs σ3 b m v4 v5 v6 E3 N3 B3 (fun n hn => ?_) next
        by_cases p : n = a
        · subst p
          exact ⟨f4 n (Nat.le_refl n), q⟩
        · rw [setF_n f p]
          have z := hf n (by omega)
          exact ⟨z.1, fun h4 => ⟨(z.2 h4).1, fun q hq hq4 => by rw [setF_n f (by omega)] at hq4 ⊢; exact (z.2 h4).2 q hq hq4⟩⟩
      · refine b_MD_set_64f ?_
        refine next σ3 b m v4 v5 v6 E3 N3 (B3.congr (fun g hg => (pos_skip (fun z => q ?_)).symm) (fun _ => rfl))
        intro h4
        rw [setF_s] at h4 ⊢
        have y := (hg a ha).2 (by rw [z.2]; exact h4)
        rw [z.2] at y
        exact ⟨y.1, fun q' hq' hq4 => by rw [setF_n f (by omega)] at hq4 ⊢; rw [← z.1 q' hq'] at hq4 ⊢; exact y.2 q' hq' hq4⟩
  intro k
  induction k with
  | zero =>
    intro a f hk hf K
    obtain rfl : a = 7 := by omega
    refine main 7 f (by omega) hf K (fun s hs σ1 b m v4 v5 v6 E3 N3 B3 hok next => ?_)
    refine b_MD_set_64t (d := d + 1) (pk_le 7 7 (fun _ => ?_) (fun q => by omega))
    exact c_setnew hwt hus (fun n hn => hok n hn) E3 N3 B3 (fun τ' b' m' v4 v5 v6 k1 k2 k3 => next τ' b' m' v4 v5 v6 k1 (fun c hc => by rw [k2]; exact N3 c hc) k3)
  | succ k ihk =>
    intro a f hk hf K
    refine main a f (by omega) hf K (fun s hs σ1 b m v4 v5 v6 E3 N3 B3 hok next => ?_)
    refine b_MD_set_64t (d := d + 1) (pk_le 7 a (fun q => by omega) (fun _ => ?_))
    rw [nI_1]
    have eth : ∀ n, 0 < (gI σ1 67 0 n).toInt ↔ thNM σ0 n := fun n => by rw [E3.1 67 0 n (by decide)]; exact Iff.rfl
    have back : ∀ (τ : Mem) (b m : Int32) (v4 v5 v6 : AV), StS8 us ov wt (thNM σ0) σ0 (a + 1) (setF f a s) 5 τ b m → WS (d + 2) M_MD_set 29 [vR 51 0, vI b, vI m, vI (nI (a + 1) + (-1)), v4, v5, v6] [] τ Post := fun τ' b' m' v4 v5 v6 hS' => by
      rw [pk_m1]
      exact next τ' b' m' v4 v5 v6 hS'.1 hS'.2.1 (hS'.2.2.congr (fun g hg => pos_up (by have := (hg (a + 1) (by omega)).1; omega)) (fun _ => rfl))
    have vn : vp_in (nI (a + 1)) 8 := vp_n (by omega) (by omega)
    refine c_MisName (fun j hj => ?_) (fun hno => ?_)
    · refine b_MD_set_89t ⟨vn, fun σ2 e2 => ?_⟩
      rw [cl_n (by omega)] at e2
      refine ihk (a + 1) (setF f a s) (by omega) hok back 0 (by omega) σ2 b m v4 v5 v6 ⟨by rw [e2]; exact E3.pI (by decide), fun c hc => by rw [e2, gI_pI, if_neg (by omega)]; exact N3 c hc, B3.congr (fun g _ => pos_down.symm) (fun c => by rw [e2, gI_pI, if_neg (by omega)])⟩ (by rw [e2, gI_pI, if_pos ⟨rfl, rfl, rfl⟩]; decide)
    · have hnt : ¬ thNM σ0 (a + 1) := fun z => hno (a + 1) ⟨by omega, rfl, (eth (a + 1)).mpr z⟩
      refine b_MD_set_89f ⟨vn, fun σ2 e2 => ?_⟩
      rw [cl_n (by omega)] at e2
      refine ihk (a + 1) (setF f a s) (by omega) hok back 4 (by omega) σ2 b m v4 v5 v6 ⟨by rw [e2]; exact E3.pI (by decide), fun c hc => by rw [e2, gI_pI, if_neg (by omega)]; exact N3 c hc, B3.congr (fun g hg => ?_) (fun c => by rw [e2, gI_pI, if_neg (by omega)])⟩ (by rw [e2, gI_pI, if_pos ⟨rfl, rfl, rfl⟩]; decide)
      rw [← pos_down]
      have g4 : ¬ g (a + 1) < 4 := fun z => hnt (hus (a + 1) _ (by omega) z ((hg (a + 1) (by omega)).2 z).1)
      unfold posB
      constructor
      · rintro (y | ⟨y1, y2⟩)
        · exact Or.inl y
        · omega
      · rintro (y | ⟨y1, y2⟩)
        · exact Or.inl y
        · omega
theorem c_Mset {d : Nat} {σ : Mem} {Post : Option AV → Mem → Prop} (hv : AllM σ) (hN : NmOM σ) (hC : CtrM σ) (h : ∀ (τ : Mem) (NN : Nat → Nat) (S : Nat) (f : Nat → Nat), Eqs [72, 73, 74, 75, 76, 77, 78, 79, 80] σ τ → (∀ m, m < 8 → thNM σ m → SpNM σ m (NN m) ∧ 1 ≤ NN m ∧ NN m ≤ 12) → SeO (usZ (thNM σ) (nXM σ) (nYM σ) NN (hitM σ)) (ovZ (nXM σ) (nYM σ) NN) (wtNM σ) S f → (∀ n, n < 8 → (thNM σ n → gI τ 80 0 n = nI (f n)) ∧ (¬ thNM σ n → gI τ 80 0 n = -1)) → Post (some (vI (nI S))) τ) : MM (d + 4) M_MD_set [vR 51 0] σ Post := by
  refine MM.of ok_MD_set rfl ?_
  refine b_MD_set_0 ?_
  refine c_Mboxes hv hN hC (fun τ NN hE hB hl => ?_)
  refine b_MD_set_4 ?_
  have eth : ∀ n, thNM τ n ↔ thNM σ n := fun n => by unfold thNM; rw [hE.1 67 0 n (by decide)]
  have hBx : BoxS τ (usZ (thNM σ) (nXM σ) (nYM σ) NN (hitM σ)) (ovZ (nXM σ) (nYM σ) NN) := by
    refine ⟨fun q hq => ?_, fun p q hp hq u1 u2 => hl p q hp hq u1.2.1 u2.2.1⟩
    constructor
    · intro z
      have ht : thNM σ (q / 4) := Classical.byContradiction (fun y => z ((hB q hq).2 y))
      have b := (hB q hq).1 ht
      have := b.2.2.2.2.2.2.mp z
      exact ⟨hq, ht, this.1, this.2⟩
    · rintro ⟨_, ht, z1, z2⟩
      exact ((hB q hq).1 ht).2.2.2.2.2.2.mpr ⟨z1, z2⟩
  have hwt : ∀ n, n < 8 → (gI τ 71 0 n = nI (wtNM σ n) ∧ wtNM σ n ≤ 1000) ∨ ¬ thNM τ n := fun n hn => by
    by_cases z : thNM σ n
    · have := hN n hn z
      rw [hE.1 71 0 n (by decide)]
      exact Or.inl ⟨this.2.2.2.2.1, this.2.2.2.2.2⟩
    · exact Or.inr (fun y => z ((eth n).mp y))
  have hus : ∀ n s, n < 8 → s < 4 → usZ (thNM σ) (nXM σ) (nYM σ) NN (hitM σ) (n * 4 + s) → thNM τ n := fun n s hn hs hu => by
    have := hu.2.1
    rw [show (n * 4 + s) / 4 = n by omega] at this
    exact (eth n).mpr this
  have start : ∀ s, s ≤ 5 → (∀ g, StF (usZ (thNM σ) (nXM σ) (nYM σ) NN (hitM σ)) (ovZ (nXM σ) (nYM σ) NN) g → ¬ posB 0 (fun _ => 0) s g) → ∀ σ1 : Mem, Eqs [79, 80] τ σ1 → gI σ1 79 0 0 = nI s + (-1) → WS (d + 2 + 2) M_MD_set 29 [vR 51 0, vI (-1 : Int32), vI (-1 : Int32), vI (0 : Int32), vU, vU, vU] [] σ1 Post := by
    intro s hs hno σ1 E1 e0
    refine c_setloop (d := d + 2) hwt hus hBx 7 0 (fun _ => 0) (by omega) (fun n hn => by omega) (fun τ2 b m v4 v5 v6 hS => ?_) s hs σ1 (-1) (-1) vU vU vU ⟨E1, fun c hc => by omega, Or.inl ⟨rfl, rfl, hno⟩⟩ e0
    refine b_MD_set_29 (d := d + 3) ⟨fun _ => ?_, fun z => absurd (by decide) z⟩
    have hall : ∀ g, StF (usZ (thNM σ) (nXM σ) (nYM σ) NN (hitM σ)) (ovZ (nXM σ) (nYM σ) NN) g → posB 0 (fun _ => 0) 5 g := fun g hg => Or.inr ⟨fun c hc => by omega, by have := (hg 0 (by omega)).1; omega⟩
    rcases hS.2.2 with ⟨_, _, g3⟩ | ⟨f0, g1, g2, rfl, _, g5, g6⟩
    · have hz : StF (usZ (thNM σ) (nXM σ) (nYM σ) NN (hitM σ)) (ovZ (nXM σ) (nYM σ) NN) (fun _ => 4) := fun n hn => ⟨Nat.le_refl 4, fun z => absurd z (Nat.lt_irrefl 4)⟩
      exact absurd (hall _ hz) (g3 _ hz)
    · refine h τ2 NN _ f0 ((hE.mono (by decide)).tr (hS.1.mono (by decide))) (fun m hm ht => ?_) ⟨g1, rfl, fun g hg => g6 g hg (hall g hg)⟩ (fun n hn => ?_)
      · have b := (hB (4 * m) (by omega)).1 (by rw [show 4 * m / 4 = m by omega]; exact ht)
        rw [show 4 * m / 4 = m by omega] at b
        exact ⟨b.1, b.2.1, b.2.2.1⟩
      · have := g5 n hn
        rw [eth] at this
        exact this
  have v0 : vp_in (0 : Int32) 8 := vp_n (i := 0) (by omega) (by omega)
  refine c_MisName (fun j hj => ?_) (fun hno => ?_)
  · refine b_MD_set_20t ⟨v0, fun σ1 e1 => ?_⟩
    refine start 0 (by omega) (fun g hg hs => ?_) σ1 (by rw [e1]; exact Eqs.rf.pI (by decide)) (by rw [e1, gI_pI, if_pos ⟨rfl, rfl, rfl⟩]; decide)
    rcases hs with ⟨c, c1, c2, _⟩ | ⟨_, c⟩ <;> omega
  · have hnt : ¬ thNM σ 0 := fun z => hno 0 ⟨by omega, rfl, (eth 0).mpr z⟩
    refine b_MD_set_20f ⟨v0, fun σ1 e1 => ?_⟩
    refine start 4 (by omega) (fun g hg hs => ?_) σ1 (by rw [e1]; exact Eqs.rf.pI (by decide)) (by rw [e1, gI_pI, if_pos ⟨rfl, rfl, rfl⟩]; decide)
    rcases hs with ⟨c, c1, c2, _⟩ | ⟨_, c⟩
    · omega
    · have z := ((hg 0 (by omega)).2 c).1
      have := hus 0 _ (by omega) c z
      exact hnt ((eth 0).mp this)
