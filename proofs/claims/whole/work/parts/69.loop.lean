/-! the loop of the law -/
theorem vp_L {i n : Nat} (h : i < n) (hn : n ≤ 2560) : vp_in (nI i) (nI n).toNatClampNeg := by rw [cl_n (by omega)]; exact vp_n h (by omega)
theorem vp_L1 {i n : Nat} (h : i + 5 ≤ n) (hn : n ≤ 2560) : vp_in (nI i + (1 : Int32)) (nI n).toNatClampNeg := by rw [nI_1]; exact vp_L (by omega) hn
theorem vp_L2 {i n : Nat} (h : i + 5 ≤ n) (hn : n ≤ 2560) : vp_in (nI i + (2 : Int32)) (nI n).toNatClampNeg := by rw [show (2 : Int32) = nI 2 from rfl, nI_add]; exact vp_L (by omega) hn
theorem vp_L3 {i n : Nat} (h : i + 5 ≤ n) (hn : n ≤ 2560) : vp_in (nI i + (3 : Int32)) (nI n).toNatClampNeg := by rw [show (3 : Int32) = nI 3 from rfl, nI_add]; exact vp_L (by omega) hn
theorem vp_L4 {i n : Nat} (h : i + 5 ≤ n) (hn : n ≤ 2560) : vp_in (nI i + (4 : Int32)) (nI n).toNatClampNeg := by rw [show (4 : Int32) = nI 4 from rfl, nI_add]; exact vp_L (by omega) hn
theorem l_way {D i n : Nat} {σ : Mem} {Post : Option AV → Mem → Prop} (hI : Inv σ) (hL : gI σ 87 0 0 = nI n) (hi : i + 5 ≤ n) (hn : n ≤ 2560) (k : ∀ τ : Mem, Inv τ → gI τ 87 0 0 = nI n → WS (D + 17) M_Law_law 823 [vR 86 0, vR 0 0, vR 51 0, vI (nI i)] [] τ Post) : WS (D + 17) M_Law_law 132 [vR 86 0, vR 0 0, vR 51 0, vI (nI i)] [] σ Post := by
  refine b_Law_law_132 (d := D + 16) ?_
  rw [hL]
  refine ⟨vp_L1 hi hn, vp_L2 hi hn, vp_L3 hi hn, fun e => ?_, fun e => ?_⟩
  · refine q_way (D := D + 15) hI (Or.inl rfl) _ (fun x τ R hM => ?_)
    refine b_Law_law_159 (d := D + 16) ?_
    simp only [R.1]
    rw [R.2, hL]
    exact ⟨vp_L1 hi hn, vp_L2 hi hn, vp_L3 hi hn, fun _ => hM _ (fun υ hU R2 => b_Law_law_186 (d := D + 17) ⟨fun _ => k υ hU (R2.2.trans hL), fun z => absurd rfl z⟩), fun z => absurd e z⟩
  · refine q_way (D := D + 15) hI (Or.inr rfl) _ (fun x τ R hM => ?_)
    refine b_Law_law_159 (d := D + 16) ?_
    simp only [R.1]
    rw [R.2, hL]
    exact ⟨vp_L1 hi hn, vp_L2 hi hn, vp_L3 hi hn, fun z => absurd z e, fun _ => hM _ (fun υ hU R2 => b_Law_law_186 (d := D + 17) ⟨fun _ => k υ hU (R2.2.trans hL), fun z => absurd rfl z⟩)⟩
theorem l_point {D i n : Nat} {σ : Mem} {Post : Option AV → Mem → Prop} (hI : Inv σ) (hL : gI σ 87 0 0 = nI n) (hi : i + 5 ≤ n) (hn : n ≤ 2560) (k : ∀ τ : Mem, Inv τ → gI τ 87 0 0 = nI n → WS (D + 17) M_Law_law 823 [vR 86 0, vR 0 0, vR 51 0, vI (nI i)] [] τ Post) : WS (D + 17) M_Law_law 191 [vR 86 0, vR 0 0, vR 51 0, vI (nI i)] [] σ Post := by
  refine b_Law_law_191 (d := D + 16) ?_
  rw [hL]
  refine ⟨vp_L1 hi hn, vp_L2 hi hn, vp_L3 hi hn, q_point (D := D + 14) hI _ (fun x τ R hM => ?_)⟩
  refine b_Law_law_210 (d := D + 16) ?_
  simp only [R.1]
  rw [R.2, hL]
  exact ⟨vp_L1 hi hn, vp_L2 hi hn, vp_L3 hi hn, hM _ (fun υ hU R2 => b_Law_law_229 (d := D + 17) ⟨fun _ => k υ hU (R2.2.trans hL), fun z => absurd rfl z⟩)⟩
theorem l_simple {D i n : Nat} {σ : Mem} {Post : Option AV → Mem → Prop} (hI : Inv σ) (hL : gI σ 87 0 0 = nI n) (hi : i + 5 ≤ n) (hn : n ≤ 2560) (k : ∀ τ : Mem, Inv τ → gI τ 87 0 0 = nI n → WS (D + 17) M_Law_law 823 [vR 86 0, vR 0 0, vR 51 0, vI (nI i)] [] τ Post) : WS (D + 17) M_Law_law 234 [vR 86 0, vR 0 0, vR 51 0, vI (nI i)] [] σ Post := by
  refine b_Law_law_234 (d := D + 16) ?_
  rw [hL]
  refine ⟨vp_L1 hi hn, vp_L2 hi hn, q_simple (D := D + 11) hI _ (fun x τ R hM => ?_)⟩
  refine b_Law_law_248 (d := D + 16) ?_
  simp only [R.1]
  rw [R.2, hL]
  exact ⟨vp_L1 hi hn, vp_L2 hi hn, hM _ (fun υ hU R2 => b_Law_law_262 (d := D + 17) ⟨fun _ => k υ hU (R2.2.trans hL), fun z => absurd rfl z⟩)⟩
theorem l_drawn {D i n : Nat} {σ : Mem} {Post : Option AV → Mem → Prop} (hI : Inv σ) (hL : gI σ 87 0 0 = nI n) (hi : i + 5 ≤ n) (hn : n ≤ 2560) (k : ∀ τ : Mem, Inv τ → gI τ 87 0 0 = nI n → WS (D + 17) M_Law_law 823 [vR 86 0, vR 0 0, vR 51 0, vI (nI i)] [] τ Post) : WS (D + 17) M_Law_law 267 [vR 86 0, vR 0 0, vR 51 0, vI (nI i)] [] σ Post := by
  refine b_Law_law_267 (d := D + 16) ?_
  rw [hL]
  refine ⟨vp_L1 hi hn, vp_L2 hi hn, q_drawn (D := D + 14) hI _ (fun x τ R hM => ?_)⟩
  refine b_Law_law_281 (d := D + 16) ?_
  simp only [R.1]
  rw [R.2, hL]
  exact ⟨vp_L1 hi hn, vp_L2 hi hn, hM _ (fun υ hU R2 => b_Law_law_295 (d := D + 17) ⟨fun _ => k υ hU (R2.2.trans hL), fun z => absurd rfl z⟩)⟩
theorem l_turn {D i n : Nat} {σ : Mem} {Post : Option AV → Mem → Prop} (hI : Inv σ) (hL : gI σ 87 0 0 = nI n) (hi : i + 5 ≤ n) (hn : n ≤ 2560) (k : ∀ τ : Mem, Inv τ → gI τ 87 0 0 = nI n → WS (D + 17) M_Law_law 823 [vR 86 0, vR 0 0, vR 51 0, vI (nI i)] [] τ Post) : WS (D + 17) M_Law_law 300 [vR 86 0, vR 0 0, vR 51 0, vI (nI i)] [] σ Post := by
  refine b_Law_law_300 (d := D + 16) ?_
  rw [hL]
  refine ⟨vp_L1 hi hn, vp_L2 hi hn, q_turn (D := D + 14) hI _ (fun x τ R hM => ?_)⟩
  refine b_Law_law_314 (d := D + 16) ?_
  simp only [R.1]
  rw [R.2, hL]
  exact ⟨vp_L1 hi hn, vp_L2 hi hn, hM _ (fun υ hU R2 => b_Law_law_328 (d := D + 17) ⟨fun _ => k υ hU (R2.2.trans hL), fun z => absurd rfl z⟩)⟩
theorem l_gap {D i n : Nat} {σ : Mem} {Post : Option AV → Mem → Prop} (hI : Inv σ) (hL : gI σ 87 0 0 = nI n) (hi : i + 5 ≤ n) (hn : n ≤ 2560) (k : ∀ τ : Mem, Inv τ → gI τ 87 0 0 = nI n → WS (D + 17) M_Law_law 823 [vR 86 0, vR 0 0, vR 51 0, vI (nI i)] [] τ Post) : WS (D + 17) M_Law_law 333 [vR 86 0, vR 0 0, vR 51 0, vI (nI i)] [] σ Post := by
  refine b_Law_law_333 (d := D + 16) ?_
  rw [hL]
  refine ⟨vp_L1 hi hn, q_gap (D := D + 15) hI _ (fun x τ R hM => ?_)⟩
  refine b_Law_law_342 (d := D + 16) ?_
  simp only [R.1]
  rw [R.2, hL]
  exact ⟨vp_L1 hi hn, hM _ (fun υ hU R2 => b_Law_law_351 (d := D + 17) ⟨fun _ => k υ hU (R2.2.trans hL), fun z => absurd rfl z⟩)⟩
theorem l_near {D i n : Nat} {σ : Mem} {Post : Option AV → Mem → Prop} (hI : Inv σ) (hL : gI σ 87 0 0 = nI n) (hi : i + 5 ≤ n) (hn : n ≤ 2560) (k : ∀ τ : Mem, Inv τ → gI τ 87 0 0 = nI n → WS (D + 17) M_Law_law 823 [vR 86 0, vR 0 0, vR 51 0, vI (nI i)] [] τ Post) : WS (D + 17) M_Law_law 356 [vR 86 0, vR 0 0, vR 51 0, vI (nI i)] [] σ Post := by
  refine b_Law_law_356 (d := D + 16) ?_
  rw [hL]
  refine ⟨vp_L1 hi hn, vp_L2 hi hn, q_near (D := D + 9) hI _ (fun x τ R hM => ?_)⟩
  refine b_Law_law_370 (d := D + 16) ?_
  simp only [R.1]
  rw [R.2, hL]
  exact ⟨vp_L1 hi hn, vp_L2 hi hn, hM _ (fun υ hU R2 => b_Law_law_384 (d := D + 17) ⟨fun _ => k υ hU (R2.2.trans hL), fun z => absurd rfl z⟩)⟩
theorem l_crossings {D i n : Nat} {σ : Mem} {Post : Option AV → Mem → Prop} (hI : Inv σ) (hL : gI σ 87 0 0 = nI n) (hi : i + 5 ≤ n) (hn : n ≤ 2560) (k : ∀ τ : Mem, Inv τ → gI τ 87 0 0 = nI n → WS (D + 17) M_Law_law 823 [vR 86 0, vR 0 0, vR 51 0, vI (nI i)] [] τ Post) : WS (D + 17) M_Law_law 389 [vR 86 0, vR 0 0, vR 51 0, vI (nI i)] [] σ Post := by
  refine b_Law_law_389 (d := D + 16) ?_
  rw [hL]
  refine ⟨vp_L1 hi hn, vp_L2 hi hn, q_crossings (D := D + 12) hI _ (fun x τ R hM => ?_)⟩
  refine b_Law_law_403 (d := D + 16) ?_
  simp only [R.1]
  rw [R.2, hL]
  exact ⟨vp_L1 hi hn, vp_L2 hi hn, hM _ (fun υ hU R2 => b_Law_law_417 (d := D + 17) ⟨fun _ => k υ hU (R2.2.trans hL), fun z => absurd rfl z⟩)⟩
theorem l_keep {D i n : Nat} {σ : Mem} {Post : Option AV → Mem → Prop} (hI : Inv σ) (hL : gI σ 87 0 0 = nI n) (hi : i + 5 ≤ n) (hn : n ≤ 2560) (k : ∀ τ : Mem, Inv τ → gI τ 87 0 0 = nI n → WS (D + 17) M_Law_law 823 [vR 86 0, vR 0 0, vR 51 0, vI (nI i)] [] τ Post) : WS (D + 17) M_Law_law 422 [vR 86 0, vR 0 0, vR 51 0, vI (nI i)] [] σ Post := by
  refine b_Law_law_422 (d := D + 16) ?_
  refine q_keep (D := D) hI _ (fun x τ R hM => ?_)
  refine b_Law_law_426 (d := D + 16) ?_
  exact hM _ (fun υ hU R2 => b_Law_law_430 (d := D + 17) ⟨fun _ => k υ hU (R2.2.trans hL), fun z => absurd rfl z⟩)
theorem l_kept {D i n : Nat} {σ : Mem} {Post : Option AV → Mem → Prop} (hI : Inv σ) (hL : gI σ 87 0 0 = nI n) (hi : i + 5 ≤ n) (hn : n ≤ 2560) (k : ∀ τ : Mem, Inv τ → gI τ 87 0 0 = nI n → WS (D + 17) M_Law_law 823 [vR 86 0, vR 0 0, vR 51 0, vI (nI i)] [] τ Post) : WS (D + 17) M_Law_law 435 [vR 86 0, vR 0 0, vR 51 0, vI (nI i)] [] σ Post := by
  refine b_Law_law_435 (d := D + 16) ?_
  rw [hL]
  refine ⟨vp_L1 hi hn, q_kept (D := D + 15) hI _ (fun x τ R hM => ?_)⟩
  refine b_Law_law_444 (d := D + 16) ?_
  simp only [R.1]
  rw [R.2, hL]
  exact ⟨vp_L1 hi hn, hM _ (fun υ hU R2 => b_Law_law_453 (d := D + 17) ⟨fun _ => k υ hU (R2.2.trans hL), fun z => absurd rfl z⟩)⟩
theorem l_letter {D i n : Nat} {σ : Mem} {Post : Option AV → Mem → Prop} (hI : Inv σ) (hL : gI σ 87 0 0 = nI n) (hi : i + 5 ≤ n) (hn : n ≤ 2560) (k : ∀ τ : Mem, Inv τ → gI τ 87 0 0 = nI n → WS (D + 17) M_Law_law 823 [vR 86 0, vR 0 0, vR 51 0, vI (nI i)] [] τ Post) : WS (D + 17) M_Law_law 458 [vR 86 0, vR 0 0, vR 51 0, vI (nI i)] [] σ Post := by
  refine b_Law_law_458 (d := D + 16) ?_
  rw [hL]
  refine ⟨vp_L1 hi hn, q_letter (D := D + 15) hI _ (fun x τ R hM => ?_)⟩
  refine b_Law_law_467 (d := D + 16) ?_
  simp only [R.1]
  rw [R.2, hL]
  exact ⟨vp_L1 hi hn, hM _ (fun υ hU R2 => b_Law_law_476 (d := D + 17) ⟨fun _ => k υ hU (R2.2.trans hL), fun z => absurd rfl z⟩)⟩
theorem l_contract {D i n : Nat} {σ : Mem} {Post : Option AV → Mem → Prop} (hI : Inv σ) (hL : gI σ 87 0 0 = nI n) (hi : i + 5 ≤ n) (hn : n ≤ 2560) (k : ∀ τ : Mem, Inv τ → gI τ 87 0 0 = nI n → WS (D + 17) M_Law_law 823 [vR 86 0, vR 0 0, vR 51 0, vI (nI i)] [] τ Post) : WS (D + 17) M_Law_law 481 [vR 86 0, vR 0 0, vR 51 0, vI (nI i)] [] σ Post := by
  refine b_Law_law_481 (d := D + 16) ?_
  rw [hL]
  refine ⟨vp_L1 hi hn, vp_L2 hi hn, q_contract (D := D + 13) hI _ (fun x τ R hM => ?_)⟩
  refine b_Law_law_495 (d := D + 16) ?_
  simp only [R.1]
  rw [R.2, hL]
  exact ⟨vp_L1 hi hn, vp_L2 hi hn, hM _ (fun υ hU R2 => b_Law_law_509 (d := D + 17) ⟨fun _ => k υ hU (R2.2.trans hL), fun z => absurd rfl z⟩)⟩
theorem l_name {D i n : Nat} {σ : Mem} {Post : Option AV → Mem → Prop} (hI : Inv σ) (hL : gI σ 87 0 0 = nI n) (hi : i + 5 ≤ n) (hn : n ≤ 2560) (k : ∀ τ : Mem, Inv τ → gI τ 87 0 0 = nI n → WS (D + 17) M_Law_law 823 [vR 86 0, vR 0 0, vR 51 0, vI (nI i)] [] τ Post) : WS (D + 17) M_Law_law 514 [vR 86 0, vR 0 0, vR 51 0, vI (nI i)] [] σ Post := by
  refine b_Law_law_514 (d := D + 16) ?_
  rw [hL]
  refine ⟨vp_L1 hi hn, vp_L2 hi hn, vp_L3 hi hn, vp_L4 hi hn, q_name (D := D + 13) hI _ (fun x τ R hM => ?_)⟩
  refine b_Law_law_538 (d := D + 16) ?_
  simp only [R.1]
  rw [R.2, hL]
  exact ⟨vp_L1 hi hn, vp_L2 hi hn, vp_L3 hi hn, vp_L4 hi hn, hM _ (fun υ hU R2 => b_Law_law_562 (d := D + 17) ⟨fun _ => k υ hU (R2.2.trans hL), fun z => absurd rfl z⟩)⟩
theorem l_erase {D i n : Nat} {σ : Mem} {Post : Option AV → Mem → Prop} (hI : Inv σ) (hL : gI σ 87 0 0 = nI n) (hi : i + 5 ≤ n) (hn : n ≤ 2560) (k : ∀ τ : Mem, Inv τ → gI τ 87 0 0 = nI n → WS (D + 17) M_Law_law 823 [vR 86 0, vR 0 0, vR 51 0, vI (nI i)] [] τ Post) : WS (D + 17) M_Law_law 567 [vR 86 0, vR 0 0, vR 51 0, vI (nI i)] [] σ Post := by
  refine b_Law_law_567 (d := D + 16) ?_
  rw [hL]
  refine ⟨vp_L1 hi hn, q_erase (D := D + 14) hI _ (fun x τ R hM => ?_)⟩
  refine b_Law_law_576 (d := D + 16) ?_
  simp only [R.1]
  rw [R.2, hL]
  exact ⟨vp_L1 hi hn, hM _ (fun υ hU R2 => b_Law_law_585 (d := D + 17) ⟨fun _ => k υ hU (R2.2.trans hL), fun z => absurd rfl z⟩)⟩
theorem l_cell {D i n : Nat} {σ : Mem} {Post : Option AV → Mem → Prop} (hI : Inv σ) (hL : gI σ 87 0 0 = nI n) (hi : i + 5 ≤ n) (hn : n ≤ 2560) (k : ∀ τ : Mem, Inv τ → gI τ 87 0 0 = nI n → WS (D + 17) M_Law_law 823 [vR 86 0, vR 0 0, vR 51 0, vI (nI i)] [] τ Post) : WS (D + 17) M_Law_law 590 [vR 86 0, vR 0 0, vR 51 0, vI (nI i)] [] σ Post := by
  refine b_Law_law_590 (d := D + 16) ?_
  rw [hL]
  refine ⟨vp_L1 hi hn, vp_L2 hi hn, q_cell (D := D + 13) hI _ (fun x τ R hM => ?_)⟩
  refine b_Law_law_604 (d := D + 16) ?_
  simp only [R.1]
  rw [R.2, hL]
  exact ⟨vp_L1 hi hn, vp_L2 hi hn, hM _ (fun υ hU R2 => b_Law_law_618 (d := D + 17) ⟨fun _ => k υ hU (R2.2.trans hL), fun z => absurd rfl z⟩)⟩
theorem l_set {D i n : Nat} {σ : Mem} {Post : Option AV → Mem → Prop} (hI : Inv σ) (hL : gI σ 87 0 0 = nI n) (hi : i + 5 ≤ n) (hn : n ≤ 2560) (k : ∀ τ : Mem, Inv τ → gI τ 87 0 0 = nI n → WS (D + 17) M_Law_law 823 [vR 86 0, vR 0 0, vR 51 0, vI (nI i)] [] τ Post) : WS (D + 17) M_Law_law 623 [vR 86 0, vR 0 0, vR 51 0, vI (nI i)] [] σ Post := by
  refine b_Law_law_623 (d := D + 16) ?_
  refine q_set (D := D + 4) hI _ (fun x τ R hM => ?_)
  refine b_Law_law_627 (d := D + 16) ?_
  exact hM _ (fun υ hU R2 => b_Law_law_631 (d := D + 17) ⟨fun _ => k υ hU (R2.2.trans hL), fun z => absurd rfl z⟩)
theorem l_spot {D i n : Nat} {σ : Mem} {Post : Option AV → Mem → Prop} (hI : Inv σ) (hL : gI σ 87 0 0 = nI n) (hi : i + 5 ≤ n) (hn : n ≤ 2560) (k : ∀ τ : Mem, Inv τ → gI τ 87 0 0 = nI n → WS (D + 17) M_Law_law 823 [vR 86 0, vR 0 0, vR 51 0, vI (nI i)] [] τ Post) : WS (D + 17) M_Law_law 636 [vR 86 0, vR 0 0, vR 51 0, vI (nI i)] [] σ Post := by
  refine b_Law_law_636 (d := D + 16) ?_
  rw [hL]
  refine ⟨vp_L1 hi hn, q_spot (D := D + 15) hI _ (fun x τ R hM => ?_)⟩
  refine b_Law_law_645 (d := D + 16) ?_
  simp only [R.1]
  rw [R.2, hL]
  exact ⟨vp_L1 hi hn, hM _ (fun υ hU R2 => b_Law_law_654 (d := D + 17) ⟨fun _ => k υ hU (R2.2.trans hL), fun z => absurd rfl z⟩)⟩
theorem l_touch {D i n : Nat} {σ : Mem} {Post : Option AV → Mem → Prop} (hI : Inv σ) (hL : gI σ 87 0 0 = nI n) (hi : i + 5 ≤ n) (hn : n ≤ 2560) (k : ∀ τ : Mem, Inv τ → gI τ 87 0 0 = nI n → WS (D + 17) M_Law_law 823 [vR 86 0, vR 0 0, vR 51 0, vI (nI i)] [] τ Post) : WS (D + 17) M_Law_law 659 [vR 86 0, vR 0 0, vR 51 0, vI (nI i)] [] σ Post := by
  refine b_Law_law_659 (d := D + 16) ?_
  rw [hL]
  refine ⟨vp_L1 hi hn, vp_L2 hi hn, vp_L3 hi hn, fun e => ?_, fun e => ?_⟩
  · refine q_touch (D := D + 14) hI (Or.inl rfl) _ (fun x τ R hM => ?_)
    refine b_Law_law_686 (d := D + 16) ?_
    simp only [R.1]
    rw [R.2, hL]
    exact ⟨vp_L1 hi hn, vp_L2 hi hn, vp_L3 hi hn, fun _ => hM _ (fun υ hU R2 => b_Law_law_713 (d := D + 17) ⟨fun _ => k υ hU (R2.2.trans hL), fun z => absurd rfl z⟩), fun z => absurd e z⟩
  · refine q_touch (D := D + 14) hI (Or.inr rfl) _ (fun x τ R hM => ?_)
    refine b_Law_law_686 (d := D + 16) ?_
    simp only [R.1]
    rw [R.2, hL]
    exact ⟨vp_L1 hi hn, vp_L2 hi hn, vp_L3 hi hn, fun z => absurd z e, fun _ => hM _ (fun υ hU R2 => b_Law_law_713 (d := D + 17) ⟨fun _ => k υ hU (R2.2.trans hL), fun z => absurd rfl z⟩)⟩
theorem l_apart {D i n : Nat} {σ : Mem} {Post : Option AV → Mem → Prop} (hI : Inv σ) (hL : gI σ 87 0 0 = nI n) (hi : i + 5 ≤ n) (hn : n ≤ 2560) (k : ∀ τ : Mem, Inv τ → gI τ 87 0 0 = nI n → WS (D + 17) M_Law_law 823 [vR 86 0, vR 0 0, vR 51 0, vI (nI i)] [] τ Post) : WS (D + 17) M_Law_law 718 [vR 86 0, vR 0 0, vR 51 0, vI (nI i)] [] σ Post := by
  refine b_Law_law_718 (d := D + 16) ?_
  rw [hL]
  refine ⟨vp_L1 hi hn, vp_L2 hi hn, vp_L3 hi hn, fun e => ?_, fun e => ?_⟩
  · refine q_apart (D := D + 14) hI (Or.inl rfl) _ (fun x τ R hM => ?_)
    refine b_Law_law_745 (d := D + 16) ?_
    simp only [R.1]
    rw [R.2, hL]
    exact ⟨vp_L1 hi hn, vp_L2 hi hn, vp_L3 hi hn, fun _ => hM _ (fun υ hU R2 => b_Law_law_772 (d := D + 17) ⟨fun _ => k υ hU (R2.2.trans hL), fun z => absurd rfl z⟩), fun z => absurd e z⟩
  · refine q_apart (D := D + 14) hI (Or.inr rfl) _ (fun x τ R hM => ?_)
    refine b_Law_law_745 (d := D + 16) ?_
    simp only [R.1]
    rw [R.2, hL]
    exact ⟨vp_L1 hi hn, vp_L2 hi hn, vp_L3 hi hn, fun z => absurd z e, fun _ => hM _ (fun υ hU R2 => b_Law_law_772 (d := D + 17) ⟨fun _ => k υ hU (R2.2.trans hL), fun z => absurd rfl z⟩)⟩
theorem l_lay {D i n : Nat} {σ : Mem} {Post : Option AV → Mem → Prop} (hI : Inv σ) (hL : gI σ 87 0 0 = nI n) (hi : i + 5 ≤ n) (hn : n ≤ 2560) (k : ∀ τ : Mem, Inv τ → gI τ 87 0 0 = nI n → WS (D + 17) M_Law_law 823 [vR 86 0, vR 0 0, vR 51 0, vI (nI i)] [] τ Post) : WS (D + 17) M_Law_law 777 [vR 86 0, vR 0 0, vR 51 0, vI (nI i)] [] σ Post := by
  refine b_Law_law_777 (d := D + 16) ?_
  rw [hL]
  refine ⟨vp_L1 hi hn, q_lay (D := D + 4) hI _ (fun x τ R hM => ?_)⟩
  refine b_Law_law_786 (d := D + 16) ?_
  simp only [R.1]
  rw [R.2, hL]
  exact ⟨vp_L1 hi hn, hM _ (fun υ hU R2 => b_Law_law_795 (d := D + 17) ⟨fun _ => k υ hU (R2.2.trans hL), fun z => absurd rfl z⟩)⟩
theorem l_texture {D i n : Nat} {σ : Mem} {Post : Option AV → Mem → Prop} (hI : Inv σ) (hL : gI σ 87 0 0 = nI n) (hi : i + 5 ≤ n) (hn : n ≤ 2560) (k : ∀ τ : Mem, Inv τ → gI τ 87 0 0 = nI n → WS (D + 17) M_Law_law 823 [vR 86 0, vR 0 0, vR 51 0, vI (nI i)] [] τ Post) : WS (D + 17) M_Law_law 800 [vR 86 0, vR 0 0, vR 51 0, vI (nI i)] [] σ Post := by
  refine b_Law_law_800 (d := D + 16) ?_
  rw [hL]
  refine ⟨vp_L1 hi hn, q_texture (D := D + 15) hI _ (fun x τ R hM => ?_)⟩
  refine b_Law_law_809 (d := D + 16) ?_
  simp only [R.1]
  rw [R.2, hL]
  exact ⟨vp_L1 hi hn, hM _ (fun υ hU R2 => b_Law_law_818 (d := D + 17) ⟨fun _ => k υ hU (R2.2.trans hL), fun z => absurd rfl z⟩)⟩
theorem f_sw : fet M_Law_law.tab 32 = some (.tableswitch 791 0 20 #[100, 159, 202, 235, 268, 301, 324, 357, 390, 403, 426, 449, 482, 535, 558, 591, 604, 627, 686, 745, 768], 100) := rfl
theorem law_disp {D i n k : Nat} {σ : Mem} {Post : Option AV → Mem → Prop} (hk : k < 32) (hI : Inv σ) (hL : gI σ 87 0 0 = nI n) (hi : i + 5 ≤ n) (hn : n ≤ 2560) (c : ∀ τ : Mem, Inv τ → gI τ 87 0 0 = nI n → WS (D + 17) M_Law_law 823 [vR 86 0, vR 0 0, vR 51 0, vI (nI i)] [] τ Post) : WS (D + 17) M_Law_law 32 [vR 86 0, vR 0 0, vR 51 0, vI (nI i)] [vI (nI k)] σ Post := by
  have ek : (nI k).toInt = k := nI_t (by omega)
  rcases Nat.lt_or_ge 20 k with z | z
  · exact WS.swOut f_sw (Or.inr (by omega)) (tgt := 823) rfl (c σ hI hL)
  · have : k = 0 ∨ k = 1 ∨ k = 2 ∨ k = 3 ∨ k = 4 ∨ k = 5 ∨ k = 6 ∨ k = 7 ∨ k = 8 ∨ k = 9 ∨ k = 10 ∨ k = 11 ∨ k = 12 ∨ k = 13 ∨ k = 14 ∨ k = 15 ∨ k = 16 ∨ k = 17 ∨ k = 18 ∨ k = 19 ∨ k = 20 := by omega
    rcases this with rfl | rfl | rfl | rfl | rfl | rfl | rfl | rfl | rfl | rfl | rfl | rfl | rfl | rfl | rfl | rfl | rfl | rfl | rfl | rfl | rfl
    · exact WS.swIn (off := 100) (tgt := 132) f_sw (by decide) (by decide) rfl rfl (l_way hI hL hi hn c)
    · exact WS.swIn (off := 159) (tgt := 191) f_sw (by decide) (by decide) rfl rfl (l_point hI hL hi hn c)
    · exact WS.swIn (off := 202) (tgt := 234) f_sw (by decide) (by decide) rfl rfl (l_simple hI hL hi hn c)
    · exact WS.swIn (off := 235) (tgt := 267) f_sw (by decide) (by decide) rfl rfl (l_drawn hI hL hi hn c)
    · exact WS.swIn (off := 268) (tgt := 300) f_sw (by decide) (by decide) rfl rfl (l_turn hI hL hi hn c)
    · exact WS.swIn (off := 301) (tgt := 333) f_sw (by decide) (by decide) rfl rfl (l_gap hI hL hi hn c)
    · exact WS.swIn (off := 324) (tgt := 356) f_sw (by decide) (by decide) rfl rfl (l_near hI hL hi hn c)
    · exact WS.swIn (off := 357) (tgt := 389) f_sw (by decide) (by decide) rfl rfl (l_crossings hI hL hi hn c)
    · exact WS.swIn (off := 390) (tgt := 422) f_sw (by decide) (by decide) rfl rfl (l_keep hI hL hi hn c)
    · exact WS.swIn (off := 403) (tgt := 435) f_sw (by decide) (by decide) rfl rfl (l_kept hI hL hi hn c)
    · exact WS.swIn (off := 426) (tgt := 458) f_sw (by decide) (by decide) rfl rfl (l_letter hI hL hi hn c)
    · exact WS.swIn (off := 449) (tgt := 481) f_sw (by decide) (by decide) rfl rfl (l_contract hI hL hi hn c)
    · exact WS.swIn (off := 482) (tgt := 514) f_sw (by decide) (by decide) rfl rfl (l_name hI hL hi hn c)
    · exact WS.swIn (off := 535) (tgt := 567) f_sw (by decide) (by decide) rfl rfl (l_erase hI hL hi hn c)
    · exact WS.swIn (off := 558) (tgt := 590) f_sw (by decide) (by decide) rfl rfl (l_cell hI hL hi hn c)
    · exact WS.swIn (off := 591) (tgt := 623) f_sw (by decide) (by decide) rfl rfl (l_set hI hL hi hn c)
    · exact WS.swIn (off := 604) (tgt := 636) f_sw (by decide) (by decide) rfl rfl (l_spot hI hL hi hn c)
    · exact WS.swIn (off := 627) (tgt := 659) f_sw (by decide) (by decide) rfl rfl (l_touch hI hL hi hn c)
    · exact WS.swIn (off := 686) (tgt := 718) f_sw (by decide) (by decide) rfl rfl (l_apart hI hL hi hn c)
    · exact WS.swIn (off := 745) (tgt := 777) f_sw (by decide) (by decide) rfl rfl (l_lay hI hL hi hn c)
    · exact WS.swIn (off := 768) (tgt := 800) f_sw (by decide) (by decide) rfl rfl (l_texture hI hL hi hn c)
theorem law_loop {D n : Nat} {Post : Option AV → Mem → Prop} (hn : n ≤ 2560) (hP : ∀ τ : Mem, Post (some (vI 1)) τ) : ∀ (m i : Nat) (σ : Mem), n ≤ i + m → i ≤ n + 5 → Inv σ → gI σ 87 0 0 = nI n → WS (D + 17) M_Law_law 18 [vR 86 0, vR 0 0, vR 51 0, vI (nI i)] [] σ Post := by
  have es : (nI n - 5).toInt = n - 5 := by rw [t_sub, nI_t (by omega), t_5] <;> rw [nI_t (by omega), t_5] <;> omega
  intro m
  induction m with
  | zero =>
    intro i σ h1 h2 hI hL
    refine b_Law_law_18 ⟨fun _ => hP σ, fun z => absurd ?_ z⟩
    rw [hL, t_lt, es, nI_t (by omega)]; omega
  | succ m ih =>
    intro i σ h1 h2 hI hL
    refine b_Law_law_18 ⟨fun _ => hP σ, fun z => ?_⟩
    rw [hL, t_lt, es, nI_t (by omega)] at z
    have hi : i + 5 ≤ n := by omega
    rw [hL]
    refine ⟨vp_L (by omega) hn, ?_⟩
    obtain ⟨k, hk, e⟩ := pk_andE (gI σ 86 0 (nI i).toNatClampNeg) (m := 31) 5 (by decide)
    rw [e]
    refine law_disp hk hI hL hi hn (fun τ hT hLT => b_Law_law_823 ?_)
    rw [show (5 : Int32) = nI 5 from rfl, nI_add]
    exact ih (i + 5) τ (by omega) (by omega) hT hLT
