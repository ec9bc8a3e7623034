/-! contracts: crossings -/
/-- how many of the first n -/
noncomputable def cN (p : Nat → Prop) : Nat → Nat
  | 0 => 0
  | n + 1 => cN p n + @ite _ (p n) (Classical.propDecidable _) 1 0
def sN (f : Nat → Nat) : Nat → Nat
  | 0 => 0
  | n + 1 => sN f n + f n
theorem cN_s (p : Nat → Prop) (n : Nat) : cN p (n + 1) = cN p n + @ite _ (p n) (Classical.propDecidable _) 1 0 := rfl
theorem cN_t {p : Nat → Prop} {n : Nat} (h : p n) : cN p (n + 1) = cN p n + 1 := by rw [cN_s, if_pos h]
theorem cN_f {p : Nat → Prop} {n : Nat} (h : ¬ p n) : cN p (n + 1) = cN p n := by rw [cN_s, if_neg h]; rfl
theorem sN_s (f : Nat → Nat) (n : Nat) : sN f (n + 1) = sN f n + f n := rfl
theorem cN_le (p : Nat → Prop) (n : Nat) : cN p n ≤ n := by
  induction n with
  | zero => exact Nat.le_refl 0
  | succ n ih =>
    by_cases h : p n
    · rw [cN_t h]; omega
    · rw [cN_f h]; omega
theorem cN_congr {p q : Nat → Prop} {n : Nat} (h : ∀ i, i < n → (p i ↔ q i)) : cN p n = cN q n := by
  induction n with
  | zero => rfl
  | succ n ih =>
    have e := ih (fun i hi => h i (by omega))
    by_cases hp : p n
    · rw [cN_t hp, cN_t ((h n (by omega)).mp hp), e]
    · rw [cN_f hp, cN_f (fun z => hp ((h n (by omega)).mpr z)), e]
theorem sN_congr {f g : Nat → Nat} {n : Nat} (h : ∀ i, i < n → f i = g i) : sN f n = sN g n := by
  induction n with
  | zero => rfl
  | succ n ih => rw [sN_s, sN_s, ih (fun i hi => h i (by omega)), h n (by omega)]
theorem sN_le {f : Nat → Nat} {m : Nat} (h : ∀ i, f i ≤ m) (n : Nat) : sN f n ≤ n * m := by
  induction n with
  | zero => simp [sN]
  | succ n ih => rw [sN_s]; have := h n; rw [Nat.succ_mul]; omega
noncomputable def crW (σ : Mem) (a b sa sb : Nat) : Nat := sN (fun i => cN (fun j => crossZ (lnW σ a i) (lnW σ b j)) (sb - 1)) (sa - 1)
noncomputable def crM (σ : Mem) (a b sa sb : Nat) : Nat := sN (fun i => cN (fun j => crossZ (lnMW σ a i) (lnMW σ b j)) (sb - 1)) (sa - 1)
set_option maxRecDepth 4000 in
set_option maxHeartbeats 400000 in
theorem c_countCrossed {d : Nat} {σ : Mem} {Post : Option AV → Mem → Prop} {a b ca sa cb sb : Nat} (ha : WayV σ a ca sa) (hb : WayV σ b cb sb) (h : ∀ τ : Mem, Eqs [11, 12] σ τ → Post (some (vI (nI (crW σ a b sa sb)))) τ) : MM (d + 3) M_Ruler_countCrossed [vR 10 0, vR 2 a, vR 2 b] σ Post := by
  obtain ⟨hsa, hsb⟩ : sa ≤ 20 ∧ sb ≤ 20 := by have := ha.2.2.1; have := ha.2.2.2.1; have := hb.2.2.1; have := hb.2.2.2.1; omega
  have n2 : 2 ∉ [11, 12] ∧ 3 ∉ [11, 12] ∧ 4 ∉ [11, 12] ∧ 5 ∉ [11, 12] := by decide
  refine MM.of ok_Ruler_countCrossed rfl ?_
  show WS _ M_Ruler_countCrossed 0 [vR 10 0, vR 2 a, vR 2 b, vU, vU, vU] [] σ _
  have key : ∀ i, i ≤ sa - 1 → ∀ (τ : Mem) (n : Int32) (v5 : AV), Eqs [11, 12] σ τ → n = (nI (sN (fun i => cN (fun j => crossZ (lnW σ a i) (lnW σ b j)) (sb - 1)) i)) → WS (d + 3) M_Ruler_countCrossed 5 [vR 10 0, vR 2 a, vR 2 b, vI n, vI (nI i), v5] [] τ Post := by
    refine upto (sa - 1) ?_ ?_
    · intro τ n v5 hE hn
      have hat := ha.eq hE n2.1 n2.2.1 n2.2.2.1 n2.2.2.2
      refine WS.run (C := []) (pc' := 13) (L' := [vR 10 0, vR 2 a, vR 2 b, vI n, vI (nI (sa - 1)), v5]) (S' := [vI (gI τ 2 a 4 - (1 : Int32)), vI (nI (sa - 1))]) (σ' := τ) 5 rfl trivial ?_
      refine WS.br (P := (gI τ 2 a 4 - (1 : Int32)) ≤ (nI (sa - 1))) (a := 79) (b := 16) (S' := []) rfl (fun _ => ?_) (fun cc => absurd ((lc1 hat.2.1 (by omega) (by omega)).mpr (by omega)) cc)
      refine WS.run (C := []) (pc' := 80) (L' := [vR 10 0, vR 2 a, vR 2 b, vI n, vI (nI (sa - 1)), v5]) (S' := [vI n]) (σ' := τ) 1 rfl trivial ?_
      exact WS.ret rfl rfl (by decide) rfl (by rw [hn]; exact h _ hE)
    · intro i hi ih τ n v5 hE hn
      have hat := ha.eq hE n2.1 n2.2.1 n2.2.2.1 n2.2.2.2
      refine WS.run (C := []) (pc' := 13) (L' := [vR 10 0, vR 2 a, vR 2 b, vI n, vI (nI i), v5]) (S' := [vI (gI τ 2 a 4 - (1 : Int32)), vI (nI i)]) (σ' := τ) 5 rfl trivial ?_
      refine WS.br (P := (gI τ 2 a 4 - (1 : Int32)) ≤ (nI i)) (a := 79) (b := 16) (S' := []) rfl (fun cc => absurd cc (fun z => by have := (lc1 hat.2.1 (by omega) (by omega)).mp z; omega)) (fun _ => ?_)
      refine WS.run (C := []) (pc' := 23) (L' := [vR 10 0, vR 2 a, vR 2 b, vI n, vI (nI i), v5]) (S' := [vR 11 0, vI (nI i), vR 2 a]) (σ' := τ) 4 rfl trivial ?_
      refine WS.callV M_Way_bringLine (k := 2) (i := a) (as := [vI (nI i), vR 11 0]) (rest := []) rfl lk_5_62 rfl rfl rfl (Nat.le_of_ble_eq_true rfl) ?_
      refine c_bringLine (Or.inl rfl) (by omega) (vp_nb hat (by omega)) (vp_nb hat (by omega)) (fun υ1 f1a f1b => ?_)
      show WS _ M_Ruler_countCrossed 26 [vR 10 0, vR 2 a, vR 2 b, vI n, vI (nI i), v5] [] υ1 _
      refine WS.run (C := []) (pc' := 29) (L' := [vR 10 0, vR 2 a, vR 2 b, vI n, vI (nI i), vI (0 : Int32)]) (S' := []) (σ' := υ1) 2 rfl trivial ?_
      have hE1 : Eqs [11, 12] σ υ1 := hE.tr (f1a.mono (by decide))
      have e11 : lnC υ1 11 = lnW σ a i := by rw [f1b]; exact lnW_eq hE n2.2.1 n2.2.2.1 n2.2.2.2 a i
      have inn : ∀ j, j ≤ sb - 1 → ∀ (υ : Mem) (m : Int32), Eqs [12] υ1 υ → m = (nI (sN (fun i => cN (fun j => crossZ (lnW σ a i) (lnW σ b j)) (sb - 1)) i + cN (fun j => crossZ (lnW σ a i) (lnW σ b j)) j)) → WS (d + 3) M_Ruler_countCrossed 29 [vR 10 0, vR 2 a, vR 2 b, vI m, vI (nI i), vI (nI j)] [] υ Post := by
        refine upto (sb - 1) ?_ ?_
        · intro υ m hF hm
          have hE2 : Eqs [11, 12] σ υ := hE1.tr (hF.mono (by decide))
          have hbu := hb.eq hE2 n2.1 n2.2.1 n2.2.2.1 n2.2.2.2
          refine WS.run (C := []) (pc' := 37) (L' := [vR 10 0, vR 2 a, vR 2 b, vI m, vI (nI i), vI (nI (sb - 1))]) (S' := [vI (gI υ 2 b 4 - (1 : Int32)), vI (nI (sb - 1))]) (σ' := υ) 5 rfl trivial ?_
          refine WS.br (P := (gI υ 2 b 4 - (1 : Int32)) ≤ (nI (sb - 1))) (a := 73) (b := 40) (S' := []) rfl (fun _ => ?_) (fun cc => absurd ((lc1 hbu.2.1 (by omega) (by omega)).mpr (by omega)) cc)
          refine WS.run (C := []) (pc' := 5) (L' := [vR 10 0, vR 2 a, vR 2 b, vI m, vI ((nI i) + (1 : Int32)), vI (nI (sb - 1))]) (S' := []) (σ' := υ) 2 rfl trivial ?_
          simp only [nI_1]
          exact ih υ _ _ hE2 (by rw [hm]; rfl)
        · intro j hj ih2 υ m hF hm
          have hE2 : Eqs [11, 12] σ υ := hE1.tr (hF.mono (by decide))
          have hbu := hb.eq hE2 n2.1 n2.2.1 n2.2.2.1 n2.2.2.2
          refine WS.run (C := []) (pc' := 37) (L' := [vR 10 0, vR 2 a, vR 2 b, vI m, vI (nI i), vI (nI j)]) (S' := [vI (gI υ 2 b 4 - (1 : Int32)), vI (nI j)]) (σ' := υ) 5 rfl trivial ?_
          refine WS.br (P := (gI υ 2 b 4 - (1 : Int32)) ≤ (nI j)) (a := 73) (b := 40) (S' := []) rfl (fun cc => absurd cc (fun z => by have := (lc1 hbu.2.1 (by omega) (by omega)).mp z; omega)) (fun _ => ?_)
          refine WS.run (C := []) (pc' := 47) (L' := [vR 10 0, vR 2 a, vR 2 b, vI m, vI (nI i), vI (nI j)]) (S' := [vR 12 0, vI (nI j), vR 2 b]) (σ' := υ) 4 rfl trivial ?_
          refine WS.callV M_Way_bringLine (k := 2) (i := b) (as := [vI (nI j), vR 12 0]) (rest := []) rfl lk_5_62 rfl rfl rfl (Nat.le_of_ble_eq_true rfl) ?_
          refine c_bringLine (Or.inr (Or.inl rfl)) (by omega) (vp_nb hbu (by omega)) (vp_nb hbu (by omega)) (fun υ2 f2a f2b => ?_)
          show WS _ M_Ruler_countCrossed 50 [vR 10 0, vR 2 a, vR 2 b, vI m, vI (nI i), vI (nI j)] [] υ2 _
          refine WS.run (C := []) (pc' := 58) (L' := [vR 10 0, vR 2 a, vR 2 b, vI m, vI (nI i), vI (nI j)]) (S' := [vR 12 0, vR 11 0]) (σ' := υ2) 4 rfl trivial ?_
          refine WS.callV M_Line_crosses (k := 11) (i := 0) (as := [vR 12 0]) (rest := []) rfl lk_5_74 rfl rfl rfl (Nat.le_of_ble_eq_true rfl) ?_
          have e12 : lnC υ2 12 = lnW σ b j := by rw [f2b]; exact lnW_eq hE2 n2.2.1 n2.2.2.1 n2.2.2.2 b j
          have e11u : lnC υ2 11 = lnW σ a i := by rw [← e11, lnC_eq (hF.tr f2a) (by decide)]
          refine c_crosses (Or.inl ⟨rfl, rfl⟩) (by rw [e11u]; exact lnB_W ha (by omega)) (by rw [e12]; exact lnB_W hb (by omega)) (fun q3 => ?_) (fun q3 => ?_)
          · rw [e11u, e12] at q3
            show WS _ M_Ruler_countCrossed 61 [vR 10 0, vR 2 a, vR 2 b, vI m, vI (nI i), vI (nI j)] [vI (1 : Int32)] υ2 _
            refine WS.br (P := (1 : Int32) = 0) (a := 67) (b := 64) (S' := []) rfl (fun cc => absurd cc (by decide)) (fun _ => ?_)
            refine WS.run (C := []) (pc' := 29) (L' := [vR 10 0, vR 2 a, vR 2 b, vI (m + (1 : Int32)), vI (nI i), vI ((nI j) + (1 : Int32))]) (S' := []) (σ' := υ2) 3 rfl trivial ?_
            simp only [nI_1]
            exact ih2 υ2 _ (hF.tr f2a) (by rw [hm, cN_t (p := fun j => crossZ (lnW σ a i) (lnW σ b j)) q3, nI_1, Nat.add_assoc])
          · rw [e11u, e12] at q3
            show WS _ M_Ruler_countCrossed 61 [vR 10 0, vR 2 a, vR 2 b, vI m, vI (nI i), vI (nI j)] [vI (0 : Int32)] υ2 _
            refine WS.br (P := (0 : Int32) = 0) (a := 67) (b := 64) (S' := []) rfl (fun _ => ?_) (fun cc => absurd (by decide) cc)
            refine WS.run (C := []) (pc' := 29) (L' := [vR 10 0, vR 2 a, vR 2 b, vI m, vI (nI i), vI ((nI j) + (1 : Int32))]) (S' := []) (σ' := υ2) 2 rfl trivial ?_
            simp only [nI_1]
            exact ih2 υ2 _ (hF.tr f2a) (by rw [hm, cN_f (p := fun j => crossZ (lnW σ a i) (lnW σ b j)) q3])
      exact inn 0 (by omega) υ1 _ Eqs.rf (by rw [hn]; rfl)
  refine WS.run (C := []) (pc' := 5) (L' := [vR 10 0, vR 2 a, vR 2 b, vI (0 : Int32), vI (0 : Int32), vU]) (S' := []) (σ' := σ) 4 rfl trivial ?_
  exact key 0 (by omega) σ _ vU Eqs.rf rfl
