/-! contracts: which ways there are; nearness of ways -/
theorem t_11 : (11 : Int32).toInt = 11 := by decide
set_option maxRecDepth 4000 in
set_option maxHeartbeats 400000 in
theorem c_MisIn {d : Nat} {σ : Mem} {Post : Option AV → Mem → Prop} {v m n : Int32} (h1 : m.toInt ≤ v.toInt → v.toInt ≤ n.toInt → Post (some (vI 1)) σ) (h0 : ¬ (m.toInt ≤ v.toInt ∧ v.toInt ≤ n.toInt) → Post (some (vI 0)) σ) : MM d M_MD_isIn [vI v, vI m, vI n] σ Post := by
  refine MM.of ok_MD_isIn rfl ?_
  show WS _ M_MD_isIn 0 [vI v, vI m, vI n] [] σ _
  refine WS.run (C := []) (pc' := 2) (L' := [vI v, vI m, vI n]) (S' := [vI m, vI v]) (σ' := σ) 2 rfl trivial ?_
  refine WS.br (P := v < m) (a := 14) (b := 5) (S' := []) rfl (fun c1 => ?_) (fun c1 => ?_)
  · refine WS.run (C := []) (pc' := 15) (L' := [vI v, vI m, vI n]) (S' := [vI (0 : Int32)]) (σ' := σ) 1 rfl trivial ?_
    exact WS.ret rfl rfl (by decide) rfl (by simp only [t_lt, t_le] at *; exact h0 (by omega))
  · refine WS.run (C := []) (pc' := 7) (L' := [vI v, vI m, vI n]) (S' := [vI n, vI v]) (σ' := σ) 2 rfl trivial ?_
    refine WS.br (P := n < v) (a := 14) (b := 10) (S' := []) rfl (fun c2 => ?_) (fun c2 => ?_)
    · refine WS.run (C := []) (pc' := 15) (L' := [vI v, vI m, vI n]) (S' := [vI (0 : Int32)]) (σ' := σ) 1 rfl trivial ?_
      exact WS.ret rfl rfl (by decide) rfl (by simp only [t_lt, t_le] at *; exact h0 (by omega))
    · refine WS.run (C := []) (pc' := 15) (L' := [vI v, vI m, vI n]) (S' := [vI (1 : Int32)]) (σ' := σ) 2 rfl trivial ?_
      exact WS.ret rfl rfl (by decide) rfl (by simp only [t_lt, t_le] at *; exact h1 (by omega) (by omega))
set_option maxRecDepth 4000 in
set_option maxHeartbeats 400000 in
theorem c_hasPoints {d : Nat} {σ : Mem} {Post : Option AV → Mem → Prop} {w : Int32} (h1 : ∀ j : Nat, j ≤ 11 → w = nI j → 0 < (gI σ 2 j 3).toInt → Post (some (vI 1)) σ) (h0 : (∀ j : Nat, j ≤ 11 → w = nI j → ¬ 0 < (gI σ 2 j 3).toInt) → Post (some (vI 0)) σ) : MM (d + 1) M_TM_hasPoints [vR 0 0, vI w] σ Post := by
  refine MM.of ok_TM_hasPoints rfl ?_
  show WS _ M_TM_hasPoints 0 [vR 0 0, vI w] [] σ _
  refine WS.run (C := []) (pc' := 3) (L' := [vR 0 0, vI w]) (S' := [vI (11 : Int32), vI w]) (σ' := σ) 2 rfl trivial ?_
  refine WS.callS M_TM_inRange (as := [vI w, vI (11 : Int32)]) (rest := []) rfl lk_10_71 rfl rfl (Nat.le_of_ble_eq_true rfl) ?_
  refine c_inRange (fun q1a q1b => ?_) (fun q1 => ?_)
  · obtain ⟨j, hj, rfl⟩ := t_nat (x := w) (n := 11) (by first | omega | (simp only [t_0] at *; omega)) (by first | omega | (simp only [t_11] at *; omega)) (by omega)
    have e_j : (nI j).toNatClampNeg = j := cl_n (by omega)
    show WS _ M_TM_hasPoints 6 [vR 0 0, vI (nI j)] [vI (1 : Int32)] σ _
    refine WS.br (P := (1 : Int32) = 0) (a := 25) (b := 9) (S' := []) rfl (fun cc => absurd cc (by decide)) (fun _ => ?_)
    refine WS.run (C := [vp_in (nI j) 12]) (pc' := 18) (L' := [vR 0 0, vI (nI j)]) (S' := [vI (gI σ 2 ((nI j).toNatClampNeg) 3)]) (σ' := σ) 5 rfl ⟨(vp_n (by omega) (by omega)), trivial⟩ ?_
    simp only [e_j]
    refine WS.br (P := (gI σ 2 (j) 3) ≤ 0) (a := 25) (b := 21) (S' := []) rfl (fun c2 => ?_) (fun c2 => ?_)
    · refine WS.run (C := []) (pc' := 26) (L' := [vR 0 0, vI (nI j)]) (S' := [vI (0 : Int32)]) (σ' := σ) 1 rfl trivial ?_
      exact WS.ret rfl rfl (by decide) rfl (by simp only [t_le, t_0] at *; refine h0 (fun i hi ei => ?_); obtain rfl : i = j := (nI_eq (by omega) (by omega)).mp ei.symm; omega)
    · refine WS.run (C := []) (pc' := 26) (L' := [vR 0 0, vI (nI j)]) (S' := [vI (1 : Int32)]) (σ' := σ) 2 rfl trivial ?_
      exact WS.ret rfl rfl (by decide) rfl (by simp only [t_le, t_0] at *; exact h1 j hj rfl (by omega))
  · show WS _ M_TM_hasPoints 6 [vR 0 0, vI w] [vI (0 : Int32)] σ _
    refine WS.br (P := (0 : Int32) = 0) (a := 25) (b := 9) (S' := []) rfl (fun _ => ?_) (fun cc => absurd (by decide) cc)
    refine WS.run (C := []) (pc' := 26) (L' := [vR 0 0, vI w]) (S' := [vI (0 : Int32)]) (σ' := σ) 1 rfl trivial ?_
    exact WS.ret rfl rfl (by decide) rfl (h0 (fun i hi ei => absurd (by rw [ei, nI_t (by omega), t_11]; omega) q1))
set_option maxRecDepth 4000 in
set_option maxHeartbeats 400000 in
theorem c_MisWay {d : Nat} {σ : Mem} {Post : Option AV → Mem → Prop} {w : Int32} (h1 : ∀ j : Nat, j ≤ 11 → w = nI j → gI σ 52 0 j ≠ 0 → Post (some (vI 1)) σ) (h0 : (∀ j : Nat, j ≤ 11 → w = nI j → gI σ 52 0 j = 0) → Post (some (vI 0)) σ) : MM (d + 1) M_MD_isWay [vR 51 0, vI w] σ Post := by
  refine MM.of ok_MD_isWay rfl ?_
  show WS _ M_MD_isWay 0 [vR 51 0, vI w] [] σ _
  refine WS.run (C := []) (pc' := 4) (L' := [vR 51 0, vI w]) (S' := [vI (11 : Int32), vI (0 : Int32), vI w]) (σ' := σ) 3 rfl trivial ?_
  refine WS.callS M_MD_isIn (as := [vI w, vI (0 : Int32), vI (11 : Int32)]) (rest := []) rfl lk_11_114 rfl rfl (Nat.le_of_ble_eq_true rfl) ?_
  refine c_MisIn (fun q1a q1b => ?_) (fun q1 => ?_)
  · obtain ⟨j, hj, rfl⟩ := t_nat (x := w) (n := 11) (by first | omega | (simp only [t_0] at *; omega)) (by first | omega | (simp only [t_11] at *; omega)) (by omega)
    have e_j : (nI j).toNatClampNeg = j := cl_n (by omega)
    show WS _ M_MD_isWay 7 [vR 51 0, vI (nI j)] [vI (1 : Int32)] σ _
    refine WS.br (P := (1 : Int32) = 0) (a := 23) (b := 10) (S' := []) rfl (fun cc => absurd cc (by decide)) (fun _ => ?_)
    refine WS.run (C := [vp_in (nI j) 12]) (pc' := 16) (L' := [vR 51 0, vI (nI j)]) (S' := [vI (gI σ 52 0 (nI j).toNatClampNeg)]) (σ' := σ) 4 rfl ⟨(vp_n (by omega) (by omega)), trivial⟩ ?_
    simp only [e_j]
    refine WS.br (P := (gI σ 52 0 j) = 0) (a := 23) (b := 19) (S' := []) rfl (fun c2 => ?_) (fun c2 => ?_)
    · refine WS.run (C := []) (pc' := 24) (L' := [vR 51 0, vI (nI j)]) (S' := [vI (0 : Int32)]) (σ' := σ) 1 rfl trivial ?_
      exact WS.ret rfl rfl (by decide) rfl (h0 (fun i hi ei => by obtain rfl : i = j := (nI_eq (by omega) (by omega)).mp ei.symm; exact c2))
    · refine WS.run (C := []) (pc' := 24) (L' := [vR 51 0, vI (nI j)]) (S' := [vI (1 : Int32)]) (σ' := σ) 2 rfl trivial ?_
      exact WS.ret rfl rfl (by decide) rfl (h1 j hj rfl c2)
  · show WS _ M_MD_isWay 7 [vR 51 0, vI w] [vI (0 : Int32)] σ _
    refine WS.br (P := (0 : Int32) = 0) (a := 23) (b := 10) (S' := []) rfl (fun _ => ?_) (fun cc => absurd (by decide) cc)
    refine WS.run (C := []) (pc' := 24) (L' := [vR 51 0, vI w]) (S' := [vI (0 : Int32)]) (σ' := σ) 1 rfl trivial ?_
    exact WS.ret rfl rfl (by decide) rfl (h0 (fun i hi ei => absurd (by rw [ei, nI_t (by omega), t_0, t_11]; omega) q1))
set_option maxRecDepth 4000 in
set_option maxHeartbeats 400000 in
theorem c_MisThere {d : Nat} {σ : Mem} {Post : Option AV → Mem → Prop} {w : Int32} (h1 : ∀ j : Nat, j ≤ 11 → w = nI j → gI σ 52 0 j ≠ 0 → 0 < (gI σ 55 0 j).toInt → Post (some (vI 1)) σ) (h0 : (∀ j : Nat, j ≤ 11 → w = nI j → gI σ 52 0 j ≠ 0 → ¬ 0 < (gI σ 55 0 j).toInt) → Post (some (vI 0)) σ) : MM (d + 2) M_MD_isThere [vR 51 0, vI w] σ Post := by
  refine MM.of ok_MD_isThere rfl ?_
  show WS _ M_MD_isThere 0 [vR 51 0, vI w] [] σ _
  refine WS.run (C := []) (pc' := 2) (L' := [vR 51 0, vI w]) (S' := [vI w, vR 51 0]) (σ' := σ) 2 rfl trivial ?_
  refine WS.callV M_MD_isWay (k := 51) (i := 0) (as := [vI w]) (rest := []) rfl lk_11_118 rfl rfl rfl (Nat.le_of_ble_eq_true rfl) ?_
  refine c_MisWay (fun j hj ej q1 => ?_) (fun q1 => ?_)
  · subst ej
    have e_j : (nI j).toNatClampNeg = j := cl_n (by omega)
    show WS _ M_MD_isThere 5 [vR 51 0, vI (nI j)] [vI (1 : Int32)] σ _
    refine WS.br (P := (1 : Int32) = 0) (a := 21) (b := 8) (S' := []) rfl (fun cc => absurd cc (by decide)) (fun _ => ?_)
    refine WS.run (C := [vp_in (nI j) 12]) (pc' := 14) (L' := [vR 51 0, vI (nI j)]) (S' := [vI (gI σ 55 0 (nI j).toNatClampNeg)]) (σ' := σ) 4 rfl ⟨(vp_n (by omega) (by omega)), trivial⟩ ?_
    simp only [e_j]
    refine WS.br (P := (gI σ 55 0 j) ≤ 0) (a := 21) (b := 17) (S' := []) rfl (fun c2 => ?_) (fun c2 => ?_)
    · refine WS.run (C := []) (pc' := 22) (L' := [vR 51 0, vI (nI j)]) (S' := [vI (0 : Int32)]) (σ' := σ) 1 rfl trivial ?_
      exact WS.ret rfl rfl (by decide) rfl (by simp only [t_le, t_0] at *; refine h0 (fun i hi ei _ => ?_); obtain rfl : i = j := (nI_eq (by omega) (by omega)).mp ei.symm; omega)
    · refine WS.run (C := []) (pc' := 22) (L' := [vR 51 0, vI (nI j)]) (S' := [vI (1 : Int32)]) (σ' := σ) 2 rfl trivial ?_
      exact WS.ret rfl rfl (by decide) rfl (by simp only [t_le, t_0] at *; exact h1 j hj rfl q1 (by omega))
  · show WS _ M_MD_isThere 5 [vR 51 0, vI w] [vI (0 : Int32)] σ _
    refine WS.br (P := (0 : Int32) = 0) (a := 21) (b := 8) (S' := []) rfl (fun _ => ?_) (fun cc => absurd (by decide) cc)
    refine WS.run (C := []) (pc' := 22) (L' := [vR 51 0, vI w]) (S' := [vI (0 : Int32)]) (σ' := σ) 1 rfl trivial ?_
    exact WS.ret rfl rfl (by decide) rfl (h0 (fun i hi ei z => absurd (q1 i hi ei) z))
def mn (σ : Mem) (w i : Nat) : Nat := (gI σ 59 0 (20 * w + i)).toNatClampNeg
def lnMW (σ : Mem) (w i : Nat) : Ln := lnM σ (20 * w + mn σ w i) (20 * w + mn σ w (i + 1))
/-- a way of the model that may be read -/
def WayM (σ : Mem) (w c s : Nat) : Prop := gI σ 55 0 w = nI c ∧ gI σ 58 0 w = nI s ∧ c ≤ 20 ∧ s ≤ c ∧ (∀ i, i < c → mP σ (20 * w + i)) ∧ (∀ i, i < s → mn σ w i < c ∧ gI σ 59 0 (20 * w + i) = nI (mn σ w i))
theorem m20 (w : Nat) : (20 : Int32) * nI w = nI (20 * w) := pk_mul 20 w
def NearM (σ : Mem) (a b sa sb : Nat) (g : Int) : Prop := ∃ i j, i + 1 < sa ∧ j + 1 < sb ∧ closeZ (lnMW σ a i) (lnMW σ b j) g
set_option maxRecDepth 4000 in
set_option maxHeartbeats 400000 in
theorem c_Mat {d : Nat} {σ : Mem} {Post : Option AV → Mem → Prop} {w k c s : Nat} (hw : w < 12) (hv : WayM σ w c s) (hk : k < s) (h : Post (some (vI (nI (20 * w + mn σ w k)))) σ) : MM d M_MD_at [vR 51 0, vI (nI w), vI (nI k)] σ Post := by
  have hs : s ≤ 20 := by have := hv.2.2.1; have := hv.2.2.2.1; omega
  refine MM.of ok_MD_at rfl ?_
  show WS _ M_MD_at 0 [vR 51 0, vI (nI w), vI (nI k)] [] σ _
  refine WS.run (C := [vp_in (((20 : Int32) * (nI w)) + (nI k)) 240]) (pc' := 16) (L' := [vR 51 0, vI (nI w), vI (nI k)]) (S' := [vI (((20 : Int32) * (nI w)) + gI σ 59 0 (((20 : Int32) * (nI w)) + (nI k)).toNatClampNeg)]) (σ' := σ) 12 rfl ⟨(by rw [m20, nI_add]; exact vp_n (by omega) (by omega)), trivial⟩ ?_
  exact WS.ret rfl rfl (by decide) rfl (by rw [m20, nI_add, cl_n (by omega), (hv.2.2.2.2.2 k hk).2, nI_add]; exact h)
theorem mP_at {σ : Mem} {w c s k : Nat} (hv : WayM σ w c s) (hk : k < s) : mP σ (20 * w + mn σ w k) := hv.2.2.2.2.1 _ (hv.2.2.2.2.2 k hk).1
theorem lc2 {x : Int32} {s i : Nat} (h : x = nI s) (hs : s ≤ 1000) (hi : i ≤ 1000) : (x ≤ nI i + 1) ↔ s ≤ i + 1 := by
  rw [h, nI_1, t_le, nI_t (by omega), nI_t (by omega)]; omega
theorem lc3 {x : Int32} {s i : Nat} (h : x = nI s) (hs : s ≤ 1000) (hi : i ≤ 1000) : (x ≤ nI (i + 1)) ↔ s ≤ i + 1 := by
  rw [h, t_le, nI_t (by omega), nI_t (by omega)]; omega
set_option maxRecDepth 4000 in
set_option maxHeartbeats 400000 in
theorem c_MareNear {d : Nat} {σ : Mem} {Post : Option AV → Mem → Prop} {a b ca sa cb sb : Nat} (ha : a < 12) (hb : b < 12) (va : WayM σ a ca sa) (vb : WayM σ b cb sb) (hg : 0 ≤ (gI σ 51 0 9).toInt ∧ (gI σ 51 0 9).toInt ≤ 100) (h1 : NearM σ a b sa sb (gI σ 51 0 9).toInt → Post (some (vI 1)) σ) (h0 : ¬ NearM σ a b sa sb (gI σ 51 0 9).toInt → Post (some (vI 0)) σ) : MM (d + 6) M_MD_areNear [vR 51 0, vI (nI a), vI (nI b)] σ Post := by
  have e_a : (nI a).toNatClampNeg = a := cl_n (by omega)
  have e_b : (nI b).toNatClampNeg = b := cl_n (by omega)
  obtain ⟨hsa, hsb⟩ : sa ≤ 20 ∧ sb ≤ 20 := by have := va.2.2.1; have := va.2.2.2.1; have := vb.2.2.1; have := vb.2.2.2.1; omega
  refine MM.of ok_MD_areNear rfl ?_
  show WS _ M_MD_areNear 0 [vR 51 0, vI (nI a), vI (nI b), vU, vU] [] σ _
  have key : ∀ i, i ≤ sa - 1 → ∀ (v5 : AV), (∀ i2 j2, i2 < i → i2 + 1 < sa → j2 + 1 < sb → ¬ closeZ (lnMW σ a i2) (lnMW σ b j2) (gI σ 51 0 9).toInt) → WS (d + 6) M_MD_areNear 2 [vR 51 0, vI (nI a), vI (nI b), vI (nI i), v5] [] σ Post := by
    refine upto (sa - 1) ?_ ?_
    · intro v5 hN
      refine WS.run (C := [vp_in (nI a) 12]) (pc' := 11) (L' := [vR 51 0, vI (nI a), vI (nI b), vI (nI (sa - 1)), v5]) (S' := [vI (gI σ 58 0 (nI a).toNatClampNeg), vI ((nI (sa - 1)) + (1 : Int32))]) (σ' := σ) 7 rfl ⟨(vp_n (by omega) (by omega)), trivial⟩ ?_
      simp only [nI_1, e_a, e_b]
      refine WS.br (P := (gI σ 58 0 a) ≤ (nI ((sa - 1) + 1))) (a := 81) (b := 14) (S' := []) rfl (fun _ => ?_) (fun cc => absurd ((lc3 va.2.1 (by omega) (by omega)).mpr (by omega)) cc)
      refine WS.run (C := []) (pc' := 82) (L' := [vR 51 0, vI (nI a), vI (nI b), vI (nI (sa - 1)), v5]) (S' := [vI (0 : Int32)]) (σ' := σ) 1 rfl trivial ?_
      exact WS.ret rfl rfl (by decide) rfl (h0 (by rintro ⟨i2, j2, z1, z2, z3⟩; exact hN i2 j2 (by omega) z1 z2 z3))
    · intro i hi ih v5 hN
      refine WS.run (C := [vp_in (nI a) 12]) (pc' := 11) (L' := [vR 51 0, vI (nI a), vI (nI b), vI (nI i), v5]) (S' := [vI (gI σ 58 0 (nI a).toNatClampNeg), vI ((nI i) + (1 : Int32))]) (σ' := σ) 7 rfl ⟨(vp_n (by omega) (by omega)), trivial⟩ ?_
      simp only [nI_1, e_a, e_b]
      refine WS.br (P := (gI σ 58 0 a) ≤ (nI (i + 1))) (a := 81) (b := 14) (S' := []) rfl (fun cc => absurd cc (fun z => by have := (lc3 va.2.1 (by omega) (by omega)).mp z; omega)) (fun _ => ?_)
      refine WS.run (C := []) (pc' := 17) (L' := [vR 51 0, vI (nI a), vI (nI b), vI (nI i), vI (0 : Int32)]) (S' := []) (σ' := σ) 2 rfl trivial ?_
      have inn : ∀ j, j ≤ sb - 1 → (∀ j2, j2 < j → j2 + 1 < sb → ¬ closeZ (lnMW σ a i) (lnMW σ b j2) (gI σ 51 0 9).toInt) → WS (d + 6) M_MD_areNear 17 [vR 51 0, vI (nI a), vI (nI b), vI (nI i), vI (nI j)] [] σ Post := by
        refine upto (sb - 1) ?_ ?_
        · intro hM
          refine WS.run (C := [vp_in (nI b) 12]) (pc' := 27) (L' := [vR 51 0, vI (nI a), vI (nI b), vI (nI i), vI (nI (sb - 1))]) (S' := [vI (gI σ 58 0 (nI b).toNatClampNeg), vI ((nI (sb - 1)) + (1 : Int32))]) (σ' := σ) 7 rfl ⟨(vp_n (by omega) (by omega)), trivial⟩ ?_
          simp only [nI_1, e_a, e_b]
          refine WS.br (P := (gI σ 58 0 b) ≤ (nI ((sb - 1) + 1))) (a := 75) (b := 30) (S' := []) rfl (fun _ => ?_) (fun cc => absurd ((lc3 vb.2.1 (by omega) (by omega)).mpr (by omega)) cc)
          refine WS.run (C := []) (pc' := 2) (L' := [vR 51 0, vI (nI a), vI (nI b), vI ((nI i) + (1 : Int32)), vI (nI (sb - 1))]) (S' := []) (σ' := σ) 2 rfl trivial ?_
          simp only [nI_1, e_a, e_b]
          exact ih _ (fun i2 j2 z1 z2 z3 => by
            rcases Nat.lt_or_ge i2 i with q | q
            · exact hN i2 j2 q z2 z3
            · have : i2 = i := by omega
              subst this
              exact hM j2 (by omega) z3)
        · intro j hj ih2 hM
          refine WS.run (C := [vp_in (nI b) 12]) (pc' := 27) (L' := [vR 51 0, vI (nI a), vI (nI b), vI (nI i), vI (nI j)]) (S' := [vI (gI σ 58 0 (nI b).toNatClampNeg), vI ((nI j) + (1 : Int32))]) (σ' := σ) 7 rfl ⟨(vp_n (by omega) (by omega)), trivial⟩ ?_
          simp only [nI_1, e_a, e_b]
          refine WS.br (P := (gI σ 58 0 b) ≤ (nI (j + 1))) (a := 75) (b := 30) (S' := []) rfl (fun cc => absurd cc (fun z => by have := (lc3 vb.2.1 (by omega) (by omega)).mp z; omega)) (fun _ => ?_)
          refine WS.run (C := []) (pc' := 34) (L' := [vR 51 0, vI (nI a), vI (nI b), vI (nI i), vI (nI j)]) (S' := [vI (nI i), vI (nI a), vR 51 0, vR 51 0]) (σ' := σ) 4 rfl trivial ?_
          refine WS.callV M_MD_at (k := 51) (i := 0) (as := [vI (nI a), vI (nI i)]) (rest := [vR 51 0]) rfl lk_11_150 rfl rfl rfl (Nat.le_of_ble_eq_true rfl) ?_
          refine c_Mat ha va (by omega) ?_
          show WS _ M_MD_areNear 37 [vR 51 0, vI (nI a), vI (nI b), vI (nI i), vI (nI j)] [vI (nI (20 * a + mn σ a i)), vR 51 0] σ _
          refine WS.run (C := []) (pc' := 42) (L' := [vR 51 0, vI (nI a), vI (nI b), vI (nI i), vI (nI j)]) (S' := [vI ((nI i) + (1 : Int32)), vI (nI a), vR 51 0, vI (nI (20 * a + mn σ a i)), vR 51 0]) (σ' := σ) 5 rfl trivial ?_
          simp only [nI_1, e_a, e_b]
          refine WS.callV M_MD_at (k := 51) (i := 0) (as := [vI (nI a), vI (nI (i + 1))]) (rest := [vI (nI (20 * a + mn σ a i)), vR 51 0]) rfl lk_11_150 rfl rfl rfl (Nat.le_of_ble_eq_true rfl) ?_
          refine c_Mat ha va (by omega) ?_
          show WS _ M_MD_areNear 45 [vR 51 0, vI (nI a), vI (nI b), vI (nI i), vI (nI j)] [vI (nI (20 * a + mn σ a (i + 1))), vI (nI (20 * a + mn σ a i)), vR 51 0] σ _
          refine WS.run (C := []) (pc' := 49) (L' := [vR 51 0, vI (nI a), vI (nI b), vI (nI i), vI (nI j)]) (S' := [vI (nI j), vI (nI b), vR 51 0, vI (nI (20 * a + mn σ a (i + 1))), vI (nI (20 * a + mn σ a i)), vR 51 0]) (σ' := σ) 3 rfl trivial ?_
          refine WS.callV M_MD_at (k := 51) (i := 0) (as := [vI (nI b), vI (nI j)]) (rest := [vI (nI (20 * a + mn σ a (i + 1))), vI (nI (20 * a + mn σ a i)), vR 51 0]) rfl lk_11_150 rfl rfl rfl (Nat.le_of_ble_eq_true rfl) ?_
          refine c_Mat hb vb (by omega) ?_
          show WS _ M_MD_areNear 52 [vR 51 0, vI (nI a), vI (nI b), vI (nI i), vI (nI j)] [vI (nI (20 * b + mn σ b j)), vI (nI (20 * a + mn σ a (i + 1))), vI (nI (20 * a + mn σ a i)), vR 51 0] σ _
          refine WS.run (C := []) (pc' := 58) (L' := [vR 51 0, vI (nI a), vI (nI b), vI (nI i), vI (nI j)]) (S' := [vI ((nI j) + (1 : Int32)), vI (nI b), vR 51 0, vI (nI (20 * b + mn σ b j)), vI (nI (20 * a + mn σ a (i + 1))), vI (nI (20 * a + mn σ a i)), vR 51 0]) (σ' := σ) 5 rfl trivial ?_
          simp only [nI_1, e_a, e_b]
          refine WS.callV M_MD_at (k := 51) (i := 0) (as := [vI (nI b), vI (nI (j + 1))]) (rest := [vI (nI (20 * b + mn σ b j)), vI (nI (20 * a + mn σ a (i + 1))), vI (nI (20 * a + mn σ a i)), vR 51 0]) rfl lk_11_150 rfl rfl rfl (Nat.le_of_ble_eq_true rfl) ?_
          refine c_Mat hb vb (by omega) ?_
          show WS _ M_MD_areNear 61 [vR 51 0, vI (nI a), vI (nI b), vI (nI i), vI (nI j)] [vI (nI (20 * b + mn σ b (j + 1))), vI (nI (20 * b + mn σ b j)), vI (nI (20 * a + mn σ a (i + 1))), vI (nI (20 * a + mn σ a i)), vR 51 0] σ _
          refine WS.callV M_MD_isClose (k := 51) (i := 0) (as := [vI (nI (20 * a + mn σ a i)), vI (nI (20 * a + mn σ a (i + 1))), vI (nI (20 * b + mn σ b j)), vI (nI (20 * b + mn σ b (j + 1)))]) (rest := []) rfl lk_11_170 rfl rfl rfl (Nat.le_of_ble_eq_true rfl) ?_
          refine c_MisClose (mP_at va (by omega)) (mP_at va (by omega)) (mP_at vb (by omega)) (mP_at vb (by omega)) hg (fun q1 => ?_) (fun q1 => ?_)
          · show WS _ M_MD_areNear 64 [vR 51 0, vI (nI a), vI (nI b), vI (nI i), vI (nI j)] [vI (1 : Int32)] σ _
            refine WS.br (P := (1 : Int32) = 0) (a := 69) (b := 67) (S' := []) rfl (fun cc => absurd cc (by decide)) (fun _ => ?_)
            refine WS.run (C := []) (pc' := 68) (L' := [vR 51 0, vI (nI a), vI (nI b), vI (nI i), vI (nI j)]) (S' := [vI (1 : Int32)]) (σ' := σ) 1 rfl trivial ?_
            exact WS.ret rfl rfl (by decide) rfl (h1 ⟨i, j, by omega, by omega, q1⟩)
          · show WS _ M_MD_areNear 64 [vR 51 0, vI (nI a), vI (nI b), vI (nI i), vI (nI j)] [vI (0 : Int32)] σ _
            refine WS.br (P := (0 : Int32) = 0) (a := 69) (b := 67) (S' := []) rfl (fun _ => ?_) (fun cc => absurd (by decide) cc)
            refine WS.run (C := []) (pc' := 17) (L' := [vR 51 0, vI (nI a), vI (nI b), vI (nI i), vI ((nI j) + (1 : Int32))]) (S' := []) (σ' := σ) 2 rfl trivial ?_
            simp only [nI_1, e_a, e_b]
            exact ih2 (fun j2 z1 z2 => by
              rcases Nat.lt_or_ge j2 j with q | q
              · exact hM j2 q z2
              · have : j2 = j := by omega
                subst this
                exact q1)
      exact inn 0 (by omega) (fun j2 z => by omega)
  refine WS.run (C := []) (pc' := 2) (L' := [vR 51 0, vI (nI a), vI (nI b), vI (0 : Int32), vU]) (S' := []) (σ' := σ) 2 rfl trivial ?_
  exact key 0 (by omega) vU (fun i2 j2 z => by omega)
