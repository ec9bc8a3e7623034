/-! contracts: gap, way -/
theorem t_100 : (100 : Int32).toInt = 100 := by decide
theorem t_1000 : (1000 : Int32).toInt = 1000 := by decide
def gapO (g : Int32) : Prop := 0 ≤ g.toInt ∧ g.toInt ≤ 100
set_option maxRecDepth 4000 in
set_option maxHeartbeats 400000 in
theorem c_TMgap {d : Nat} {σ : Mem} {Post : Option AV → Mem → Prop} {g : Int32} (h1 : gapO g → Post (some (vI (gI σ 0 0 8))) (pI σ 0 0 8 g)) (h0 : ¬ gapO g → Post (some (vI (-1))) σ) : MM (d + 1) M_TM_gap [vR 0 0, vI g] σ Post := by
  refine MM.of ok_TM_gap rfl ?_
  show WS _ M_TM_gap 0 [vR 0 0, vI g, vU] [] σ _
  refine WS.run (C := []) (pc' := 3) (L' := [vR 0 0, vI g, vU]) (S' := [vI (100 : Int32), vI g]) (σ' := σ) 2 rfl trivial ?_
  refine WS.callS M_TM_inRange (as := [vI g, vI (100 : Int32)]) (rest := []) rfl lk_10_71 rfl rfl (Nat.le_of_ble_eq_true rfl) ?_
  refine c_inRange  (fun q1a q1b => ?_) (fun q1 => ?_)
  · show WS _ M_TM_gap 6 [vR 0 0, vI g, vU] [vI (1 : Int32)] σ _
    refine WS.br (P := (1 : Int32) = 0) (a := 9) (b := 11) (S' := []) rfl (fun cc => absurd cc (by decide)) (fun _ => ?_)
    refine WS.run (C := []) (pc' := 21) (L' := [vR 0 0, vI g, vI (gI σ 0 0 8)]) (S' := []) (σ' := pI σ 0 0 8 g) 6 rfl trivial ?_
    refine WS.run (C := []) (pc' := 22) (L' := [vR 0 0, vI g, vI (gI σ 0 0 8)]) (S' := [vI (gI σ 0 0 8)]) (σ' := pI σ 0 0 8 g) 1 rfl trivial ?_
    exact WS.ret rfl rfl (by decide) rfl (h1 ⟨q1a, by have z := q1b; rw [t_100] at z; exact z⟩)
  · show WS _ M_TM_gap 6 [vR 0 0, vI g, vU] [vI (0 : Int32)] σ _
    refine WS.br (P := (0 : Int32) = 0) (a := 9) (b := 11) (S' := []) rfl (fun _ => ?_) (fun cc => absurd (by decide) cc)
    refine WS.run (C := []) (pc' := 10) (L' := [vR 0 0, vI g, vU]) (S' := [vI (-1 : Int32)]) (σ' := σ) 1 rfl trivial ?_
    exact WS.ret rfl rfl (by decide) rfl (h0 (fun z => q1 ⟨z.1, by rw [t_100]; exact z.2⟩))
set_option maxRecDepth 4000 in
set_option maxHeartbeats 400000 in
theorem c_Mgap {d : Nat} {σ : Mem} {Post : Option AV → Mem → Prop} {g : Int32} (h1 : gapO g → Post (some (vI (gI σ 51 0 9))) (pI σ 51 0 9 g)) (h0 : ¬ gapO g → Post (some (vI (-1))) σ) : MM (d + 1) M_MD_gap [vR 51 0, vI g] σ Post := by
  refine MM.of ok_MD_gap rfl ?_
  show WS _ M_MD_gap 0 [vR 51 0, vI g, vU] [] σ _
  refine WS.run (C := []) (pc' := 4) (L' := [vR 51 0, vI g, vU]) (S' := [vI (100 : Int32), vI (0 : Int32), vI g]) (σ' := σ) 3 rfl trivial ?_
  refine WS.callS M_MD_isIn (as := [vI g, vI (0 : Int32), vI (100 : Int32)]) (rest := []) rfl lk_11_114 rfl rfl (Nat.le_of_ble_eq_true rfl) ?_
  refine c_MisIn  (fun q1a q1b => ?_) (fun q1 => ?_)
  · show WS _ M_MD_gap 7 [vR 51 0, vI g, vU] [vI (1 : Int32)] σ _
    refine WS.br (P := (1 : Int32) = 0) (a := 10) (b := 12) (S' := []) rfl (fun cc => absurd cc (by decide)) (fun _ => ?_)
    refine WS.run (C := []) (pc' := 22) (L' := [vR 51 0, vI g, vI (gI σ 51 0 9)]) (S' := []) (σ' := pI σ 51 0 9 g) 6 rfl trivial ?_
    refine WS.run (C := []) (pc' := 23) (L' := [vR 51 0, vI g, vI (gI σ 51 0 9)]) (S' := [vI (gI σ 51 0 9)]) (σ' := pI σ 51 0 9 g) 1 rfl trivial ?_
    exact WS.ret rfl rfl (by decide) rfl (h1 ⟨by have z := q1a; rw [t_0] at z; exact z, by have z := q1b; rw [t_100] at z; exact z⟩)
  · show WS _ M_MD_gap 7 [vR 51 0, vI g, vU] [vI (0 : Int32)] σ _
    refine WS.br (P := (0 : Int32) = 0) (a := 10) (b := 12) (S' := []) rfl (fun _ => ?_) (fun cc => absurd (by decide) cc)
    refine WS.run (C := []) (pc' := 11) (L' := [vR 51 0, vI g, vU]) (S' := [vI (-1 : Int32)]) (σ' := σ) 1 rfl trivial ?_
    exact WS.ret rfl rfl (by decide) rfl (h0 (fun z => q1 ⟨by rw [t_0]; exact z.1, by rw [t_100]; exact z.2⟩))
/-- a way of the class that has begun anew -/
def BegW (σ τ : Mem) (j : Nat) (x y : Int32) : Prop := Eqs [2] σ τ ∧ (∀ k f, k ≠ j → gI τ 2 k f = gI σ 2 k f) ∧ gI τ 2 j 3 = 0 ∧ gI τ 2 j 4 = 0 ∧ gI τ 2 j 5 = x ∧ gI τ 2 j 6 = y ∧ gI τ 2 j 7 = 1
theorem begW {σ : Mem} {j : Nat} {x y : Int32} : BegW σ (pI (pI (pI (pI (pI σ 2 j 5 x) 2 j 6 y) 2 j 7 1) 2 j 3 0) 2 j 4 0) j x y := by
  refine ⟨Eqs.pI (Eqs.pI (Eqs.pI (Eqs.pI (Eqs.pI Eqs.rf List.mem_cons_self) List.mem_cons_self) List.mem_cons_self) List.mem_cons_self) List.mem_cons_self, fun k f hk => ?_, ?_, ?_, ?_, ?_, ?_⟩
  · rw [gI_pI, if_neg (by omega), gI_pI, if_neg (by omega), gI_pI, if_neg (by omega), gI_pI, if_neg (by omega), gI_pI, if_neg (by omega)]
  · rw [gI_pI, if_neg (by omega), gI_pI, if_pos ⟨rfl, rfl, rfl⟩]
  · rw [gI_pI, if_pos ⟨rfl, rfl, rfl⟩]
  · rw [gI_pI, if_neg (by omega), gI_pI, if_neg (by omega), gI_pI, if_neg (by omega), gI_pI, if_neg (by omega), gI_pI, if_pos ⟨rfl, rfl, rfl⟩]
  · rw [gI_pI, if_neg (by omega), gI_pI, if_neg (by omega), gI_pI, if_neg (by omega), gI_pI, if_pos ⟨rfl, rfl, rfl⟩]
  · rw [gI_pI, if_neg (by omega), gI_pI, if_neg (by omega), gI_pI, if_pos ⟨rfl, rfl, rfl⟩]
def wayO (w v : Int32) (j : Nat) : Prop := j < 12 ∧ w = nI j ∧ 0 ≤ v.toInt ∧ v.toInt ≤ 1000
set_option maxRecDepth 4000 in
set_option maxHeartbeats 400000 in
theorem c_begin {d : Nat} {σ : Mem} {Post : Option AV → Mem → Prop} {j : Nat} {x y : Int32} (hy : y = 0 ∨ y = 1) (h : ∀ τ : Mem, BegW σ τ j x y → Post none τ) : MM d M_Way_begin [vR 2 j, vI x, vI y] σ Post := by
  refine MM.of ok_Way_begin rfl ?_
  show WS _ M_Way_begin 0 [vR 2 j, vI x, vI y] [] σ _
  refine WS.run (C := []) (pc' := 5) (L' := [vR 2 j, vI x, vI y]) (S' := []) (σ' := pI σ 2 j 5 x) 3 rfl trivial ?_
  refine WS.run (C := [y = 0 ∨ y = 1]) (pc' := 10) (L' := [vR 2 j, vI x, vI y]) (S' := []) (σ' := pI (pI σ 2 j 5 x) 2 j 6 y) 3 rfl ⟨hy, trivial⟩ ?_
  refine WS.run (C := [(1 : Int32) = 0 ∨ (1 : Int32) = 1]) (pc' := 15) (L' := [vR 2 j, vI x, vI y]) (S' := []) (σ' := pI (pI (pI σ 2 j 5 x) 2 j 6 y) 2 j 7 (1 : Int32)) 3 rfl ⟨(Or.inr rfl), trivial⟩ ?_
  refine WS.run (C := []) (pc' := 20) (L' := [vR 2 j, vI x, vI y]) (S' := []) (σ' := pI (pI (pI (pI σ 2 j 5 x) 2 j 6 y) 2 j 7 (1 : Int32)) 2 j 3 (0 : Int32)) 3 rfl trivial ?_
  refine WS.run (C := []) (pc' := 25) (L' := [vR 2 j, vI x, vI y]) (S' := []) (σ' := pI (pI (pI (pI (pI σ 2 j 5 x) 2 j 6 y) 2 j 7 (1 : Int32)) 2 j 3 (0 : Int32)) 2 j 4 (0 : Int32)) 3 rfl trivial ?_
  exact WS.vret rfl rfl (h _ begW)
set_option maxRecDepth 4000 in
set_option maxHeartbeats 400000 in
theorem c_TMway {d : Nat} {σ : Mem} {Post : Option AV → Mem → Prop} {w v y : Int32} (hy : y = 0 ∨ y = 1) (h1 : ∀ (j : Nat) (τ : Mem), wayO w v j → BegW σ τ j v y → Post (some (vI 1)) τ) (h0 : (∀ j : Nat, ¬ wayO w v j) → Post (some (vI 0)) σ) : MM (d + 1) M_TM_way [vR 0 0, vI w, vI v, vI y] σ Post := by
  refine MM.of ok_TM_way rfl ?_
  show WS _ M_TM_way 0 [vR 0 0, vI w, vI v, vI y] [] σ _
  refine WS.run (C := []) (pc' := 3) (L' := [vR 0 0, vI w, vI v, vI y]) (S' := [vI (11 : Int32), vI w]) (σ' := σ) 2 rfl trivial ?_
  refine WS.callS M_TM_inRange (as := [vI w, vI (11 : Int32)]) (rest := []) rfl lk_10_71 rfl rfl (Nat.le_of_ble_eq_true rfl) ?_
  refine c_inRange (fun q1a q1b => ?_) (fun q1 => ?_)
  · obtain ⟨j, hj, rfl⟩ := t_nat (x := w) (n := 11) (by first | omega | (simp only [t_0] at *; omega)) (by first | omega | (simp only [t_11] at *; omega)) (by omega)
    have e_j : (nI j).toNatClampNeg = j := cl_n (by omega)
    show WS _ M_TM_way 6 [vR 0 0, vI (nI j), vI v, vI y] [vI (1 : Int32)] σ _
    refine WS.br (P := (1 : Int32) = 0) (a := 19) (b := 9) (S' := []) rfl (fun cc => absurd cc (by decide)) (fun _ => ?_)
    refine WS.run (C := []) (pc' := 13) (L' := [vR 0 0, vI (nI j), vI v, vI y]) (S' := [vI (1000 : Int32), vI v]) (σ' := σ) 2 rfl trivial ?_
    refine WS.callS M_TM_inRange (as := [vI v, vI (1000 : Int32)]) (rest := []) rfl lk_10_71 rfl rfl (Nat.le_of_ble_eq_true rfl) ?_
    refine c_inRange (fun q2a q2b => ?_) (fun q2 => ?_)
    · show WS _ M_TM_way 16 [vR 0 0, vI (nI j), vI v, vI y] [vI (1 : Int32)] σ _
      refine WS.br (P := (1 : Int32) = 0) (a := 19) (b := 21) (S' := []) rfl (fun cc => absurd cc (by decide)) (fun _ => ?_)
      refine WS.run (C := [vp_in (nI j) 12]) (pc' := 29) (L' := [vR 0 0, vI (nI j), vI v, vI y]) (S' := [vI y, vI v, vR 2 ((nI j).toNatClampNeg)]) (σ' := σ) 6 rfl ⟨(vp_n (by omega) (by omega)), trivial⟩ ?_
      simp only [e_j]
      refine WS.callV M_Way_begin (k := 2) (i := j) (as := [vI v, vI y]) (rest := []) rfl lk_10_75 rfl rfl rfl (Nat.le_of_ble_eq_true rfl) ?_
      refine c_begin hy (fun τ3 e3 => ?_)
      show WS _ M_TM_way 32 [vR 0 0, vI (nI j), vI v, vI y] [] τ3 _
      refine WS.run (C := []) (pc' := 33) (L' := [vR 0 0, vI (nI j), vI v, vI y]) (S' := [vI (1 : Int32)]) (σ' := τ3) 1 rfl trivial ?_
      exact WS.ret rfl rfl (by decide) rfl (h1 j _ ⟨by omega, rfl, by first | exact q2a | (have y := q2a; simp only [t_0, t_1000] at y; exact y), by first | exact q2b | (have y := q2b; simp only [t_0, t_1000] at y; exact y)⟩ e3)
    · show WS _ M_TM_way 16 [vR 0 0, vI (nI j), vI v, vI y] [vI (0 : Int32)] σ _
      refine WS.br (P := (0 : Int32) = 0) (a := 19) (b := 21) (S' := []) rfl (fun _ => ?_) (fun cc => absurd (by decide) cc)
      refine WS.run (C := []) (pc' := 20) (L' := [vR 0 0, vI (nI j), vI v, vI y]) (S' := [vI (0 : Int32)]) (σ' := σ) 1 rfl trivial ?_
      exact WS.ret rfl rfl (by decide) rfl (h0 (fun i z => q2 ⟨z.2.2.1, by rw [t_1000]; exact z.2.2.2⟩))
  · show WS _ M_TM_way 6 [vR 0 0, vI w, vI v, vI y] [vI (0 : Int32)] σ _
    refine WS.br (P := (0 : Int32) = 0) (a := 19) (b := 9) (S' := []) rfl (fun _ => ?_) (fun cc => absurd (by decide) cc)
    refine WS.run (C := []) (pc' := 20) (L' := [vR 0 0, vI w, vI v, vI y]) (S' := [vI (0 : Int32)]) (σ' := σ) 1 rfl trivial ?_
    exact WS.ret rfl rfl (by decide) rfl (h0 (fun i z => q1 (by rw [z.2.1, nI_t (by have := z.1; omega), t_11]; have := z.1; omega)))
def BegM (σ τ : Mem) (j : Nat) (x y : Int32) : Prop := Eqs [52, 53, 54, 55, 58] σ τ ∧ (∀ a k, k ≠ j → gI τ a 0 k = gI σ a 0 k) ∧ gI τ 52 0 j = 1 ∧ gI τ 53 0 j = x ∧ gI τ 54 0 j = y ∧ gI τ 55 0 j = 0 ∧ gI τ 58 0 j = 0
theorem begM {σ : Mem} {j : Nat} {x y : Int32} : BegM σ (pI (pI (pI (pI (pI σ 52 0 j 1) 53 0 j x) 54 0 j y) 55 0 j 0) 58 0 j 0) j x y := by
  refine ⟨Eqs.pI (Eqs.pI (Eqs.pI (Eqs.pI (Eqs.pI Eqs.rf (by decide)) (by decide)) (by decide)) (by decide)) (by decide), fun a k hk => ?_, ?_, ?_, ?_, ?_, ?_⟩
  · rw [gI_pI, if_neg (by omega), gI_pI, if_neg (by omega), gI_pI, if_neg (by omega), gI_pI, if_neg (by omega), gI_pI, if_neg (by omega)]
  · rw [gI_pI, if_neg (by omega), gI_pI, if_neg (by omega), gI_pI, if_neg (by omega), gI_pI, if_neg (by omega), gI_pI, if_pos ⟨rfl, rfl, rfl⟩]
  · rw [gI_pI, if_neg (by omega), gI_pI, if_neg (by omega), gI_pI, if_neg (by omega), gI_pI, if_pos ⟨rfl, rfl, rfl⟩]
  · rw [gI_pI, if_neg (by omega), gI_pI, if_neg (by omega), gI_pI, if_pos ⟨rfl, rfl, rfl⟩]
  · rw [gI_pI, if_neg (by omega), gI_pI, if_pos ⟨rfl, rfl, rfl⟩]
  · rw [gI_pI, if_pos ⟨rfl, rfl, rfl⟩]
set_option maxRecDepth 4000 in
set_option maxHeartbeats 400000 in
theorem c_Mway {d : Nat} {σ : Mem} {Post : Option AV → Mem → Prop} {w v y : Int32} (hy : y = 0 ∨ y = 1) (h1 : ∀ (j : Nat) (τ : Mem), wayO w v j → BegM σ τ j v y → Post (some (vI 1)) τ) (h0 : (∀ j : Nat, ¬ wayO w v j) → Post (some (vI 0)) σ) : MM (d + 1) M_MD_way [vR 51 0, vI w, vI v, vI y] σ Post := by
  refine MM.of ok_MD_way rfl ?_
  show WS _ M_MD_way 0 [vR 51 0, vI w, vI v, vI y] [] σ _
  refine WS.run (C := []) (pc' := 4) (L' := [vR 51 0, vI w, vI v, vI y]) (S' := [vI (11 : Int32), vI (0 : Int32), vI w]) (σ' := σ) 3 rfl trivial ?_
  refine WS.callS M_MD_isIn (as := [vI w, vI (0 : Int32), vI (11 : Int32)]) (rest := []) rfl lk_11_114 rfl rfl (Nat.le_of_ble_eq_true rfl) ?_
  refine c_MisIn (fun q1a q1b => ?_) (fun q1 => ?_)
  · obtain ⟨j, hj, rfl⟩ := t_nat (x := w) (n := 11) (by first | omega | (simp only [t_0] at *; omega)) (by first | omega | (simp only [t_11] at *; omega)) (by omega)
    have e_j : (nI j).toNatClampNeg = j := cl_n (by omega)
    show WS _ M_MD_way 7 [vR 51 0, vI (nI j), vI v, vI y] [vI (1 : Int32)] σ _
    refine WS.br (P := (1 : Int32) = 0) (a := 21) (b := 10) (S' := []) rfl (fun cc => absurd cc (by decide)) (fun _ => ?_)
    refine WS.run (C := []) (pc' := 15) (L' := [vR 51 0, vI (nI j), vI v, vI y]) (S' := [vI (1000 : Int32), vI (0 : Int32), vI v]) (σ' := σ) 3 rfl trivial ?_
    refine WS.callS M_MD_isIn (as := [vI v, vI (0 : Int32), vI (1000 : Int32)]) (rest := []) rfl lk_11_114 rfl rfl (Nat.le_of_ble_eq_true rfl) ?_
    refine c_MisIn (fun q2a q2b => ?_) (fun q2 => ?_)
    · show WS _ M_MD_way 18 [vR 51 0, vI (nI j), vI v, vI y] [vI (1 : Int32)] σ _
      refine WS.br (P := (1 : Int32) = 0) (a := 21) (b := 23) (S' := []) rfl (fun cc => absurd cc (by decide)) (fun _ => ?_)
      refine WS.run (C := [vp_in (nI j) 12, (1 : Int32) = 0 ∨ (1 : Int32) = 1]) (pc' := 30) (L' := [vR 51 0, vI (nI j), vI v, vI y]) (S' := []) (σ' := pI σ 52 0 (nI j).toNatClampNeg (1 : Int32)) 5 rfl ⟨(vp_n (by omega) (by omega)), (Or.inr rfl), trivial⟩ ?_
      simp only [e_j]
      refine WS.run (C := [vp_in (nI j) 12]) (pc' := 37) (L' := [vR 51 0, vI (nI j), vI v, vI y]) (S' := []) (σ' := pI (pI σ 52 0 j (1 : Int32)) 53 0 (nI j).toNatClampNeg v) 5 rfl ⟨(vp_n (by omega) (by omega)), trivial⟩ ?_
      simp only [e_j]
      refine WS.run (C := [vp_in (nI j) 12, y = 0 ∨ y = 1]) (pc' := 44) (L' := [vR 51 0, vI (nI j), vI v, vI y]) (S' := []) (σ' := pI (pI (pI σ 52 0 j (1 : Int32)) 53 0 j v) 54 0 (nI j).toNatClampNeg y) 5 rfl ⟨(vp_n (by omega) (by omega)), hy, trivial⟩ ?_
      simp only [e_j]
      refine WS.run (C := [vp_in (nI j) 12]) (pc' := 51) (L' := [vR 51 0, vI (nI j), vI v, vI y]) (S' := []) (σ' := pI (pI (pI (pI σ 52 0 j (1 : Int32)) 53 0 j v) 54 0 j y) 55 0 (nI j).toNatClampNeg (0 : Int32)) 5 rfl ⟨(vp_n (by omega) (by omega)), trivial⟩ ?_
      simp only [e_j]
      refine WS.run (C := [vp_in (nI j) 12]) (pc' := 58) (L' := [vR 51 0, vI (nI j), vI v, vI y]) (S' := []) (σ' := pI (pI (pI (pI (pI σ 52 0 j (1 : Int32)) 53 0 j v) 54 0 j y) 55 0 j (0 : Int32)) 58 0 (nI j).toNatClampNeg (0 : Int32)) 5 rfl ⟨(vp_n (by omega) (by omega)), trivial⟩ ?_
      simp only [e_j]
      refine WS.run (C := []) (pc' := 59) (L' := [vR 51 0, vI (nI j), vI v, vI y]) (S' := [vI (1 : Int32)]) (σ' := pI (pI (pI (pI (pI σ 52 0 j (1 : Int32)) 53 0 j v) 54 0 j y) 55 0 j (0 : Int32)) 58 0 j (0 : Int32)) 1 rfl trivial ?_
      exact WS.ret rfl rfl (by decide) rfl (h1 j _ ⟨by omega, rfl, by first | exact q2a | (have y := q2a; simp only [t_0, t_1000] at y; exact y), by first | exact q2b | (have y := q2b; simp only [t_0, t_1000] at y; exact y)⟩ begM)
    · show WS _ M_MD_way 18 [vR 51 0, vI (nI j), vI v, vI y] [vI (0 : Int32)] σ _
      refine WS.br (P := (0 : Int32) = 0) (a := 21) (b := 23) (S' := []) rfl (fun _ => ?_) (fun cc => absurd (by decide) cc)
      refine WS.run (C := []) (pc' := 22) (L' := [vR 51 0, vI (nI j), vI v, vI y]) (S' := [vI (0 : Int32)]) (σ' := σ) 1 rfl trivial ?_
      exact WS.ret rfl rfl (by decide) rfl (h0 (fun i z => q2 ⟨by rw [t_0]; exact z.2.2.1, by rw [t_1000]; exact z.2.2.2⟩))
  · show WS _ M_MD_way 7 [vR 51 0, vI w, vI v, vI y] [vI (0 : Int32)] σ _
    refine WS.br (P := (0 : Int32) = 0) (a := 21) (b := 10) (S' := []) rfl (fun _ => ?_) (fun cc => absurd (by decide) cc)
    refine WS.run (C := []) (pc' := 22) (L' := [vR 51 0, vI w, vI v, vI y]) (S' := [vI (0 : Int32)]) (σ' := σ) 1 rfl trivial ?_
    exact WS.ret rfl rfl (by decide) rfl (h0 (fun i z => q1 (by rw [z.2.1, nI_t (by have := z.1; omega), t_0, t_11]; have := z.1; omega)))
