/-! contracts: a point of a way of the class -/
/-- a row of numbers filled up to k -/
def Fil (σ τ : Mem) (a b k : Nat) : Prop := (∀ p q f, ¬ (p = a ∧ q = b) → gI τ p q f = gI σ p q f) ∧ (∀ p q f, gJ τ p q f = gJ σ p q f) ∧ ∀ i, i < k → gI τ a b i = nI i
theorem Fil.z {σ : Mem} {a b : Nat} : Fil σ σ a b 0 := ⟨fun _ _ _ _ => rfl, fun _ _ _ => rfl, fun _ h => absurd h (Nat.not_lt_zero _)⟩
theorem Fil.s {σ τ : Mem} {a b k : Nat} (h : Fil σ τ a b k) : Fil σ (pI τ a b k (nI k)) a b (k + 1) := by
  refine ⟨fun p q f hn => ?_, fun p q f => h.2.1 p q f, fun i hi => ?_⟩
  · rw [gI_pI, if_neg (fun z => hn ⟨z.1, z.2.1⟩)]; exact h.1 p q f hn
  · rw [gI_pI]
    by_cases e : i = k
    · rw [if_pos ⟨rfl, rfl, e⟩, e]
    · rw [if_neg (fun z => e z.2.2)]; exact h.2.2 i (by omega)
/-- a point more -/
def AddW (σ τ : Mem) (w c : Nat) (x y : Int32) : Prop := (∀ a k f, ¬ ((a = 2 ∨ a = 3 ∨ a = 4 ∨ a = 5) ∧ k = w) → gI τ a k f = gI σ a k f) ∧ (∀ a k f, gJ τ a k f = gJ σ a k f) ∧ (∀ f, f ≠ 3 → f ≠ 4 → gI τ 2 w f = gI σ 2 w f) ∧ gI τ 2 w 3 = nI (c + 1) ∧ gI τ 2 w 4 = nI (c + 1) ∧ (∀ i, i ≠ c → gI τ 3 w i = gI σ 3 w i) ∧ gI τ 3 w c = x ∧ (∀ i, i ≠ c → gI τ 4 w i = gI σ 4 w i) ∧ gI τ 4 w c = y ∧ ∀ i, i < c + 1 → gI τ 5 w i = nI i
theorem addW {σ σ1 σ2 σ3 τ υ : Mem} {w c : Nat} {x y : Int32} (h1 : σ1 = pI σ 3 w c x) (h2 : σ2 = pI σ1 4 w c y) (h3 : σ3 = pI σ2 2 w 3 (nI (c + 1))) (hf : Fil σ3 τ 5 w (c + 1)) (h4 : υ = pI τ 2 w 4 (nI (c + 1))) : AddW σ υ w c x y := by
  have k3 : ∀ a k f, gI σ3 a k f = if a = 2 ∧ k = w ∧ f = 3 then nI (c + 1) else if a = 4 ∧ k = w ∧ f = c then y else if a = 3 ∧ k = w ∧ f = c then x else gI σ a k f := by
    intro a k f
    rw [h3, gI_pI, h2, gI_pI, h1, gI_pI]
  have ku : ∀ a k f, ¬ (a = 5 ∧ k = w) → gI υ a k f = if a = 2 ∧ k = w ∧ f = 4 then nI (c + 1) else gI σ3 a k f := by
    intro a k f hn
    rw [h4, gI_pI, hf.1 a k f hn]
  refine ⟨fun a k f hn => ?_, fun a k f => ?_, fun f n3 n4 => ?_, ?_, ?_, fun i hi => ?_, ?_, fun i hi => ?_, ?_, fun i hi => ?_⟩
  · rw [ku a k f (fun z => hn ⟨Or.inr (Or.inr (Or.inr z.1)), z.2⟩), if_neg (fun z => hn ⟨Or.inl z.1, z.2.1⟩), k3, if_neg (fun z => hn ⟨Or.inl z.1, z.2.1⟩), if_neg (fun z => hn ⟨Or.inr (Or.inr (Or.inl z.1)), z.2.1⟩), if_neg (fun z => hn ⟨Or.inr (Or.inl z.1), z.2.1⟩)]
  · rw [h4, gJ_pI, hf.2.1, h3, gJ_pI, h2, gJ_pI, h1, gJ_pI]
  · rw [ku 2 w f (by omega), if_neg (fun z => n4 z.2.2), k3, if_neg (fun z => n3 z.2.2), if_neg (by omega), if_neg (by omega)]
  · rw [ku 2 w 3 (by omega), if_neg (by omega), k3, if_pos ⟨rfl, rfl, rfl⟩]
  · rw [ku 2 w 4 (by omega), if_pos ⟨rfl, rfl, rfl⟩]
  · rw [ku 3 w i (by omega), if_neg (by omega), k3, if_neg (by omega), if_neg (by omega), if_neg (fun z => hi z.2.2)]
  · rw [ku 3 w c (by omega), if_neg (by omega), k3, if_neg (by omega), if_neg (by omega), if_pos ⟨rfl, rfl, rfl⟩]
  · rw [ku 4 w i (by omega), if_neg (by omega), k3, if_neg (by omega), if_neg (fun z => hi z.2.2), if_neg (by omega)]
  · rw [ku 4 w c (by omega), if_neg (by omega), k3, if_neg (by omega), if_pos ⟨rfl, rfl, rfl⟩]
  · rw [h4, gI_pI, if_neg (by omega)]; exact hf.2.2 i hi
theorem lc4 {x : Int32} {s i : Nat} (h : x = nI s) (hs : s ≤ 1000) (hi : i ≤ 1000) : (x ≤ nI i) ↔ s ≤ i := by
  rw [h, t_le, nI_t (by omega), nI_t (by omega)]; omega
set_option maxRecDepth 4000 in
set_option maxHeartbeats 400000 in
theorem c_add {d : Nat} {σ : Mem} {Post : Option AV → Mem → Prop} {w c : Nat} {x y : Int32} (hc : gI σ 2 w 3 = nI c) (hn : c < 20) (h : ∀ τ : Mem, AddW σ τ w c x y → Post none τ) : MM d M_Way_add [vR 2 w, vI x, vI y] σ Post := by
  have e_c : (nI c).toNatClampNeg = c := cl_n (by omega)
  refine MM.of ok_Way_add rfl ?_
  show WS _ M_Way_add 0 [vR 2 w, vI x, vI y, vU] [] σ _
  obtain ⟨σ1, m1⟩ : ∃ z, z = pI σ 3 w c x := ⟨_, rfl⟩
  obtain ⟨σ2, m2⟩ : ∃ z, z = pI σ1 4 w c y := ⟨_, rfl⟩
  obtain ⟨σ3, m3⟩ : ∃ z, z = pI σ2 2 w 3 (nI (c + 1)) := ⟨_, rfl⟩
  have c1 : gI σ1 2 w 3 = nI c := by rw [m1, gI_pI, if_neg (by omega)]; exact hc
  have c2 : gI σ2 2 w 3 = nI c := by rw [m2, gI_pI, if_neg (by omega)]; exact c1
  have c3 : gI σ3 2 w 3 = nI (c + 1) := by rw [m3, gI_pI, if_pos ⟨rfl, rfl, rfl⟩]
  have key : ∀ k, k ≤ c + 1 → ∀ τ : Mem, Fil σ3 τ 5 w k → WS d M_Way_add 32 [vR 2 w, vI x, vI y, vI (nI k)] [] τ Post := by
    refine upto (c + 1) ?_ ?_
    · intro τ hF
      have ct : gI τ 2 w 3 = nI (c + 1) := by rw [hF.1 2 w 3 (by omega)]; exact c3
      refine WS.run (C := []) (pc' := 37) (L' := [vR 2 w, vI x, vI y, vI (nI (c + 1))]) (S' := [vI (gI τ 2 w 3), vI (nI (c + 1))]) (σ' := τ) 3 rfl trivial ?_
      refine WS.br (P := (gI τ 2 w 3) ≤ (nI (c + 1))) (a := 53) (b := 40) (S' := []) rfl (fun _ => ?_) (fun cc => absurd ((lc4 ct (by omega) (by omega)).mpr (by omega)) cc)
      refine WS.run (C := []) (pc' := 61) (L' := [vR 2 w, vI x, vI y, vI (nI (c + 1))]) (S' := []) (σ' := pI τ 2 w 4 (gI τ 2 w 3)) 4 rfl trivial ?_
      exact WS.vret rfl rfl (by rw [ct]; exact h _ (addW m1 m2 m3 hF rfl))
    · intro k hk ih τ hF
      have ct : gI τ 2 w 3 = nI (c + 1) := by rw [hF.1 2 w 3 (by omega)]; exact c3
      have e_k : (nI k).toNatClampNeg = k := cl_n (by omega)
      refine WS.run (C := []) (pc' := 37) (L' := [vR 2 w, vI x, vI y, vI (nI k)]) (S' := [vI (gI τ 2 w 3), vI (nI k)]) (σ' := τ) 3 rfl trivial ?_
      refine WS.br (P := (gI τ 2 w 3) ≤ (nI k)) (a := 53) (b := 40) (S' := []) rfl (fun cc => absurd cc (fun z => by have := (lc4 ct (by omega) (by omega)).mp z; omega)) (fun _ => ?_)
      refine WS.run (C := [vp_in (nI k) 20]) (pc' := 47) (L' := [vR 2 w, vI x, vI y, vI (nI k)]) (S' := []) (σ' := pI τ 5 w (nI k).toNatClampNeg (nI k)) 5 rfl ⟨(vp_n (by omega) (by omega)), trivial⟩ ?_
      simp only [nI_1, e_k]
      refine WS.run (C := []) (pc' := 32) (L' := [vR 2 w, vI x, vI y, vI ((nI k) + (1 : Int32))]) (S' := []) (σ' := pI τ 5 w k (nI k)) 2 rfl trivial ?_
      simp only [nI_1, e_k]
      exact ih _ hF.s
  refine WS.run (C := [vp_in (gI σ 2 w 3) 20]) (pc' := 10) (L' := [vR 2 w, vI x, vI y, vU]) (S' := []) (σ' := pI σ 3 w (gI σ 2 w 3).toNatClampNeg x) 6 rfl ⟨by rw [hc]; exact vp_n (by omega) (by omega), trivial⟩ ?_
  rw [hc, e_c, ← m1]
  refine WS.run (C := [vp_in (gI σ1 2 w 3) 20]) (pc' := 20) (L' := [vR 2 w, vI x, vI y, vU]) (S' := []) (σ' := pI σ1 4 w (gI σ1 2 w 3).toNatClampNeg y) 6 rfl ⟨by rw [c1]; exact vp_n (by omega) (by omega), trivial⟩ ?_
  rw [c1, e_c, ← m2]
  refine WS.run (C := []) (pc' := 30) (L' := [vR 2 w, vI x, vI y, vU]) (S' := []) (σ' := pI σ2 2 w 3 (gI σ2 2 w 3 + (1 : Int32))) 6 rfl trivial ?_
  rw [c2, nI_1, ← m3]
  refine WS.run (C := []) (pc' := 32) (L' := [vR 2 w, vI x, vI y, vI (0 : Int32)]) (S' := []) (σ' := σ3) 2 rfl trivial ?_
  exact key 0 (by omega) σ3 Fil.z
