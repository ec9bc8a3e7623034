/-! the invariant between class and model -/
def Fr (ks : List Nat) (σ τ : Mem) : Prop := ∀ k i j, k ∉ ks → gI τ k i j = gI σ k i j
theorem Fr.of {ks : List Nat} {σ τ : Mem} (h : Eqs ks σ τ) : Fr ks σ τ := h.1
theorem Fr.tr {ks : List Nat} {σ τ υ : Mem} (h : Fr ks σ τ) (h2 : Fr ks τ υ) : Fr ks σ υ := fun k i j q => (h2 k i j q).trans (h k i j q)
theorem Fr.mono {ks ks' : List Nat} {σ τ : Mem} (h : Fr ks σ τ) (hk : ∀ k ∈ ks, k ∈ ks') : Fr ks' σ τ := fun a i j q => h a i j (fun z => q (hk a z))
theorem Fr.rf {ks : List Nat} {σ : Mem} : Fr ks σ σ := fun _ _ _ _ => rfl
theorem Fr.pI {ks : List Nat} {σ τ : Mem} (h : Fr ks σ τ) {k i j : Nat} {x : Int32} (hk : k ∈ ks) : Fr ks σ (pI τ k i j x) := fun a b c q => by
  rw [gI_pI, if_neg (fun z => q (by rw [z.1]; exact hk))]
  exact h a b c q
def Rd (σ τ : Mem) : Prop := (∀ j, gI τ 86 0 j = gI σ 86 0 j) ∧ gI τ 87 0 0 = gI σ 87 0 0
theorem Rd.of {ks : List Nat} {σ τ : Mem} (h : Fr ks σ τ) (h1 : 86 ∉ ks) (h2 : 87 ∉ ks) : Rd σ τ := ⟨fun j => h 86 0 j h1, h 87 0 0 h2⟩
/-- a way -/
def WyI (σ : Mem) (w : Nat) : Prop := ∃ c s, WayV σ w c s ∧ WayM σ w c s ∧ (∀ i, i < c → gI σ 3 w i = gI σ 56 0 (20 * w + i) ∧ gI σ 4 w i = gI σ 57 0 (20 * w + i)) ∧ (∀ i, i < s → gI σ 5 w i = gI σ 59 0 (20 * w + i)) ∧ gI σ 2 w 5 = gI σ 53 0 w ∧ (0 ≤ (gI σ 2 w 5).toInt ∧ (gI σ 2 w 5).toInt ≤ 1000) ∧ gI σ 2 w 6 = gI σ 54 0 w ∧ gI σ 2 w 7 = gI σ 52 0 w ∧ (0 < c → gI σ 52 0 w ≠ 0)
theorem WyI.cg {σ τ : Mem} {w : Nat} (h : WyI σ w) (e2 : ∀ f, gI τ 2 w f = gI σ 2 w f) (e3 : ∀ f, gI τ 3 w f = gI σ 3 w f) (e4 : ∀ f, gI τ 4 w f = gI σ 4 w f) (e5 : ∀ f, gI τ 5 w f = gI σ 5 w f) (e52 : gI τ 52 0 w = gI σ 52 0 w) (e53 : gI τ 53 0 w = gI σ 53 0 w) (e54 : gI τ 54 0 w = gI σ 54 0 w) (e55 : gI τ 55 0 w = gI σ 55 0 w) (e58 : gI τ 58 0 w = gI σ 58 0 w) (e56 : ∀ i, i < 20 → gI τ 56 0 (20 * w + i) = gI σ 56 0 (20 * w + i)) (e57 : ∀ i, i < 20 → gI τ 57 0 (20 * w + i) = gI σ 57 0 (20 * w + i)) (e59 : ∀ i, i < 20 → gI τ 59 0 (20 * w + i) = gI σ 59 0 (20 * w + i)) : WyI τ w := by
  obtain ⟨c, s, ⟨a1, a2, a3, a4, a5, a6⟩, ⟨b1, b2, b3, b4, b5, b6⟩, h3, h4, h5, h6, h7, h8, h9⟩ := h
  refine ⟨c, s, ⟨by rw [e2]; exact a1, by rw [e2]; exact a2, a3, a4, fun i hi => ?_, fun i hi => ?_⟩, ⟨by rw [e55]; exact b1, by rw [e58]; exact b2, b3, b4, fun i hi => ?_, fun i hi => ?_⟩, fun i hi => ?_, fun i hi => ?_, by rw [e2, e53]; exact h5, by rw [e2]; exact h6, by rw [e2, e54]; exact h7, by rw [e2, e52]; exact h8, by rw [e52]; exact h9⟩
  · unfold px py; rw [e3, e4]; exact a5 i hi
  · unfold nb; rw [e5]; exact a6 i hi
  · have := b5 i hi
    unfold mP mX mY at this ⊢
    rw [e56 i (by omega), e57 i (by omega)]; exact this
  · unfold mn; rw [e59 i (by omega)]; exact b6 i hi
  · rw [e3, e4, e56 i (by omega), e57 i (by omega)]; exact h3 i hi
  · rw [e5, e59 i (by omega)]; exact h4 i hi
def InvW (σ : Mem) : Prop := ∀ w, w < 12 → WyI σ w
theorem InvW.cg {ks : List Nat} {σ τ : Mem} (h : InvW σ) (F : Fr ks σ τ) (hd : ∀ k ∈ [2, 3, 4, 5, 52, 53, 54, 55, 56, 57, 58, 59], k ∉ ks) : InvW τ := fun w hw => (h w hw).cg (fun f => F 2 w f (hd 2 (by decide))) (fun f => F 3 w f (hd 3 (by decide))) (fun f => F 4 w f (hd 4 (by decide))) (fun f => F 5 w f (hd 5 (by decide))) (F 52 0 w (hd 52 (by decide))) (F 53 0 w (hd 53 (by decide))) (F 54 0 w (hd 54 (by decide))) (F 55 0 w (hd 55 (by decide))) (F 58 0 w (hd 58 (by decide))) (fun i _ => F 56 0 _ (hd 56 (by decide))) (fun i _ => F 57 0 _ (hd 57 (by decide))) (fun i _ => F 59 0 _ (hd 59 (by decide)))
def InvG (σ : Mem) : Prop := gI σ 0 0 8 = gI σ 51 0 9 ∧ 0 ≤ (gI σ 0 0 8).toInt ∧ (gI σ 0 0 8).toInt ≤ 100
theorem InvG.cg {ks : List Nat} {σ τ : Mem} (h : InvG σ) (F : Fr ks σ τ) (hd : ∀ k ∈ [0], k ∉ ks) (e : gI τ 51 0 9 = gI σ 51 0 9) : InvG τ := by
  unfold InvG; rw [F 0 0 8 (hd 0 (by decide)), e]; exact h
def InvK (σ : Mem) : Prop := ChInv16 σ ∧ gI σ 15 0 1 = gI σ 51 0 11 ∧ ∀ w, w < 12 → ((gI σ 15 0 1 ≠ 0 ∧ gI σ 21 0 w = 0) ↔ bI (gI σ 51 0 10) w = true)
theorem InvK.cg {ks : List Nat} {σ τ : Mem} (h : InvK σ) (F : Fr ks σ τ) (hd : ∀ k ∈ [15, 16, 19, 21], k ∉ ks) (e : gI τ 51 0 10 = gI σ 51 0 10) (e2 : gI τ 51 0 11 = gI σ 51 0 11) : InvK τ := by
  have f15 := fun i j => F 15 i j (hd 15 (by decide))
  have f16 := fun i j => F 16 i j (hd 16 (by decide))
  have f19 := fun i j => F 19 i j (hd 19 (by decide))
  have f21 := fun i j => F 21 i j (hd 21 (by decide))
  unfold InvK ChInv16; simp only [f15, f16, f19, f21, e, e2]; exact h
def InvT (σ : Mem) : Prop := ∃ t, gI σ 22 0 1 = nI t ∧ gI σ 51 0 15 = nI t ∧ t ≤ 12 ∧ ∀ j, j < t → gI σ 23 0 j = gI σ 63 0 j ∧ 97 ≤ (gI σ 23 0 j).toInt ∧ (gI σ 23 0 j).toInt ≤ 122
theorem InvT.cg {ks : List Nat} {σ τ : Mem} (h : InvT σ) (F : Fr ks σ τ) (hd : ∀ k ∈ [22, 23, 63], k ∉ ks) (e : gI τ 51 0 15 = gI σ 51 0 15) : InvT τ := by
  have f22 := fun i j => F 22 i j (hd 22 (by decide))
  have f23 := fun i j => F 23 i j (hd 23 (by decide))
  have f63 := fun i j => F 63 i j (hd 63 (by decide))
  unfold InvT; simp only [f22, f23, f63, e]; exact h
def CtI (σ : Mem) (k : Nat) : Prop := ∃ l, gI σ 31 k 1 = nI l ∧ l ≤ 4 ∧ ((gI σ 26 0 k ≠ 0 ∧ 2 ≤ l ∧ gI σ 64 0 k = nI l ∧ gI σ 66 0 k = gI σ 26 0 k ∧ ∀ j, j < l → gI σ 32 k j = gI σ 65 0 (4 * k + j)) ∨ (gI σ 26 0 k = 0 ∧ gI σ 64 0 k = 0))
theorem CtI.cg {σ τ : Mem} {k : Nat} (h : CtI σ k) (e31 : gI τ 31 k 1 = gI σ 31 k 1) (e32 : ∀ j, gI τ 32 k j = gI σ 32 k j) (e26 : gI τ 26 0 k = gI σ 26 0 k) (e64 : gI τ 64 0 k = gI σ 64 0 k) (e66 : gI τ 66 0 k = gI σ 66 0 k) (e65 : ∀ j, j < 4 → gI τ 65 0 (4 * k + j) = gI σ 65 0 (4 * k + j)) : CtI τ k := by
  obtain ⟨l, h1, h2, h3⟩ := h
  refine ⟨l, e31.trans h1, h2, ?_⟩
  rw [e26, e64, e66]
  rcases h3 with ⟨a, b, c, d', e'⟩ | h3
  · exact Or.inl ⟨a, b, c, d', fun j hj => by rw [e32, e65 j (by omega)]; exact e' j hj⟩
  · exact Or.inr h3
def InvC (σ : Mem) : Prop := ∀ k, k < 10 → CtI σ k
theorem InvC.cg {ks : List Nat} {σ τ : Mem} (h : InvC σ) (F : Fr ks σ τ) (hd : ∀ k ∈ [26, 31, 32, 64, 65, 66], k ∉ ks) : InvC τ := fun k hk => (h k hk).cg (F 31 k 1 (hd 31 (by decide))) (fun j => F 32 k j (hd 32 (by decide))) (F 26 0 k (hd 26 (by decide))) (F 64 0 k (hd 64 (by decide))) (F 66 0 k (hd 66 (by decide))) (fun j _ => F 65 0 _ (hd 65 (by decide)))
def NmI (σ : Mem) (n : Nat) : Prop := (gI σ 7 n 4 = 0 ∧ gI σ 67 0 n = 0) ∨ (gI σ 7 n 4 ≠ 0 ∧ ∃ l, 1 ≤ l ∧ l ≤ 12 ∧ gI σ 8 n 1 = nI l ∧ gI σ 67 0 n = nI l ∧ (∀ j, j < l → gI σ 9 n j = gI σ 68 0 (12 * n + j) ∧ 97 ≤ (gI σ 9 n j).toInt ∧ (gI σ 9 n j).toInt ≤ 122) ∧ gI σ 7 n 1 = gI σ 69 0 n ∧ gI σ 7 n 2 = gI σ 70 0 n ∧ gI σ 7 n 3 = gI σ 71 0 n ∧ co (gI σ 7 n 1).toInt ∧ co (gI σ 7 n 2).toInt ∧ 0 ≤ (gI σ 7 n 3).toInt ∧ (gI σ 7 n 3).toInt ≤ 1000)
theorem NmI.cg {σ τ : Mem} {n : Nat} (h : NmI σ n) (e7 : ∀ j, gI τ 7 n j = gI σ 7 n j) (e8 : gI τ 8 n 1 = gI σ 8 n 1) (e9 : ∀ j, gI τ 9 n j = gI σ 9 n j) (e67 : gI τ 67 0 n = gI σ 67 0 n) (e68 : ∀ j, j < 12 → gI τ 68 0 (12 * n + j) = gI σ 68 0 (12 * n + j)) (e69 : gI τ 69 0 n = gI σ 69 0 n) (e70 : gI τ 70 0 n = gI σ 70 0 n) (e71 : gI τ 71 0 n = gI σ 71 0 n) : NmI τ n := by
  unfold NmI
  rw [e67, e69, e70, e71, e8]
  simp only [e7, e9]
  rcases h with h | ⟨h1, l, h2, h3, h4, h5, h6, h7⟩
  · exact Or.inl h
  · exact Or.inr ⟨h1, l, h2, h3, h4, h5, fun j hj => by rw [e68 j (by omega)]; exact h6 j hj, h7⟩
def InvN (σ : Mem) : Prop := ∀ n, n < 8 → NmI σ n
theorem InvN.cg {ks : List Nat} {σ τ : Mem} (h : InvN σ) (F : Fr ks σ τ) (hd : ∀ k ∈ [7, 8, 9, 67, 68, 69, 70, 71], k ∉ ks) : InvN τ := fun n hn => (h n hn).cg (fun j => F 7 n j (hd 7 (by decide))) (F 8 n 1 (hd 8 (by decide))) (fun j => F 9 n j (hd 9 (by decide))) (F 67 0 n (hd 67 (by decide))) (fun j _ => F 68 0 _ (hd 68 (by decide))) (F 69 0 n (hd 69 (by decide))) (F 70 0 n (hd 70 (by decide))) (F 71 0 n (hd 71 (by decide)))
def InvS (σ : Mem) : Prop := ChInv34 σ ∧ ∀ n, n < 8 → gI σ 44 0 n = gI σ 80 0 n
theorem InvS.cg {ks : List Nat} {σ τ : Mem} (h : InvS σ) (F : Fr ks σ τ) (hd : ∀ k ∈ [34, 36, 37, 44, 80], k ∉ ks) : InvS τ := by
  have f34 := fun i j => F 34 i j (hd 34 (by decide))
  have f36 := fun i j => F 36 i j (hd 36 (by decide))
  have f37 := fun i j => F 37 i j (hd 37 (by decide))
  have f44 := fun i j => F 44 i j (hd 44 (by decide))
  have f80 := fun i j => F 80 i j (hd 80 (by decide))
  unfold InvS ChInv34; simp only [f34, f36, f37, f44, f80]; exact h
def InvA (σ : Mem) : Prop := (∀ a b, a < 8 → b < 8 → (TA σ a b ↔ gI σ 81 0 (8 * a + b) ≠ 0)) ∧ (∀ a b, a < 8 → b < 8 → (TA σ a b ↔ TA σ b a)) ∧ (∀ t u, t < 5 → u < 5 → (UA σ t u ↔ gI σ 82 0 (5 * t + u) ≠ 0)) ∧ (∀ t u, t < 5 → u < 5 → (UA σ t u ↔ UA σ u t)) ∧ ∀ t, t < 5 → ¬ UA σ t t
theorem InvA.cg {ks : List Nat} {σ τ : Mem} (h : InvA σ) (F : Fr ks σ τ) (hd : ∀ k ∈ [46, 47, 81, 82], k ∉ ks) : InvA τ := by
  have f46 := fun i j => F 46 i j (hd 46 (by decide))
  have f47 := fun i j => F 47 i j (hd 47 (by decide))
  have f81 := fun i j => F 81 i j (hd 81 (by decide))
  have f82 := fun i j => F 82 i j (hd 82 (by decide))
  unfold InvA TA UA; simp only [f46, f47, f81, f82]; exact h
def InvL (σ : Mem) : Prop := ∃ l, l ≤ 8 ∧ gI σ 45 0 5 = nI l ∧ gI σ 51 0 35 = nI l ∧ ∀ a, a < l → gI σ 49 0 a = gI σ 84 0 a
theorem InvL.cg {ks : List Nat} {σ τ : Mem} (h : InvL σ) (F : Fr ks σ τ) (hd : ∀ k ∈ [45, 49, 84], k ∉ ks) (e : gI τ 51 0 35 = gI σ 51 0 35) : InvL τ := by
  have f45 := fun i j => F 45 i j (hd 45 (by decide))
  have f49 := fun i j => F 49 i j (hd 49 (by decide))
  have f84 := fun i j => F 84 i j (hd 84 (by decide))
  unfold InvL; simp only [f45, f49, f84, e]; exact h
def InvD (σ : Mem) : Prop := ∀ j, j < 26 → gI σ 85 0 j = gI σ 62 0 j
theorem InvD.cg {ks : List Nat} {σ τ : Mem} (h : InvD σ) (F : Fr ks σ τ) (hd : ∀ k ∈ [62, 85], k ∉ ks) : InvD τ := fun j hj => by rw [F 85 0 j (hd 85 (by decide)), F 62 0 j (hd 62 (by decide))]; exact h j hj
def Inv (σ : Mem) : Prop := InvW σ ∧ InvG σ ∧ InvK σ ∧ InvT σ ∧ InvC σ ∧ InvN σ ∧ InvS σ ∧ InvA σ ∧ InvL σ ∧ InvD σ
/-- all but some kinds that the invariant doesn't see, and the model's numbers -/
theorem Inv.cg {ks : List Nat} {σ τ : Mem} (h : Inv σ) (F : Fr ks σ τ) (hd : ∀ k ∈ [0, 2, 3, 4, 5, 7, 8, 9, 15, 16, 19, 21, 22, 23, 26, 31, 32, 34, 36, 37, 44, 45, 46, 47, 49, 51, 52, 53, 54, 55, 56, 57, 58, 59, 62, 63, 64, 65, 66, 67, 68, 69, 70, 71, 80, 81, 82, 84, 85], k ∉ ks) : Inv τ := by
  have f51 := fun j => F 51 0 j (hd 51 (by decide))
  have hs : ∀ l : List Nat, (∀ k ∈ l, k ∈ [0, 2, 3, 4, 5, 7, 8, 9, 15, 16, 19, 21, 22, 23, 26, 31, 32, 34, 36, 37, 44, 45, 46, 47, 49, 51, 52, 53, 54, 55, 56, 57, 58, 59, 62, 63, 64, 65, 66, 67, 68, 69, 70, 71, 80, 81, 82, 84, 85]) → ∀ k ∈ l, k ∉ ks := fun l hl k hk => hd k (hl k hk)
  exact ⟨h.1.cg F (hs _ (by decide)), h.2.1.cg F (hs _ (by decide)) (f51 9), h.2.2.1.cg F (hs _ (by decide)) (f51 10) (f51 11), h.2.2.2.1.cg F (hs _ (by decide)) (f51 15), h.2.2.2.2.1.cg F (hs _ (by decide)), h.2.2.2.2.2.1.cg F (hs _ (by decide)), h.2.2.2.2.2.2.1.cg F (hs _ (by decide)), h.2.2.2.2.2.2.2.1.cg F (hs _ (by decide)), h.2.2.2.2.2.2.2.2.1.cg F (hs _ (by decide)) (f51 35), h.2.2.2.2.2.2.2.2.2.cg F (hs _ (by decide))⟩
/-- both answers are one, and the invariant stands again -/
def QC (D : Nat) (M1 M2 : MI) (as bs : List AV) (σ : Mem) : Prop := ∀ Post : Option AV → Mem → Prop, (∀ (x : Int32) (τ : Mem), Rd σ τ → (∀ Post3 : Option AV → Mem → Prop, (∀ υ : Mem, Inv υ → Rd σ υ → Post3 (some (vI x)) υ) → MM D M2 bs τ Post3) → Post (some (vI x)) τ) → MM D M1 as σ Post
theorem InvW.V {σ : Mem} (h : InvW σ) : AllV σ := fun w hw => by
  obtain ⟨c, s, a, b, _⟩ := h w hw
  have e1 : ctW σ w = c := by unfold ctW; rw [a.1, cl_n (by have := a.2.2.1; omega)]
  have e2 : shW σ w = s := by unfold shW; rw [a.2.1, cl_n (by have := a.2.2.1; have := a.2.2.2.1; omega)]
  rw [e1, e2]; exact a
theorem InvW.M {σ : Mem} (h : InvW σ) : AllM σ := fun w hw => by
  obtain ⟨c, s, a, b, _⟩ := h w hw
  have e1 : ctM σ w = c := by unfold ctM; rw [b.1, cl_n (by have := a.2.2.1; omega)]
  have e2 : shM σ w = s := by unfold shM; rw [b.2.1, cl_n (by have := a.2.2.1; have := a.2.2.2.1; omega)]
  rw [e1, e2]; exact b
/-- the facts of a way by its own numbers -/
theorem InvW.at {σ : Mem} (h : InvW σ) {w : Nat} (hw : w < 12) : ctW σ w = ctM σ w ∧ shW σ w = shM σ w ∧ (∀ i, i < ctW σ w → gI σ 3 w i = gI σ 56 0 (20 * w + i) ∧ gI σ 4 w i = gI σ 57 0 (20 * w + i)) ∧ (∀ i, i < shW σ w → gI σ 5 w i = gI σ 59 0 (20 * w + i)) ∧ gI σ 2 w 5 = gI σ 53 0 w ∧ (0 ≤ (gI σ 2 w 5).toInt ∧ (gI σ 2 w 5).toInt ≤ 1000) ∧ gI σ 2 w 6 = gI σ 54 0 w ∧ gI σ 2 w 7 = gI σ 52 0 w ∧ (0 < ctW σ w → gI σ 52 0 w ≠ 0) := by
  obtain ⟨c, s, a, b, r⟩ := h w hw
  have e1 : ctM σ w = c := by unfold ctM; rw [b.1, cl_n (by have := a.2.2.1; omega)]
  have e2 : shM σ w = s := by unfold shM; rw [b.2.1, cl_n (by have := a.2.2.1; have := a.2.2.2.1; omega)]
  have e3 : ctW σ w = c := by unfold ctW; rw [a.1, cl_n (by have := a.2.2.1; omega)]
  have e4 : shW σ w = s := by unfold shW; rw [a.2.1, cl_n (by have := a.2.2.1; have := a.2.2.2.1; omega)]
  rw [e1, e2, e3, e4]
  exact ⟨rfl, rfl, r⟩
