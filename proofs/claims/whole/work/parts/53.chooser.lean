/-! the chooser: the pure side -/
/-- what of the items from a on is admitted: at most one option each, free, no two that clash -/
def AdF (n o : Nat) (CL : Nat → Nat → Prop) (F : Nat → Prop) (a : Nat) (f : Nat → Nat) : Prop := ∀ i, a ≤ i → i < n → f i ≤ o ∧ (f i < o → F (i * o + f i) ∧ ∀ j, a ≤ j → j < i → f j < o → ¬ CL (j * o + f j) (i * o + f i))
def gn (o : Nat) (g f : Nat → Nat) (i : Nat) : Nat := if f i < o then g i else 0
def vF (o : Nat) (g f : Nat → Nat) : Nat → Nat → Nat
  | _, 0 => 0
  | a, k + 1 => gn o g f a + vF o g f (a + 1) k
theorem vF_s (o : Nat) (g f : Nat → Nat) (a k : Nat) : vF o g f a (k + 1) = gn o g f a + vF o g f (a + 1) k := rfl
theorem vF_congr {o : Nat} {g f f' : Nat → Nat} : ∀ (k a : Nat), (∀ i, a ≤ i → i < a + k → f i = f' i) → vF o g f a k = vF o g f' a k := by
  intro k
  induction k with
  | zero => intro a _; rfl
  | succ k ih =>
    intro a h
    rw [vF_s, vF_s, ih (a + 1) (fun i h1 h2 => h i (by omega) (by omega))]
    unfold gn
    rw [h a (Nat.le_refl a) (by omega)]
theorem vF_le {o m : Nat} {g f : Nat → Nat} : ∀ (k a : Nat), (∀ i, i < a + k → g i ≤ m) → vF o g f a k ≤ k * m := by
  intro k
  induction k with
  | zero => intro a _; exact Nat.zero_le _
  | succ k ih =>
    intro a h
    have e := ih (a + 1) (fun i hi => h i (by omega))
    have e2 := h a (by omega)
    rw [vF_s, Nat.succ_mul]
    unfold gn
    split <;> omega
theorem AdF.mono {n o : Nat} {CL : Nat → Nat → Prop} {F F' : Nat → Prop} {a : Nat} {f : Nat → Nat} (h : AdF n o CL F a f) (hF : ∀ q, q < n * o → F q → F' q) : AdF n o CL F' a f := fun i h1 h2 => ⟨(h i h1 h2).1, fun h3 => ⟨hF _ (by
  have : (i + 1) * o ≤ n * o := Nat.mul_le_mul_right o (by omega)
  rw [Nat.succ_mul] at this
  omega) ((h i h1 h2).2 h3).1, ((h i h1 h2).2 h3).2⟩⟩
theorem AdF.next {n o : Nat} {CL : Nat → Nat → Prop} {F : Nat → Prop} {a : Nat} {f : Nat → Nat} (h : AdF n o CL F a f) : AdF n o CL F (a + 1) f := fun i h1 h2 => ⟨(h i (by omega) h2).1, fun h3 => ⟨((h i (by omega) h2).2 h3).1, fun j j1 j2 => ((h i (by omega) h2).2 h3).2 j (by omega) j2⟩⟩
theorem AdF.down {n o : Nat} {CL : Nat → Nat → Prop} {F : Nat → Prop} {a : Nat} {f : Nat → Nat} (h : AdF n o CL F a f) (ha : a < n) (hf : f a < o) : F (a * o + f a) ∧ AdF n o CL (fun q => F q ∧ ¬ CL (a * o + f a) q) (a + 1) f := by
  refine ⟨((h a (Nat.le_refl a) ha).2 hf).1, fun i h1 h2 => ⟨(h i (by omega) h2).1, fun h3 => ?_⟩⟩
  have z := (h i (by omega) h2).2 h3
  exact ⟨⟨z.1, z.2 a (Nat.le_refl a) (by omega) hf⟩, fun j j1 j2 => z.2 j (by omega) j2⟩
theorem AdF.up {n o : Nat} {CL : Nat → Nat → Prop} {F : Nat → Prop} {a c : Nat} {f : Nat → Nat} (hc : c < o) (hF : F (a * o + c)) (h : AdF n o CL (fun q => F q ∧ ¬ CL (a * o + c) q) (a + 1) f) : AdF n o CL F a (setF f a c) := by
  intro i h1 h2
  by_cases e : i = a
  · subst e
    rw [setF_s]
    exact ⟨by omega, fun _ => ⟨hF, fun j j1 j2 => by omega⟩⟩
  · rw [setF_n f e]
    have z := h i (by omega) h2
    refine ⟨z.1, fun h3 => ⟨(z.2 h3).1.1, fun j j1 j2 j3 => ?_⟩⟩
    by_cases e2 : j = a
    · subst e2; rw [setF_s]; exact (z.2 h3).1.2
    · rw [setF_n f e2] at j3 ⊢; exact (z.2 h3).2 j (by omega) j2 j3
theorem AdF.upN {n o : Nat} {CL : Nat → Nat → Prop} {F : Nat → Prop} {a : Nat} {f : Nat → Nat} (h : AdF n o CL F (a + 1) f) : AdF n o CL F a (setF f a o) := by
  intro i h1 h2
  by_cases e : i = a
  · subst e
    rw [setF_s]
    exact ⟨Nat.le_refl o, fun z => absurd z (Nat.lt_irrefl o)⟩
  · rw [setF_n f e]
    have z := h i (by omega) h2
    refine ⟨z.1, fun h3 => ⟨(z.2 h3).1, fun j j1 j2 j3 => ?_⟩⟩
    by_cases e2 : j = a
    · subst e2; rw [setF_s] at j3; omega
    · rw [setF_n f e2] at j3 ⊢; exact (z.2 h3).2 j (by omega) j2 j3
theorem vF_set {o : Nat} {g f : Nat → Nat} {a k c : Nat} : vF o g (setF f a c) a (k + 1) = (if c < o then g a else 0) + vF o g f (a + 1) k := by
  rw [vF_s]
  unfold gn
  rw [setF_s, vF_congr k (a + 1) (fun i h1 h2 => setF_n f (by omega))]
/-- one that beats b0, best of all of its sort -/
def BstC (n o : Nat) (g : Nat → Nat) (Ad : (Nat → Nat) → Prop) (a k G : Nat) (b0 b : Int) (f : Nat → Nat) : Prop := Ad f ∧ b0 < b ∧ b = ((G + vF o g f a k : Nat) : Int) ∧ ∀ h, Ad h → vF o g h a k < vF o g f a k ∨ (vF o g h a k = vF o g f a k ∧ lexle a n f h)
/-- none beats b -/
def NonC (o : Nat) (g : Nat → Nat) (Ad : (Nat → Nat) → Prop) (a k G : Nat) (b : Int) : Prop := ∀ h, Ad h → ((G + vF o g h a k : Nat) : Int) ≤ b
theorem BstC.non {n o : Nat} {g : Nat → Nat} {Ad : (Nat → Nat) → Prop} {a k G : Nat} {b0 b : Int} {f : Nat → Nat} (h : BstC n o g Ad a k G b0 b f) : NonC o g Ad a k G b := by
  intro e he
  rcases h.2.2.2 e he with z | z
  · rw [h.2.2.1]; omega
  · rw [h.2.2.1]; omega
/-- nothing of this option beats -/
theorem BstC.skip {n o : Nat} {g : Nat → Nat} {Ad : (Nat → Nat) → Prop} {a k G c : Nat} {b0 b : Int} {f : Nat → Nat} (ha : a < n) (h : BstC n o g (fun e => Ad e ∧ e a < c) a k G b0 b f) (hn : ∀ e, Ad e → e a = c → ((G + vF o g e a k : Nat) : Int) ≤ b) : BstC n o g (fun e => Ad e ∧ e a < c + 1) a k G b0 b f := by
  refine ⟨⟨h.1.1, by have := h.1.2; omega⟩, h.2.1, h.2.2.1, fun e he => ?_⟩
  rcases Nat.lt_or_ge (e a) c with q | q
  · exact h.2.2.2 e ⟨he.1, q⟩
  · have e1 : e a = c := by have := he.2; omega
    have e2 := hn e he.1 e1
    rw [h.2.2.1] at e2
    rcases Nat.lt_or_ge (vF o g e a k) (vF o g f a k) with p | p
    · exact Or.inl p
    · exact Or.inr ⟨by omega, Or.inr ⟨a, Nat.le_refl a, ha, fun x x1 x2 => by omega, by have := h.1.2; omega⟩⟩
theorem NonC.skip {o : Nat} {g : Nat → Nat} {Ad : (Nat → Nat) → Prop} {a k G c : Nat} {b : Int} (h : NonC o g (fun e => Ad e ∧ e a < c) a k G b) (hn : ∀ e, Ad e → e a = c → ((G + vF o g e a k : Nat) : Int) ≤ b) : NonC o g (fun e => Ad e ∧ e a < c + 1) a k G b := by
  intro e he
  rcases Nat.lt_or_ge (e a) c with q | q
  · exact h e ⟨he.1, q⟩
  · exact hn e he.1 (by have := he.2; omega)
theorem BstC.new {n o : Nat} {g : Nat → Nat} {Ad Ad' : (Nat → Nat) → Prop} {a k G G' c : Nat} {b0 b b' : Int} {f : Nat → Nat} (ha : a < n) (hb : b0 ≤ b) (hold : NonC o g (fun e => Ad e ∧ e a < c) a (k + 1) G b) (h : BstC n o g Ad' (a + 1) k G' b b' f) (hup : Ad (setF f a c)) (hG : G' = G + (if c < o then g a else 0)) (hdn : ∀ e, Ad e → e a = c → Ad' e) : BstC n o g (fun e => Ad e ∧ e a < c + 1) a (k + 1) G b0 b' (setF f a c) := by
  have ev : vF o g (setF f a c) a (k + 1) = (if c < o then g a else 0) + vF o g f (a + 1) k := vF_set
  have eb : b' = ((G + vF o g (setF f a c) a (k + 1) : Nat) : Int) := by rw [ev, h.2.2.1, hG, Nat.add_assoc]
  refine ⟨⟨hup, by rw [setF_s]; omega⟩, by have := h.2.1; omega, eb, fun e he => ?_⟩
  rcases Nat.lt_or_ge (e a) c with q | q
  · have := hold e ⟨he.1, q⟩
    have := h.2.1
    left
    omega
  · have e1 : e a = c := by have := he.2; omega
    have e2 : vF o g e a (k + 1) = (if c < o then g a else 0) + vF o g e (a + 1) k := by
      rw [vF_s]; unfold gn; rw [e1]
    rcases h.2.2.2 e (hdn e he.1 e1) with p | ⟨p1, p2⟩
    · left; omega
    · right
      refine ⟨by omega, ?_⟩
      rcases p2 with p2 | ⟨x, x1, x2, x3, x4⟩
      · left
        intro x x1 x2
        by_cases z : x = a
        · rw [z, setF_s, e1]
        · rw [setF_n f z]; exact p2 x (by omega) x2
      · right
        refine ⟨x, by omega, x2, fun y y1 y2 => ?_, by rw [setF_n f (by omega)]; exact x4⟩
        by_cases z : y = a
        · rw [z, setF_s, e1]
        · rw [setF_n f z]; exact x3 y (by omega) y2
/-- the best of all admitted ones -/
def ChO (n o : Nat) (g : Nat → Nat) (CL : Nat → Nat → Prop) (F : Nat → Prop) (v : Nat) (f : Nat → Nat) : Prop := AdF n o CL F 0 f ∧ v = vF o g f 0 n ∧ ∀ h, AdF n o CL F 0 h → vF o g h 0 n < v ∨ (vF o g h 0 n = v ∧ lexle 0 n f h)
theorem AdF.none (n o : Nat) (CL : Nat → Nat → Prop) (F : Nat → Prop) (a : Nat) : AdF n o CL F a (fun _ => o) := fun i _ _ => ⟨Nat.le_refl o, fun z => absurd z (Nat.lt_irrefl o)⟩
