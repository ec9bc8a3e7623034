/-! lines as integers -/
def sd (x1 y1 x2 y2 x y : Int) : Int := (x2 - x1) * (y - y1) - (y2 - y1) * (x - x1)
def al (x1 y1 x2 y2 x y : Int) : Int := (x2 - x1) * (x - x1) + (y2 - y1) * (y - y1)
def dd (ax ay bx by' : Int) : Int := (ax - bx) * (ax - bx) + (ay - by') * (ay - by')
/-- how far a place misses a line: its sign is that of the distance less t -/
def cmS (x1 y1 x2 y2 x y t : Int) : Int := if al x1 y1 x2 y2 x y ≤ 0 then dd x y x1 y1 - t * t else if al x1 y1 x2 y2 x2 y2 ≤ al x1 y1 x2 y2 x y then dd x y x2 y2 - t * t else sd x1 y1 x2 y2 x y * sd x1 y1 x2 y2 x y - t * t * al x1 y1 x2 y2 x2 y2
def opp (a b : Int) : Prop := (a < 0 ∧ 0 < b) ∨ (0 < a ∧ b < 0)
abbrev Ln : Type := Int × Int × Int × Int
def cutZ (l m : Ln) : Prop := opp (sd l.1 l.2.1 l.2.2.1 l.2.2.2 m.1 m.2.1) (sd l.1 l.2.1 l.2.2.1 l.2.2.2 m.2.2.1 m.2.2.2) ∧ opp (sd m.1 m.2.1 m.2.2.1 m.2.2.2 l.1 l.2.1) (sd m.1 m.2.1 m.2.2.1 m.2.2.2 l.2.2.1 l.2.2.2)
def cmL (l : Ln) (x y t : Int) : Int := cmS l.1 l.2.1 l.2.2.1 l.2.2.2 x y t
def nearZ (l m : Ln) (g : Int) : Prop := 0 < g ∧ (cutZ l m ∨ cmL l m.1 m.2.1 g < 0 ∨ cmL l m.2.2.1 m.2.2.2 g < 0 ∨ cmL m l.1 l.2.1 g < 0 ∨ cmL m l.2.2.1 l.2.2.2 g < 0)
def endZ (l : Ln) (x y : Int) : Prop := (l.1 = x ∧ l.2.1 = y) ∨ (l.2.2.1 = x ∧ l.2.2.2 = y)
def shareZ (l m : Ln) : Prop := endZ l m.1 m.2.1 ∨ endZ l m.2.2.1 m.2.2.2
def closeZ (l m : Ln) (g : Int) : Prop := ¬ shareZ l m ∧ nearZ l m g
theorem cutZ_comm (l m : Ln) : cutZ l m ↔ cutZ m l := And.comm
theorem nearZ_comm (l m : Ln) (g : Int) : nearZ l m g ↔ nearZ m l g := by
  unfold nearZ
  rw [cutZ_comm l m]
  constructor
  · rintro ⟨h, h1 | h1 | h1 | h1 | h1⟩
    · exact ⟨h, Or.inl h1⟩
    · exact ⟨h, Or.inr (Or.inr (Or.inr (Or.inl h1)))⟩
    · exact ⟨h, Or.inr (Or.inr (Or.inr (Or.inr h1)))⟩
    · exact ⟨h, Or.inr (Or.inl h1)⟩
    · exact ⟨h, Or.inr (Or.inr (Or.inl h1))⟩
  · rintro ⟨h, h1 | h1 | h1 | h1 | h1⟩
    · exact ⟨h, Or.inl h1⟩
    · exact ⟨h, Or.inr (Or.inr (Or.inr (Or.inl h1)))⟩
    · exact ⟨h, Or.inr (Or.inr (Or.inr (Or.inr h1)))⟩
    · exact ⟨h, Or.inr (Or.inl h1)⟩
    · exact ⟨h, Or.inr (Or.inr (Or.inl h1))⟩
theorem shareZ_comm (l m : Ln) : shareZ l m ↔ shareZ m l := by
  unfold shareZ endZ
  constructor <;> rintro ((h | h) | (h | h)) <;> simp [h]
theorem closeZ_comm (l m : Ln) (g : Int) : closeZ l m g ↔ closeZ m l g := by
  unfold closeZ
  rw [shareZ_comm, nearZ_comm]
/-- both on one straight line, with more than a place in common (the class's way) -/
def overZ (l m : Ln) : Prop := sd l.1 l.2.1 l.2.2.1 l.2.2.2 m.1 m.2.1 = 0 ∧ sd l.1 l.2.1 l.2.2.1 l.2.2.2 m.2.2.1 m.2.2.2 = 0 ∧ max 0 (min (al l.1 l.2.1 l.2.2.1 l.2.2.2 m.1 m.2.1) (al l.1 l.2.1 l.2.2.1 l.2.2.2 m.2.2.1 m.2.2.2)) < min (al l.1 l.2.1 l.2.2.1 l.2.2.2 l.2.2.1 l.2.2.2) (max (al l.1 l.2.1 l.2.2.1 l.2.2.2 m.1 m.2.1) (al l.1 l.2.1 l.2.2.1 l.2.2.2 m.2.2.1 m.2.2.2))
def crossZ (l m : Ln) : Prop := cutZ l m ∨ overZ l m
/-- within the sheet -/
def co (x : Int) : Prop := 0 ≤ x ∧ x ≤ 400
def lnB (l : Ln) : Prop := co l.1 ∧ co l.2.1 ∧ co l.2.2.1 ∧ co l.2.2.2
theorem co_mul {a b c d : Int} (ha : co a) (hb : co b) (hc : co c) (hd : co d) : -160000 ≤ (a - b) * (c - d) ∧ (a - b) * (c - d) ≤ 160000 := by
  have := mul_bd (a := a - b) (b := c - d) (A := 400) (B := 400) (by unfold co at *; omega) (by unfold co at *; omega) (by unfold co at *; omega) (by unfold co at *; omega) (by omega) (by omega)
  omega
theorem co_sub {x y : Int32} (hx : co x.toInt) (hy : co y.toInt) : (x - y).toInt = x.toInt - y.toInt := t_sub (by unfold co at *; omega) (by unfold co at *; omega)
theorem co_prod {a b c d : Int32} (ha : co a.toInt) (hb : co b.toInt) (hc : co c.toInt) (hd : co d.toInt) : ((a - b) * (c - d)).toInt = (a.toInt - b.toInt) * (c.toInt - d.toInt) := by
  have h := co_mul ha hb hc hd
  rw [t_mul, co_sub ha hb, co_sub hc hd]
  · rw [co_sub ha hb, co_sub hc hd]; omega
  · rw [co_sub ha hb, co_sub hc hd]; omega
theorem sd_ok {x1 y1 x2 y2 x y : Int32} (h1 : co x1.toInt) (h2 : co y1.toInt) (h3 : co x2.toInt) (h4 : co y2.toInt) (h5 : co x.toInt) (h6 : co y.toInt) : ((x2 - x1) * (y - y1) - (y2 - y1) * (x - x1)).toInt = sd x1.toInt y1.toInt x2.toInt y2.toInt x.toInt y.toInt := by
  have a1 := co_mul h3 h1 h6 h2
  have a2 := co_mul h4 h2 h5 h1
  have e1 := co_prod h3 h1 h6 h2
  have e2 := co_prod h4 h2 h5 h1
  rw [t_sub (by rw [e1, e2]; omega) (by rw [e1, e2]; omega), e1, e2]
  rfl
theorem al_ok {x1 y1 x2 y2 x y : Int32} (h1 : co x1.toInt) (h2 : co y1.toInt) (h3 : co x2.toInt) (h4 : co y2.toInt) (h5 : co x.toInt) (h6 : co y.toInt) : ((x2 - x1) * (x - x1) + (y2 - y1) * (y - y1)).toInt = al x1.toInt y1.toInt x2.toInt y2.toInt x.toInt y.toInt := by
  have a1 := co_mul h3 h1 h5 h1
  have a2 := co_mul h4 h2 h6 h2
  have e1 := co_prod h3 h1 h5 h1
  have e2 := co_prod h4 h2 h6 h2
  rw [t_add (by rw [e1, e2]; omega) (by rw [e1, e2]; omega), e1, e2]
  rfl
theorem dd_ok {ax ay bx by' : Int32} (h1 : co ax.toInt) (h2 : co ay.toInt) (h3 : co bx.toInt) (h4 : co by'.toInt) : ((ax - bx) * (ax - bx) + (ay - by') * (ay - by')).toInt = dd ax.toInt ay.toInt bx.toInt by'.toInt := by
  have a1 := co_mul h1 h3 h1 h3
  have a2 := co_mul h2 h4 h2 h4
  have e1 := co_prod h1 h3 h1 h3
  have e2 := co_prod h2 h4 h2 h4
  rw [t_add (by rw [e1, e2]; omega) (by rw [e1, e2]; omega), e1, e2]
  rfl
theorem sd_bd {x1 y1 x2 y2 x y : Int} (h1 : co x1) (h2 : co y1) (h3 : co x2) (h4 : co y2) (h5 : co x) (h6 : co y) : -320000 ≤ sd x1 y1 x2 y2 x y ∧ sd x1 y1 x2 y2 x y ≤ 320000 := by
  have a1 := co_mul h3 h1 h6 h2
  have a2 := co_mul h4 h2 h5 h1
  unfold sd
  omega
theorem al_bd {x1 y1 x2 y2 x y : Int} (h1 : co x1) (h2 : co y1) (h3 : co x2) (h4 : co y2) (h5 : co x) (h6 : co y) : -320000 ≤ al x1 y1 x2 y2 x y ∧ al x1 y1 x2 y2 x y ≤ 320000 := by
  have a1 := co_mul h3 h1 h5 h1
  have a2 := co_mul h4 h2 h6 h2
  unfold al
  omega
theorem dd_bd {ax ay bx by' : Int} (h1 : co ax) (h2 : co ay) (h3 : co bx) (h4 : co by') : 0 ≤ dd ax ay bx by' ∧ dd ax ay bx by' ≤ 320000 := by
  have a1 := co_mul h1 h3 h1 h3
  have a2 := co_mul h2 h4 h2 h4
  have b1 := sq_nn (ax - bx)
  have b2 := sq_nn (ay - by')
  unfold dd
  omega
