/-! bits of ints and longs -/
def bI (x : Int32) (i : Nat) : Bool := x.toBitVec.getLsbD i
def bJ (x : Int64) (i : Nat) : Bool := x.toBitVec.getLsbD i
theorem bI_ext {x y : Int32} (h : ∀ i, i < 32 → bI x i = bI y i) : x = y := by
  apply Int32.toBitVec_inj.mp
  apply BitVec.eq_of_getLsbD_eq
  intro i hi
  exact h i hi
theorem bI_and (x y : Int32) (i : Nat) : bI (x &&& y) i = (bI x i && bI y i) := by
  unfold bI; rw [Int32.toBitVec_and, BitVec.getLsbD_and]
theorem bI_or (x y : Int32) (i : Nat) : bI (x ||| y) i = (bI x i || bI y i) := by
  unfold bI; rw [Int32.toBitVec_or, BitVec.getLsbD_or]
theorem bI_xor (x y : Int32) (i : Nat) : bI (x ^^^ y) i = (bI x i ^^ bI y i) := by
  unfold bI; rw [Int32.toBitVec_xor, BitVec.getLsbD_xor]
theorem bI_0 (i : Nat) : bI 0 i = false := by
  unfold bI; rw [show (0 : Int32).toBitVec = 0#32 from rfl, BitVec.getLsbD_zero]
theorem bI_m1 {i : Nat} (h : i < 32) : bI (-1) i = true := by
  unfold bI; rw [show (-1 : Int32).toBitVec = BitVec.allOnes 32 by decide, BitVec.getLsbD_allOnes]; simpa using h
theorem bI_not (x : Int32) {i : Nat} (h : i < 32) : bI (x ^^^ -1) i = !bI x i := by
  rw [bI_xor, bI_m1 h]; simp
theorem shl_pow : ∀ b, b < 32 → ((1 : Int32) <<< (nI b &&& 31)).toBitVec = BitVec.twoPow 32 b := by decide +kernel
theorem bI_shl {b i : Nat} (hb : b < 32) : bI ((1 : Int32) <<< (nI b &&& 31)) i = decide (i = b) := by
  unfold bI; rw [shl_pow b hb, BitVec.getLsbD_twoPow]
  by_cases h : i = b
  · subst h; simp [hb]
  · simp [h]; intro _; exact fun q => h q.symm
theorem bI_ge {x : Int32} {i : Nat} (h : 32 ≤ i) : bI x i = false := BitVec.getLsbD_of_ge _ _ h
theorem bI_nat (x : Int32) (i : Nat) : bI x i = decide (x.toBitVec.toNat / 2 ^ i % 2 = 1) := by
  unfold bI; rw [← BitVec.testBit_toNat, Nat.testBit_eq_decide_div_mod_eq]
theorem sh31 : ∀ b, b < 32 → (((nI b).toUInt32 &&& Int32.toUInt32 31).toBitVec % 32).toNat = b := by decide +kernel
theorem sh31s : ∀ b, b < 32 → ((nI b &&& 31).toBitVec.smod 32).toNat = b := by decide +kernel
theorem one_bv : (1 : Int32).toBitVec.toNat = 2 ^ 1 - 1 := by decide
theorem ush1 (x : Int32) {b : Nat} (hb : b < 32) : ((x.toUInt32 >>> ((nI b).toUInt32 &&& Int32.toUInt32 31)).toInt32 &&& 1) = if bI x b = true then 1 else 0 := by
  rw [pk_and _ 1 one_bv, pk_ushr x (nI b) b (sh31 b hb), bI_nat]
  have h : x.toBitVec.toNat / 2 ^ b % 2 ^ 1 < 2 := Nat.mod_lt _ (by decide)
  generalize x.toBitVec.toNat / 2 ^ b = z at h ⊢
  simp only [Nat.pow_one] at h ⊢
  rcases (show z % 2 = 0 ∨ z % 2 = 1 by omega) with e | e
  · rw [e]; rfl
  · rw [e]; rfl
theorem shr1 (x : Int32) {b : Nat} (hb : b < 32) : ((x >>> (nI b &&& 31)) &&& 1) = if bI x b = true then 1 else 0 := by
  apply Int32.toBitVec_inj.mp
  apply BitVec.eq_of_getLsbD_eq
  intro i hi
  rw [Int32.toBitVec_and, BitVec.getLsbD_and, Int32.toBitVec_shiftRight]
  have e1 : (1 : Int32).toBitVec.getLsbD i = decide (i = 0) := by
    rw [show (1 : Int32).toBitVec = BitVec.twoPow 32 0 by decide, BitVec.getLsbD_twoPow]
    by_cases h : i = 0
    · subst h; rfl
    · simp [h]; omega
  rw [e1]
  by_cases h : i = 0
  · subst h
    rw [BitVec.sshiftRight_eq', sh31s b hb, BitVec.getLsbD_sshiftRight, Nat.add_zero, if_pos hb]
    unfold bI
    cases q : x.toBitVec.getLsbD b <;> rfl
  · have e2 : (if bI x b = true then (1 : Int32) else 0).toBitVec.getLsbD i = false := by
      split
      · rw [e1]; simpa using h
      · rw [show (0 : Int32).toBitVec = 0#32 from rfl, BitVec.getLsbD_zero]
    rw [e2]; simp [h]
theorem bit_one {p : Prop} [Decidable p] : ((if p then (1 : Int32) else 0) = 1) ↔ p := by
  by_cases h : p
  · simp [h]
  · simp [h]
theorem bit_zero {p : Prop} [Decidable p] : ((if p then (1 : Int32) else 0) = 0) ↔ ¬ p := by
  by_cases h : p
  · simp [h]
  · simp [h]
/-! longs -/
theorem bJ_and (x y : Int64) (i : Nat) : bJ (x &&& y) i = (bJ x i && bJ y i) := by
  unfold bJ; rw [Int64.toBitVec_and, BitVec.getLsbD_and]
theorem bJ_or (x y : Int64) (i : Nat) : bJ (x ||| y) i = (bJ x i || bJ y i) := by
  unfold bJ; rw [Int64.toBitVec_or, BitVec.getLsbD_or]
theorem bJ_xor (x y : Int64) (i : Nat) : bJ (x ^^^ y) i = (bJ x i ^^ bJ y i) := by
  unfold bJ; rw [Int64.toBitVec_xor, BitVec.getLsbD_xor]
theorem bJ_0 (i : Nat) : bJ 0 i = false := by
  unfold bJ; rw [show (0 : Int64).toBitVec = 0#64 from rfl, BitVec.getLsbD_zero]
theorem bJ_m1 {i : Nat} (h : i < 64) : bJ (-1) i = true := by
  unfold bJ; rw [show (-1 : Int64).toBitVec = BitVec.allOnes 64 by decide, BitVec.getLsbD_allOnes]; simpa using h
theorem bJ_not (x : Int64) {i : Nat} (h : i < 64) : bJ (x ^^^ -1) i = !bJ x i := by
  rw [bJ_xor, bJ_m1 h]; simp
theorem bJ_ext0 {x : Int64} : x = 0 ↔ ∀ i, i < 64 → bJ x i = false := by
  constructor
  · rintro rfl i _; exact bJ_0 i
  · intro h
    apply Int64.toBitVec_inj.mp
    apply BitVec.eq_of_getLsbD_eq
    intro i hi
    rw [show (0 : Int64).toBitVec = 0#64 from rfl, BitVec.getLsbD_zero]
    exact h i hi
theorem sh63 : ∀ b, b < 64 → ((nI b).toInt64 &&& 63).toBitVec.smod 64 = BitVec.ofNat 64 b := by decide +kernel
theorem sh63u : ∀ b, b < 64 → (((nI b).toInt64.toUInt64 &&& Int64.toUInt64 63).toBitVec % 64) = BitVec.ofNat 64 b := by decide +kernel
theorem bJ_shl (x : Int64) {m i : Nat} (hm : m < 64) (hi : i < 64) : bJ (x <<< ((nI m).toInt64 &&& 63)) i = (decide (m ≤ i) && bJ x (i - m)) := by
  unfold bJ
  rw [Int64.toBitVec_shiftLeft, sh63 m hm]
  rw [BitVec.shiftLeft_eq', BitVec.getLsbD_shiftLeft]
  have e : (BitVec.ofNat 64 m).toNat = m := by rw [BitVec.toNat_ofNat]; exact Nat.mod_eq_of_lt (by omega)
  rw [e]
  by_cases h : m ≤ i
  · simp [h, hi]
  · simp [h, hi]
theorem bJ_of (x : Int32) {i : Nat} (hi : i < 64) : bJ x.toInt64 i = if i < 32 then bI x i else bI x 31 := by
  unfold bJ bI
  rw [Int32.toBitVec_toInt64, BitVec.getLsbD_signExtend]
  have : x.toBitVec.msb = x.toBitVec.getLsbD 31 := by rw [BitVec.msb_eq_getLsbD_last]
  rw [this]
  by_cases h : i < 32 <;> simp [h, hi]
theorem uJ1 (x : Int64) {b : Nat} (hb : b < 64) : ((x.toUInt64 >>> ((nI b).toInt64.toUInt64 &&& Int64.toUInt64 63)).toInt64 &&& 1) = if bJ x b = true then 1 else 0 := by
  apply Int64.toBitVec_inj.mp
  apply BitVec.eq_of_getLsbD_eq
  intro i hi
  rw [Int64.toBitVec_and, BitVec.getLsbD_and]
  have e1 : (1 : Int64).toBitVec.getLsbD i = decide (i = 0) := by
    rw [show (1 : Int64).toBitVec = BitVec.twoPow 64 0 by decide, BitVec.getLsbD_twoPow]
    by_cases h : i = 0
    · subst h; rfl
    · simp [h]; omega
  rw [e1]
  by_cases h : i = 0
  · subst h
    have e2 : (x.toUInt64 >>> ((nI b).toInt64.toUInt64 &&& Int64.toUInt64 63)).toInt64.toBitVec = x.toBitVec >>> b := by
      have : (x.toUInt64 >>> ((nI b).toInt64.toUInt64 &&& Int64.toUInt64 63)).toInt64.toBitVec = (x.toUInt64 >>> ((nI b).toInt64.toUInt64 &&& Int64.toUInt64 63)).toBitVec := rfl
      rw [this, UInt64.toBitVec_shiftRight, sh63u b hb, BitVec.ushiftRight_eq']
      have e : (BitVec.ofNat 64 b).toNat = b := by rw [BitVec.toNat_ofNat]; exact Nat.mod_eq_of_lt (by omega)
      rw [e]; rfl
    rw [e2, BitVec.getLsbD_ushiftRight]
    unfold bJ
    by_cases q : x.toBitVec.getLsbD b = true
    · simp [q]
    · simp [q]
  · have e2 : (if bJ x b = true then (1 : Int64) else 0).toBitVec.getLsbD i = false := by
      split
      · rw [e1]; simpa using h
      · rw [show (0 : Int64).toBitVec = 0#64 from rfl, BitVec.getLsbD_zero]
    rw [e2]; simp [h]
