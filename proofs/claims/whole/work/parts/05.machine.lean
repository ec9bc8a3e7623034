/-! the abstract machine: values, memory, the layout of the cells, one step -/
abbrev AV : Type := Int32 ⊕ Int64 ⊕ (Nat × Nat) ⊕ Unit
abbrev vI (x : Int32) : AV := .inl x
abbrev vJ (x : Int64) : AV := .inr (.inl x)
abbrev vR (k i : Nat) : AV := .inr (.inr (.inl (k, i)))
abbrev vU : AV := .inr (.inr (.inr ()))
abbrev Mem : Type := (Nat → Nat → Nat → Int32) × (Nat → Nat → Nat → Int64)
def gI (s : Mem) (k i j : Nat) : Int32 := s.1 k i j
def gJ (s : Mem) (k i j : Nat) : Int64 := s.2 k i j
def pI (s : Mem) (k i j : Nat) (x : Int32) : Mem := (fun a b c => if a = k ∧ b = i ∧ c = j then x else s.1 a b c, s.2)
def pJ (s : Mem) (k i j : Nat) (x : Int64) : Mem := (s.1, fun a b c => if a = k ∧ b = i ∧ c = j then x else s.2 a b c)
/-- System.arraycopy between two rows of ints -/
def pC (s : Mem) (k i k2 i2 sp dp n : Nat) : Mem := (fun a b c => if a = k2 ∧ b = i2 ∧ dp ≤ c ∧ c < dp + n then s.1 k i (sp + (c - dp)) else s.1 a b c, s.2)
theorem gI_pI (s : Mem) (k i j : Nat) (x : Int32) (a b c : Nat) : gI (pI s k i j x) a b c = if a = k ∧ b = i ∧ c = j then x else gI s a b c := rfl
theorem gJ_pI (s : Mem) (k i j : Nat) (x : Int32) (a b c : Nat) : gJ (pI s k i j x) a b c = gJ s a b c := rfl
theorem gI_pJ (s : Mem) (k i j : Nat) (x : Int64) (a b c : Nat) : gI (pJ s k i j x) a b c = gI s a b c := rfl
theorem gJ_pJ (s : Mem) (k i j : Nat) (x : Int64) (a b c : Nat) : gJ (pJ s k i j x) a b c = if a = k ∧ b = i ∧ c = j then x else gJ s a b c := rfl
theorem gI_pC (s : Mem) (k i k2 i2 sp dp n a b c : Nat) : gI (pC s k i k2 i2 sp dp n) a b c = if a = k2 ∧ b = i2 ∧ dp ≤ c ∧ c < dp + n then gI s k i (sp + (c - dp)) else gI s a b c := rfl
theorem gJ_pC (s : Mem) (k i k2 i2 sp dp n a b c : Nat) : gJ (pC s k i k2 i2 sp dp n) a b c = gJ s a b c := rfl
/-- the kinds of cells: how many; an object (its class, its fields: a kind that it refers to, of the same number, or an int) or an array (type, length, the kind that it refers to) -/
abbrev LE : Type := Nat × ((Nat × List (Option Nat)) ⊕ (Nat × Nat × Nat))
def LT : List LE := [(1, .inl (10, [some 1, some 10, some 15, some 22, some 24, some 6, some 33, some 45, none])), (1, .inr (3, 12, 2)), (12, .inl (8, [some 3, some 4, some 5, none, none, none, none, none])), (12, .inr (0, 20, 0)), (12, .inr (0, 20, 0)), (12, .inr (0, 20, 0)), (1, .inr (4, 8, 7)), (8, .inl (4, [some 8, none, none, none, none])), (8, .inl (9, [some 9, none])), (8, .inr (0, 12, 0)), (1, .inl (5, [some 11, some 12, some 13, some 14])), (1, .inl (3, [none, none, none, none])), (1, .inl (3, [none, none, none, none])), (1, .inr (0, 20, 0)), (1, .inr (0, 20, 0)), (1, .inl (1, [some 16, none])), (1, .inl (0, [none, none, some 17, some 18, some 19, some 20, some 21, none])), (1, .inr (0, 12, 0)), (1, .inr (0, 12, 0)), (1, .inr (0, 13, 0)), (1, .inr (0, 12, 0)), (1, .inr (0, 12, 0)), (1, .inl (9, [some 23, none])), (1, .inr (0, 12, 0)), (1, .inl (7, [some 25, some 26, some 27, some 28, some 29, some 30])), (1, .inr (5, 10, 31)), (1, .inr (0, 10, 0)), (1, .inr (0, 13, 0)), (1, .inr (0, 12, 0)), (1, .inr (0, 12, 0)), (1, .inr (0, 12, 0)), (10, .inl (9, [some 32, none])), (10, .inr (0, 4, 0)), (1, .inl (6, [some 34, some 40, some 41, some 42, some 43, some 44, none])), (1, .inl (0, [none, none, some 35, some 36, some 37, some 38, some 39, none])), (1, .inr (0, 32, 0)), (1, .inr (0, 8, 0)), (1, .inr (0, 9, 0)), (1, .inr (0, 8, 0)), (1, .inr (0, 8, 0)), (1, .inl (3, [none, none, none, none])), (1, .inr (0, 32, 0)), (1, .inr (0, 32, 0)), (1, .inr (0, 32, 0)), (1, .inr (0, 8, 0)), (1, .inl (2, [some 46, some 47, some 48, some 49, some 50, none])), (1, .inr (0, 8, 0)), (1, .inr (0, 5, 0)), (1, .inr (0, 8, 0)), (1, .inr (0, 8, 0)), (1, .inr (2, 8, 0)), (1, .inl (11, [some 52, some 53, some 54, some 55, some 56, some 57, some 58, some 59, some 60, none, none, none, some 61, some 62, some 63, none, some 64, some 65, some 66, some 67, some 68, some 69, some 70, some 71, some 72, some 73, some 74, some 75, some 76, some 77, some 78, some 79, some 80, some 81, some 82, none, some 83, some 84])), (1, .inr (1, 12, 0)), (1, .inr (0, 12, 0)), (1, .inr (1, 12, 0)), (1, .inr (0, 12, 0)), (1, .inr (0, 240, 0)), (1, .inr (0, 240, 0)), (1, .inr (0, 12, 0)), (1, .inr (0, 240, 0)), (1, .inr (0, 20, 0)), (1, .inr (0, 12, 0)), (1, .inr (0, 26, 0)), (1, .inr (0, 12, 0)), (1, .inr (0, 10, 0)), (1, .inr (0, 40, 0)), (1, .inr (0, 10, 0)), (1, .inr (0, 8, 0)), (1, .inr (0, 96, 0)), (1, .inr (0, 8, 0)), (1, .inr (0, 8, 0)), (1, .inr (0, 8, 0)), (1, .inr (0, 13, 0)), (1, .inr (0, 12, 0)), (1, .inr (0, 32, 0)), (1, .inr (0, 32, 0)), (1, .inr (0, 32, 0)), (1, .inr (1, 32, 0)), (1, .inr (1, 1024, 0)), (1, .inr (0, 8, 0)), (1, .inr (0, 8, 0)), (1, .inr (1, 64, 0)), (1, .inr (1, 25, 0)), (1, .inr (0, 8, 0)), (1, .inr (0, 8, 0)), (1, .inr (0, 26, 0))]
def cnt (k : Nat) : Nat := match LT[k]? with
  | some e => e.1
  | none => 0
def PR : List (Nat × Nat) := [(0, 0), (1, 0), (2, 0), (2, 1), (2, 2), (2, 3), (2, 4), (2, 5), (2, 6), (2, 7), (2, 8), (2, 9), (2, 10), (2, 11), (3, 0), (3, 1), (3, 2), (3, 3), (3, 4), (3, 5), (3, 6), (3, 7), (3, 8), (3, 9), (3, 10), (3, 11), (4, 0), (4, 1), (4, 2), (4, 3), (4, 4), (4, 5), (4, 6), (4, 7), (4, 8), (4, 9), (4, 10), (4, 11), (5, 0), (5, 1), (5, 2), (5, 3), (5, 4), (5, 5), (5, 6), (5, 7), (5, 8), (5, 9), (5, 10), (5, 11), (6, 0), (7, 0), (7, 1), (7, 2), (7, 3), (7, 4), (7, 5), (7, 6), (7, 7), (8, 0), (8, 1), (8, 2), (8, 3), (8, 4), (8, 5), (8, 6), (8, 7), (9, 0), (9, 1), (9, 2), (9, 3), (9, 4), (9, 5), (9, 6), (9, 7), (10, 0), (11, 0), (12, 0), (13, 0), (14, 0), (15, 0), (16, 0), (17, 0), (18, 0), (19, 0), (20, 0), (21, 0), (22, 0), (23, 0), (24, 0), (25, 0), (26, 0), (27, 0), (28, 0), (29, 0), (30, 0), (31, 0), (31, 1), (31, 2), (31, 3), (31, 4), (31, 5), (31, 6), (31, 7), (31, 8), (31, 9), (32, 0), (32, 1), (32, 2), (32, 3), (32, 4), (32, 5), (32, 6), (32, 7), (32, 8), (32, 9), (33, 0), (34, 0), (35, 0), (36, 0), (37, 0), (38, 0), (39, 0), (40, 0), (41, 0), (42, 0), (43, 0), (44, 0), (45, 0), (46, 0), (47, 0), (48, 0), (49, 0), (50, 0), (51, 0), (52, 0), (53, 0), (54, 0), (55, 0), (56, 0), (57, 0), (58, 0), (59, 0), (60, 0), (61, 0), (62, 0), (63, 0), (64, 0), (65, 0), (66, 0), (67, 0), (68, 0), (69, 0), (70, 0), (71, 0), (72, 0), (73, 0), (74, 0), (75, 0), (76, 0), (77, 0), (78, 0), (79, 0), (80, 0), (81, 0), (82, 0), (83, 0), (84, 0)]
def okR (k i : Nat) : Prop := (k < 85 ∧ i < cnt k) ∨ (k = 85 ∧ i = 0) ∨ (k = 86 ∧ i = 0)
/-- the constant pools: a class's entry for a field: the class of the field, its slot, whether it is a nest mate's -/
def FA : Nat → List (Nat × Nat × Nat × Nat × Bool) := fun c => match c with
  | 0 => [(7, 0, 0, 2, false), (13, 0, 1, 2, false), (16, 0, 2, 2, false), (20, 0, 3, 2, false), (23, 0, 4, 2, false), (26, 0, 5, 2, false), (29, 0, 6, 2, false), (32, 0, 7, 0, false)]
  | 1 => [(52, 8, 3, 0, true), (43, 8, 5, 0, true), (65, 8, 6, 1, true), (28, 0, 2, 2, true), (68, 0, 6, 2, true), (14, 1, 0, 2, false), (32, 1, 1, 1, false)]
  | 2 => [(9, 2, 0, 2, false), (15, 2, 1, 2, false), (18, 2, 2, 2, false), (21, 2, 3, 2, false), (24, 2, 4, 2, false), (32, 2, 5, 0, false)]
  | 3 => [(13, 3, 0, 0, false), (16, 3, 1, 0, false), (7, 3, 2, 0, false), (19, 3, 3, 0, false)]
  | 4 => [(14, 4, 0, 2, false), (24, 4, 1, 0, false), (28, 4, 2, 0, false), (31, 4, 3, 0, false), (34, 4, 4, 1, false)]
  | 5 => [(52, 8, 0, 2, true), (55, 8, 1, 2, true), (41, 8, 2, 2, true), (28, 8, 3, 0, true), (38, 8, 4, 0, true), (12, 5, 0, 2, false), (18, 5, 1, 2, false), (21, 5, 2, 2, false), (25, 5, 3, 2, false)]
  | 6 => [(90, 8, 4, 0, true), (50, 4, 0, 2, true), (60, 4, 1, 0, true), (63, 4, 2, 0, true), (70, 4, 3, 0, true), (44, 4, 4, 1, true), (112, 0, 2, 2, true), (123, 0, 6, 2, true), (14, 6, 0, 2, false), (23, 6, 1, 2, false), (27, 6, 2, 2, false), (31, 6, 3, 2, false), (34, 6, 4, 2, false), (37, 6, 5, 2, false), (40, 6, 6, 0, false)]
  | 7 => [(51, 9, 0, 2, true), (40, 9, 1, 0, true), (11, 7, 0, 2, false), (17, 7, 1, 2, false), (21, 7, 2, 2, false), (24, 7, 3, 2, false), (27, 7, 4, 2, false), (30, 7, 5, 2, false)]
  | 8 => [(9, 8, 0, 2, false), (15, 8, 1, 2, false), (18, 8, 2, 2, false), (32, 8, 3, 0, false), (35, 8, 4, 0, false), (21, 8, 5, 0, false), (25, 8, 6, 1, false), (29, 8, 7, 1, false), (42, 3, 0, 0, true), (47, 3, 1, 0, true), (50, 3, 2, 0, true), (53, 3, 3, 0, true)]
  | 9 => [(7, 9, 0, 2, false), (13, 9, 1, 0, false)]
  | 10 => [(103, 8, 2, 2, true), (89, 8, 3, 0, true), (100, 8, 4, 0, true), (133, 9, 1, 0, true), (159, 4, 0, 2, true), (156, 4, 4, 1, true), (126, 1, 1, 1, true), (162, 7, 5, 2, true), (176, 6, 5, 2, true), (183, 2, 0, 2, true), (190, 2, 1, 2, true), (198, 2, 3, 2, true), (195, 2, 5, 0, true), (11, 10, 0, 2, false), (26, 10, 1, 2, false), (33, 10, 2, 2, false), (42, 10, 3, 2, false), (49, 10, 4, 2, false), (18, 10, 5, 2, false), (56, 10, 6, 2, false), (63, 10, 7, 2, false), (67, 10, 8, 0, false)]
  | 11 => [(7, 11, 0, 2, false), (13, 11, 1, 2, false), (17, 11, 2, 2, false), (20, 11, 3, 2, false), (23, 11, 4, 2, false), (26, 11, 5, 2, false), (29, 11, 6, 2, false), (32, 11, 7, 2, false), (35, 11, 8, 2, false), (38, 11, 9, 0, false), (195, 11, 10, 0, false), (198, 11, 11, 1, false), (42, 11, 12, 2, false), (45, 11, 13, 2, false), (48, 11, 14, 2, false), (202, 11, 15, 0, false), (51, 11, 16, 2, false), (54, 11, 17, 2, false), (57, 11, 18, 2, false), (60, 11, 19, 2, false), (63, 11, 20, 2, false), (66, 11, 21, 2, false), (69, 11, 22, 2, false), (72, 11, 23, 2, false), (75, 11, 24, 2, false), (78, 11, 25, 2, false), (81, 11, 26, 2, false), (84, 11, 27, 2, false), (87, 11, 28, 2, false), (90, 11, 29, 2, false), (93, 11, 30, 2, false), (96, 11, 31, 2, false), (99, 11, 32, 2, false), (102, 11, 33, 2, false), (105, 11, 34, 2, false), (231, 11, 35, 0, false), (108, 11, 36, 2, false), (111, 11, 37, 2, false)]
  | _ => []
def fre (l : List (Nat × Nat × Nat × Nat × Bool)) (idx : Nat) : Option (Nat × Nat × Nat) := match l with
  | [] => none
  | e :: t => bif e.1 == idx then some (e.2.1, e.2.2.1, e.2.2.2.1) else fre t idx
def fet (l : List (Nat × Instr × Nat)) (pc : Nat) : Option (Instr × Nat) := match l with
  | [] => none
  | e :: t => bif e.1 == pc then some e.2 else fet t pc
/-- long and int constants -/
def lcon (own idx : Nat) : Option Int64 := match own, idx with
  | 2, 60 => some (-1)
  | 2, 66 => some 31
  | 11, 214 => some 10
  | _, _ => none
def icon (own idx : Nat) : Option Int32 := match own, idx with
  | 13, 265 => some 1431655765
  | 13, 266 => some 858993459
  | 13, 267 => some 252645135
  | _, _ => none
def clr (L : List AV) (k : Nat) : List AV := match k with
  | 0 => L
  | k' + 1 => match L[k']? with
    | some (.inr (.inl _)) => L.set k' vU
    | _ => L
abbrev St : Type := Nat × List AV × List AV × Mem
def tgt (pc : Nat) (off : Int) : Nat := ((pc : Int) + off).toNat
def okT (pc : Nat) (off : Int) : Bool := decide (0 ≤ (pc : Int) + off)
def iLd (L S : List AV) (k pc n : Nat) (s : Mem) : Option (List Prop × St) := match L[k]? with
  | some (.inl x) => some ([], pc + n, L, vI x :: S, s)
  | _ => none
def lLd (L S : List AV) (k pc n : Nat) (s : Mem) : Option (List Prop × St) := match L[k]? with
  | some (.inr (.inl x)) => some ([], pc + n, L, vJ x :: S, s)
  | _ => none
def aLd (L S : List AV) (k pc n : Nat) (s : Mem) : Option (List Prop × St) := match L[k]? with
  | some (.inr (.inr (.inl (a, b)))) => some ([], pc + n, L, vR a b :: S, s)
  | _ => none
def iSt (L S : List AV) (k pc n : Nat) (s : Mem) : Option (List Prop × St) := match S, L[k]? with
  | .inl x :: S, some _ => some ([], pc + n, (clr L k).set k (vI x), S, s)
  | _, _ => none
def lSt (L S : List AV) (k pc n : Nat) (s : Mem) : Option (List Prop × St) := match S, L[k + 1]? with
  | .inr (.inl x) :: S, some _ => some ([], pc + n, ((clr L k).set k (vJ x)).set (k + 1) vU, S, s)
  | _, _ => none
def aSt (L S : List AV) (k pc n : Nat) (s : Mem) : Option (List Prop × St) := match S, L[k]? with
  | .inr (.inr (.inl (a, b))) :: S, some _ => some ([], pc + n, (clr L k).set k (vR a b), S, s)
  | _, _ => none
def i2 (f : Int32 → Int32 → Int32) (L S : List AV) (pc n : Nat) (s : Mem) : Option (List Prop × St) := match S with
  | .inl y :: .inl x :: S => some ([], pc + n, L, vI (f x y) :: S, s)
  | _ => none
def l2 (f : Int64 → Int64 → Int64) (L S : List AV) (pc n : Nat) (s : Mem) : Option (List Prop × St) := match S with
  | .inr (.inl y) :: .inr (.inl x) :: S => some ([], pc + n, L, vJ (f x y) :: S, s)
  | _ => none
def li2 (f : Int64 → Int32 → Int64) (L S : List AV) (pc n : Nat) (s : Mem) : Option (List Prop × St) := match S with
  | .inl y :: .inr (.inl x) :: S => some ([], pc + n, L, vJ (f x y) :: S, s)
  | _ => none
/-- a step that goes on in one way: what it needs, and the next state -/
def nxt (own : Nat) (i : Instr) (n pc : Nat) (L S : List AV) (s : Mem) : Option (List Prop × St) := match i with
  | .iconst v => some ([], pc + n, L, vI (Int32.ofInt v) :: S, s)
  | .bipush v => some ([], pc + n, L, vI (Int8.ofInt v).toInt32 :: S, s)
  | .sipush v => some ([], pc + n, L, vI (Int16.ofInt v).toInt32 :: S, s)
  | .lconst v => some ([], pc + n, L, vJ (Int64.ofNat v.val) :: S, s)
  | .ldc2_w k => match lcon own k with
    | some v => some ([], pc + n, L, vJ v :: S, s)
    | none => none
  | .ldc_w k => match icon own k with
    | some v => some ([], pc + n, L, vI v :: S, s)
    | none => none
  | .iload_n k => iLd L S k.val pc n s
  | .iload k => iLd L S k pc n s
  | .lload_n k => lLd L S k.val pc n s
  | .lload k => lLd L S k pc n s
  | .aload_n k => aLd L S k.val pc n s
  | .aload k => aLd L S k pc n s
  | .istore_n k => iSt L S k.val pc n s
  | .istore k => iSt L S k pc n s
  | .lstore_n k => lSt L S k.val pc n s
  | .lstore k => lSt L S k pc n s
  | .astore_n k => aSt L S k.val pc n s
  | .astore k => aSt L S k pc n s
  | .iinc k v => match L[k]? with
    | some (.inl x) => some ([], pc + n, (clr L k).set k (vI (x + Int32.ofInt v)), S, s)
    | _ => none
  | .iadd => i2 (fun x y => x + y) L S pc n s
  | .isub => i2 (fun x y => x - y) L S pc n s
  | .imul => i2 (fun x y => x * y) L S pc n s
  | .iand => i2 (fun x y => x &&& y) L S pc n s
  | .ior => i2 (fun x y => x ||| y) L S pc n s
  | .ixor => i2 (fun x y => x ^^^ y) L S pc n s
  | .ishl => i2 (fun x y => x <<< (y &&& 31)) L S pc n s
  | .ishr => i2 (fun x y => x >>> (y &&& 31)) L S pc n s
  | .iushr => i2 (fun x y => (x.toUInt32 >>> (y.toUInt32 &&& Int32.toUInt32 31)).toInt32) L S pc n s
  | .ladd => l2 (fun x y => x + y) L S pc n s
  | .lsub => l2 (fun x y => x - y) L S pc n s
  | .lmul => l2 (fun x y => x * y) L S pc n s
  | .land => l2 (fun x y => x &&& y) L S pc n s
  | .lor => l2 (fun x y => x ||| y) L S pc n s
  | .lxor => l2 (fun x y => x ^^^ y) L S pc n s
  | .lshl => li2 (fun x y => x <<< (y.toInt64 &&& 63)) L S pc n s
  | .lushr => li2 (fun x y => (x.toUInt64 >>> (y.toInt64.toUInt64 &&& Int64.toUInt64 63)).toInt64) L S pc n s
  | .ineg => match S with
    | .inl x :: S => some ([], pc + n, L, vI (-x) :: S, s)
    | _ => none
  | .lneg => match S with
    | .inr (.inl x) :: S => some ([], pc + n, L, vJ (-x) :: S, s)
    | _ => none
  | .i2l => match S with
    | .inl x :: S => some ([], pc + n, L, vJ x.toInt64 :: S, s)
    | _ => none
  | .lcmp => match S with
    | .inr (.inl y) :: .inr (.inl x) :: S => some ([], pc + n, L, vI (lg_cmp x y) :: S, s)
    | _ => none
  | .idiv => match S with
    | .inl y :: .inl x :: S => some ([¬ y = 0], pc + n, L, vI (x / y) :: S, s)
    | _ => none
  | .dup => match S with
    | .inl x :: S => some ([], pc + n, L, vI x :: vI x :: S, s)
    | .inr (.inr (.inl (a, b))) :: S => some ([], pc + n, L, vR a b :: vR a b :: S, s)
    | _ => none
  | .dup2 => match S with
    | .inl x :: .inr (.inr (.inl (a, b))) :: S => some ([], pc + n, L, vI x :: vR a b :: vI x :: vR a b :: S, s)
    | _ => none
  | .goto o => match okT pc o with
    | true => some ([], tgt pc o, L, S, s)
    | false => none
  | .getfield idx => match S with
    | .inr (.inr (.inl (k, i))) :: S => match fre (FA own) idx, LT[k]? with
      | some (c, j, _), some (_, .inl (c2, fs)) => match c == c2, fs[j]? with
        | true, some (some k2) => some ([], pc + n, L, vR k2 i :: S, s)
        | true, some none => some ([], pc + n, L, vI (gI s k i j) :: S, s)
        | _, _ => none
      | _, _ => none
    | _ => none
  | .putfield idx => match S with
    | .inl x :: .inr (.inr (.inl (k, i))) :: S => match fre (FA own) idx, LT[k]? with
      | some (c, j, ty), some (_, .inl (c2, fs)) => match c == c2, fs[j]? with
        | true, some none => match ty with
          | 0 => some ([], pc + n, L, S, pI s k i j x)
          | 1 => some ([x = 0 ∨ x = 1], pc + n, L, S, pI s k i j x)
          | _ => none
        | _, _ => none
      | _, _ => none
    | _ => none
  | .iaload => match S with
    | .inl j :: .inr (.inr (.inl (k, i))) :: S => match k == 86 with
      | true => some ([vp_in j (gI s 87 0 0).toNatClampNeg], pc + n, L, vI (gI s k i j.toNatClampNeg) :: S, s)
      | false => match LT[k]? with
        | some (_, .inr (0, m, _)) => some ([vp_in j m], pc + n, L, vI (gI s k i j.toNatClampNeg) :: S, s)
        | _ => none
    | _ => none
  | .baload => match S with
    | .inl j :: .inr (.inr (.inl (k, i))) :: S => match LT[k]? with
      | some (_, .inr (1, m, _)) => some ([vp_in j m], pc + n, L, vI (gI s k i j.toNatClampNeg) :: S, s)
      | _ => none
    | _ => none
  | .laload => match S with
    | .inl j :: .inr (.inr (.inl (k, i))) :: S => match LT[k]? with
      | some (_, .inr (2, m, _)) => some ([vp_in j m], pc + n, L, vJ (gJ s k i j.toNatClampNeg) :: S, s)
      | _ => none
    | _ => none
  | .aaload => match S with
    | .inl j :: .inr (.inr (.inl (k, _))) :: S => match LT[k]? with
      | some (_, .inr (t + 3, m, k2)) => match t < 3, m == cnt k2, decide (k2 < 85) with
        | _, true, true => some ([vp_in j m], pc + n, L, vR k2 j.toNatClampNeg :: S, s)
        | _, _, _ => none
      | _ => none
    | _ => none
  | .iastore => match S with
    | .inl x :: .inl j :: .inr (.inr (.inl (k, i))) :: S => match LT[k]?, decide (k < 85) with
      | some (_, .inr (0, m, _)), true => some ([vp_in j m], pc + n, L, S, pI s k i j.toNatClampNeg x)
      | _, _ => none
    | _ => none
  | .bastore => match S with
    | .inl x :: .inl j :: .inr (.inr (.inl (k, i))) :: S => match LT[k]?, decide (k < 85) with
      | some (_, .inr (1, m, _)), true => some ([vp_in j m, x = 0 ∨ x = 1], pc + n, L, S, pI s k i j.toNatClampNeg x)
      | _, _ => none
    | _ => none
  | .lastore => match S with
    | .inr (.inl x) :: .inl j :: .inr (.inr (.inl (k, i))) :: S => match LT[k]?, decide (k < 85) with
      | some (_, .inr (2, m, _)), true => some ([vp_in j m], pc + n, L, S, pJ s k i j.toNatClampNeg x)
      | _, _ => none
    | _ => none
  | .arraylength => match S with
    | .inr (.inr (.inl (k, i))) :: S => match k == 86 with
      | true => some ([], pc + n, L, vI (gI s 87 0 0) :: S, s)
      | false => match LT[k]? with
        | some (_, .inr (0, m, _)) => some ([], pc + n, L, vI (Int32.ofNat m) :: S, s)
        | _ => none
    | _ => none
  | .getstatic idx => match own, idx with
    | 7, 48 => some ([], pc + n, L, vR 85 0 :: S, s)
    | _, _ => none
  | _ => none
def ilen : Instr → Nat
  | .bipush _ | .iload _ | .lload _ | .aload _ | .istore _ | .lstore _ | .astore _ => 2
  | .sipush _ | .ldc2_w _ | .ldc_w _ | .iinc _ _ | .goto _ | .getfield _ | .putfield _ | .getstatic _ | .ifCond _ _ | .if_icmp _ _ => 3
  | _ => 1
def allP : List Prop → Prop
  | [] => True
  | c :: cs => c ∧ allP cs
/-- k steps -/
def runN (M : MI) : Nat → St → Option (List Prop × St)
  | 0, st => some ([], st)
  | k + 1, (pc, L, S, s) => match fet M.tab pc with
    | some (i, n) => match n == ilen i, nxt M.own i n pc L S s with
      | true, some (C, st) => match runN M k st with
        | some (C2, st2) => some (C ++ C2, st2)
        | none => none
      | _, _ => none
    | none => none
/-- a branch: its condition, where it goes if it holds, if not -/
def brn (i : Instr) (n pc : Nat) (S : List AV) : Option (Prop × Nat × Nat × List AV) := match i with
  | .ifCond c o => match S, okT pc o with
    | .inl x :: S, true => match c with
      | .eq => some (x = 0, tgt pc o, pc + n, S)
      | .ne => some (x = 0, pc + n, tgt pc o, S)
      | .lt => some (x < 0, tgt pc o, pc + n, S)
      | .ge => some (0 ≤ x, tgt pc o, pc + n, S)
      | .gt => some (0 < x, tgt pc o, pc + n, S)
      | .le => some (x ≤ 0, tgt pc o, pc + n, S)
    | _, _ => none
  | .if_icmp c o => match S, okT pc o with
    | .inl y :: .inl x :: S, true => match c with
      | .eq => some (x = y, tgt pc o, pc + n, S)
      | .ne => some (x = y, pc + n, tgt pc o, S)
      | .lt => some (x < y, tgt pc o, pc + n, S)
      | .ge => some (y ≤ x, tgt pc o, pc + n, S)
      | .gt => some (y < x, tgt pc o, pc + n, S)
      | .le => some (x ≤ y, tgt pc o, pc + n, S)
    | _, _ => none
  | _ => none
