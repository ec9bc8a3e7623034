/-! the steps that make or change a cell -/
theorem KP.new {G : GX} {A : Nat → Prop} {s : State} {cs : List KC} {H H1 : Heap} {locs : List Loc} {c : KC} (hG : ∀ n, G.ad 0 n = G.ad 0 0 + n) (h : KP G A s cs H locs) (hc : va_at G.D classes (H.size, kc G c) H1) (z : H1.size = H.size + 1) (o : ∀ q : Nat, q < H.size → H1[q]? = H[q]?) : KP G A s (cs ++ [c]) H1 locs := by
  obtain ⟨hP, hS, hz⟩ := h
  refine ⟨?_, ⟨by have := hS.1; omega, fun q h1 h2 => (o q (Nat.lt_of_lt_of_le h1 hS.1)).trans (hS.2.1 q h1 h2), hS.2.2⟩, by rw [z, hz, List.length_append, List.length_singleton, Nat.add_assoc]⟩
  rw [kw_app]
  refine (hP.kept (fun k q hk => o q.1 ((hP k q hk).lt))).app (fun k q hk => ?_)
  have h1 : k < 1 := (List.getElem?_eq_some_iff.mp hk).1
  have : k = 0 := by omega
  subst this
  cases hk
  rw [hG cs.length, ← hz]
  exact hc
theorem cvN {G : GX} (hG : ∀ n, G.ad 0 n = G.ad 0 0 + n) {H : Heap} {n : Nat} (h : H.size = G.ad 0 0 + n) : Value.ref H.size = cv G (vR 0 n) := by
  show Value.ref H.size = Value.ref (G.ad 0 n)
  rw [hG n, h]
def kd0 (t : FieldType) : KV := match t with
  | .int => .inl 0
  | .boolean => .inl 0
  | _ => .inr (.inr ())
def kok (t : FieldType) : Bool := match t with
  | .int => true
  | .boolean => true
  | .object _ => true
  | .array _ => true
  | _ => false
theorem kok_all : (List.range 12).all (fun c => (List.range (knf c)).all (fun j => kok (tyOf c j))) = true := by decide +kernel
theorem kdv (G : GX) {t : FieldType} (h : kok t = true) : defaultValue t = kv G (kd0 t) := by
  unfold kok at h
  split at h <;> first | rfl | cases h
def kdf (c : Nat) : List KV := (List.range (knf c)).map (fun j => kd0 (tyOf c j))
theorem kdf_ok (G : GX) {c : Nat} (hc : c < 12) : ∀ j, j < knf c → defaultValue (tyOf c j) = vp_V ((kdf c).map (kv G)) j := by
  intro j hj
  have h1 := List.all_eq_true.mp (List.all_eq_true.mp kok_all c (List.mem_range.mpr hc)) j (List.mem_range.mpr hj)
  rw [kdv G h1]
  unfold vp_V kdf
  rw [List.getD_eq_getElem?_getD, List.getElem?_map, List.getElem?_map, List.getElem?_range hj]
  rfl
set_option maxHeartbeats 400000 in
theorem KR.new {d : Nat} {M : MI} {pc idx ci : Nat} {L S : List AV} {cs : List KC} (hf : fet M.tab pc = some (.new idx, 3)) (h : kcl M.own idx = some ci) : KR d M (pc, L, S, cs) (pc + 3, L, vR 0 cs.length :: S, cs ++ [.inl (ci, kdf ci)]) 1 (knf ci) := by
  intro G A p l e R s m args below meth c H locs cells slots ls Q hX hP hL hu hv k
  obtain ⟨hM, hx, hb, hml, hown, hts, hSK, hmn, hd, hA, hs0⟩ := hX
  obtain ⟨hlk, hci⟩ := kcl_w h
  have hG := hSK.2.2.1
  cases hq : classes[ci]? with
  | none =>
    have : ci < classes.length := hci
    rw [List.getElem?_eq_none_iff] at hq
    omega
  | some q =>
    obtain ⟨w1, w2, w3⟩ := kin_w hq
    have hn : knf ci = q.2.2 := by unfold knf; rw [hq]
    have hKn := hSK.1.1 ci _ hq
    rw [hn] at hv
    refine W.newcK hx hb hown (hts _ hlk) (hts _ w1) (hts _ w2) rfl (hM.dec hf) hu hv (by rw [← w3]; exact hKn.2.1) rfl (fun H1 kC hkC e1 z1 o1 => ?_)
    have go := k H1 locs ls (KP.new hG hP (c := .inl (ci, kdf ci)) ⟨q, hq, (u_born (tyOf ci) hts (cl_in hq).1 hKn hkC e1 (cl_in hq).2.1).to (by rw [← hn]; exact kdf_ok G hci)⟩ z1 o1) hL
    dsimp only at go
    rw [List.map_cons, ← cvN hG hP.2.2, hn] at go
    exact go
def kta (a : ArrayType) : Option Nat := match a with
  | .int => some 0
  | .boolean => some 1
  | .long => some 2
  | _ => none
set_option maxHeartbeats 400000 in
theorem KR.newa {d : Nat} {M : MI} {pc t : Nat} {a : ArrayType} {n : Int32} {L S : List AV} {cs : List KC} (hf : fet M.tab pc = some (.newarray a, 2)) (h : kta a = some t) (h0 : ¬ n < 0) (h1 : n.toNatClampNeg ≤ 2000) : KR d M (pc, L, vI n :: S, cs) (pc + 2, L, vR 0 cs.length :: S, cs ++ [.inr (t, n.toNatClampNeg, [], [])]) 1 n.toNatClampNeg := by
  intro G A p l e R s m args below meth c H locs cells slots ls Q hX hP hL hu hv k
  obtain ⟨hM, hx, hb, hml, hown, hts, hSK, hmn, hd, hA, hs0⟩ := hX
  have hG := hSK.2.2.1
  have key : ∀ (t : Nat) (ty : FieldType), newarray.typeOf a = ty → Cond.arrayClass ty ∈ TT → componentBytes ty ≤ 8 → s.vm.findClass ("[" ++ ty.toString) = some (G.ca t) → (∀ N, va_at G.D classes (H.size, kc G (.inr (t, N, [], []))) = fun H1 => H1[H.size]? = some (arrV (G.ca t) N (fun _ => defaultValue ty))) → (∀ (H' : Heap) (locs' : List Loc) (ls' : Array Slot), KP G A s (cs ++ [.inr (t, n.toNatClampNeg, [], [])]) H' locs' → LH G ls' M.maxL L → W p l e R s m args below meth c H' locs' (cells + 1) (slots + n.toNatClampNeg) Q (F0 m (pc + 2) ls' ((vR 0 cs.length :: S).map (cv G)))) → W p l e R s m args below meth c H locs cells slots Q (F0 m pc ls ((vI n :: S).map (cv G))) := by
    intro t ty e1 e2 e3 e4 e5 k
    subst e1
    refine va_newaK hx hb (hts _ e2) (g := F0 m pc ls ((vI n :: S).map (cv G))) rfl (hM.dec hf) (n := n) (rest := S.map (cv G)) rfl h0 rfl (by have := Nat.mul_le_mul h1 e3; omega) hu hv rfl (fun H1 cA q1 z1 o1 hAr hNm => ?_)
    have ec : cA = G.ca t := Option.some.inj (hNm.symm.trans e4)
    subst ec
    have go := k H1 locs ls (KP.new hG hP (c := .inr (t, n.toNatClampNeg, [], [])) (by rw [e5]; exact q1) z1 o1) hL
    rw [List.map_cons, ← cvN hG hP.2.2] at go
    exact go
  unfold kta at h
  split at h
  · cases h
    exact key 0 .int rfl karr_w.1 (by decide) (hSK.1.2 0 _ rfl).2 (fun N => rfl) k
  · cases h
    exact key 1 .boolean rfl karr_w.2.1 (by decide) (hSK.1.2 1 _ rfl).2 (fun N => rfl) k
  · cases h
    exact key 2 .long rfl karr_w.2.2 (by decide) (hSK.1.2 2 _ rfl).2 (fun N => rfl) k
  · cases h
def ktq (ci : Nat) : Option Nat := match ci with
  | 8 => some 3
  | 4 => some 4
  | 9 => some 5
  | _ => none
set_option maxHeartbeats 400000 in
theorem KR.newq {d : Nat} {M : MI} {pc idx ci t : Nat} {n : Int32} {L S : List AV} {cs : List KC} (hf : fet M.tab pc = some (.anewarray idx, 3)) (h : kcl M.own idx = some ci) (ht : ktq ci = some t) (h0 : ¬ n < 0) (h1 : n.toNatClampNeg ≤ 2000) : KR d M (pc, L, vI n :: S, cs) (pc + 3, L, vR 0 cs.length :: S, cs ++ [.inr (t, n.toNatClampNeg, [], [])]) 1 n.toNatClampNeg := by
  intro G A p l e R s m args below meth c H locs cells slots ls Q hX hP hL hu hv k
  obtain ⟨hM, hx, hb, hml, hown, hts, hSK, hmn, hd, hA, hs0⟩ := hX
  obtain ⟨hlk, hci⟩ := kcl_w h
  have hG := hSK.2.2.1
  have key : ∀ (t : Nat) (C : String), cn ci = C → va_AO C s → s.vm.findClass ("[" ++ (FieldType.object C).toString) = some (G.ca t) → (∀ N, va_at G.D classes (H.size, kc G (.inr (t, N, [], []))) = fun H1 => H1[H.size]? = some (arrV (G.ca t) N (fun _ => .null))) → (∀ (H' : Heap) (locs' : List Loc) (ls' : Array Slot), KP G A s (cs ++ [.inr (t, n.toNatClampNeg, [], [])]) H' locs' → LH G ls' M.maxL L → W p l e R s m args below meth c H' locs' (cells + 1) (slots + n.toNatClampNeg) Q (F0 m (pc + 3) ls' ((vR 0 cs.length :: S).map (cv G)))) → W p l e R s m args below meth c H locs cells slots Q (F0 m pc ls ((vI n :: S).map (cv G))) := by
    intro t C e1 e2 e4 e5 k
    subst e1
    refine W.anew hx hb hown (hts _ hlk) (va_AO.use e2) (g := F0 m pc ls ((vI n :: S).map (cv G))) rfl (hM.dec hf) (n := n) (rest := S.map (cv G)) rfl h0 (by omega) hu hv (fun cA kA comp f1 f2 f3 f4 => ?_)
    have ec : cA = G.ca t := Option.some.inj (f1.symm.trans e4)
    subst ec
    have go := k _ locs ls (KP.new hG hP (c := .inr (t, n.toNatClampNeg, [], [])) (H1 := H.push ({ cls := G.ca t, slots := Array.replicate n.toNatClampNeg .null, vm := .none } : Cell)) (by rw [e5]; show (Array.push H _)[H.size]? = _; rw [Array.getElem?_push_size, ← arrV_new]) (Array.size_push ..) (fun q hq => by rw [Array.getElem?_push, if_neg (Nat.ne_of_lt hq)])) hL
    rw [List.map_cons, ← cvN hG hP.2.2] at go
    exact go
  have ra := fun t C (h : (tys G)[t]? = some (G.ca t, .object C)) => (hSK.1.2 t _ h).2
  unfold ktq at ht
  split at ht
  · cases ht
    obtain ⟨_, _, _, _, _, r⟩ := ra 3 _ rfl
    exact key 3 _ rfl hSK.2.2.2.1 r (fun N => rfl) k
  · cases ht
    obtain ⟨_, _, _, _, _, r⟩ := ra 4 _ rfl
    exact key 4 _ rfl hSK.2.2.2.2.1 r (fun N => rfl) k
  · cases ht
    obtain ⟨_, _, _, _, _, r⟩ := ra 5 _ rfl
    exact key 5 _ rfl hSK.2.2.2.2.2 r (fun N => rfl) k
  · cases ht
def kty (t : FieldType) (v : AV) : Option KV := match t, v with
  | .int, .inl x => some (.inl x)
  | .array _, .inr (.inr (.inl (0, n))) => some (.inr (.inl n))
  | .object _, .inr (.inr (.inl (0, n))) => some (.inr (.inl n))
  | _, _ => none
theorem kty_ok (G : GX) {t : FieldType} {v : AV} {w : KV} (h : kty t v = some w) : narrow t (cv G v) = cv G v ∧ fits t (cv G v) = true ∧ cv G v = kv G w := by
  unfold kty at h
  split at h <;> cases h <;> exact ⟨rfl, rfl, rfl⟩
theorem KP.set {G : GX} {A : Nat → Prop} {s : State} {cs : List KC} {H H1 : Heap} {locs : List Loc} {c0 c : KC} {q k : Nat} (hG : ∀ n, G.ad 0 n = G.ad 0 0 + n) (hA : ∀ q, A q ↔ G.ad 0 0 ≤ q) (h : KP G A s cs H locs) (hq : cs[q]? = some c0) (hc : va_at G.D classes (G.ad 0 q, kc G c) H1) (z : H1.size = H.size) (o : ∀ a : Nat, a ≠ G.ad 0 q → H1[a]? = H[a]?) : KP G A s (cs.set q c) H1 (locs ++ [⟨G.ad 0 q, k⟩]) := by
  have hD := kD hG hA cs
  have hg : (kw G cs)[q]? = some (G.ad 0 q, kc G c0) := by rw [kw_get, hq]; rfl
  refine ⟨?_, h.2.1.put z o (hD.2 q _ hg), by rw [z, h.2.2, List.length_set]⟩
  rw [← kw_set]
  exact h.1.set hD hg hc o
set_option maxHeartbeats 400000 in
theorem KR.put {d : Nat} {M : MI} {pc idx q j ty : Nat} {w : KV} {v : AV} {fs : List KV} {L S : List AV} {cs : List KC} (hf : fet M.tab pc = some (.putfield idx, 3)) (h : fre (FA M.own) idx = some (M.own, j, ty)) (hq : cs[q]? = some (.inl (M.own, fs))) (hj : j < fs.length) (hw : kty (tyOf M.own j) v = some w) : KR d M (pc, L, v :: vR 0 q :: S, cs) (pc + 3, L, S, cs.set q (.inl (M.own, fs.set j w))) 0 0 := by
  intro G A p l e R s m args below meth c H locs cells slots ls Q hX hP hL hu hv k
  obtain ⟨hM, hx, hb, hml, hown, hts, hSK, hmn, hd, hA, hs0⟩ := hX
  have hG := hSK.2.2.1
  obtain ⟨⟨C, T, N⟩, hqc, hjN, hlk, hdc⟩ := KA_use h
  obtain ⟨n1, n2, n3⟩ := kty_ok G hw
  have ho : M.own < 12 := (List.getElem?_eq_some_iff.mp hqc).1
  obtain ⟨wi, wt, wn⟩ := cl_in hqc
  have hg : (kw G cs)[q]? = some (G.ad 0 q, .inr (M.own, fs.map (kv G))) := by rw [kw_get, hq]; rfl
  have hap := va_apart (own := cn M.own) hts wi (tyOf M.own) wt wn hSK.1 hqc
  obtain ⟨r, h1, cell, q1, q2, q3, q4⟩ := hP.1 q _ hg
  have hr : r = (C, T, N) := Option.some.inj (h1.symm.trans hqc)
  subst hr
  obtain ⟨hSl, hfc, kC, hkC, hkind⟩ := hSK.1.1 M.own _ hqc
  obtain ⟨cf, kf, fi, f, hi, hsl⟩ := hSl j hjN
  have hlay := hts _ (wi _ (u_in_lay hjN))
  have hst := (u_facts hfc hkC (u_lays hts wi hjN) hi).1
  have hslot : f.slot < cell.slots.size := by rw [hsl]; exact k2_hasslot (q4 j hjN)
  have fin : ∀ (H1 : Heap), H1[G.ad 0 q]? = some (cell.setSlot f.slot (cv G v)) → H1.size = H.size → (∀ a : Nat, a ≠ G.ad 0 q → H1[a]? = H[a]?) → W p l e R s m args below meth c H1 (locs ++ [⟨G.ad 0 q, f.slot⟩]) cells slots Q (F0 m (pc + 3) ls (S.map (cv G))) := fun H1 e1 e2 e3 => by
    refine k H1 _ ls (hP.set hG hA hq ?_ e2 e3) hL
    rw [hsl] at e1
    have ek : kc G (.inl (M.own, fs.set j w)) = .inr (M.own, (fs.map (kv G)).set j (cv G v)) := by
      show Sum.inr (M.own, (fs.set j w).map (kv G)) = _
      rw [List.map_set, n3]
    rw [ek]
    exact ⟨_, hqc, t_OB.to (V := updV (vp_V (fs.map (kv G))) j (cv G v)) ⟨_, e1, q2, q3, t_set q4 hap hjN (cv G v)⟩ (fun i _ => vp_updV_set (by rw [List.length_map]; exact hj) (cv G v) i)⟩
  unfold u_lay at hlay
  by_cases hfin : (T j).2.2.2 = true
  · rw [if_pos hfin] at hlay
    have hcf : m.cls = cf := by
      obtain ⟨_, _, c', _, _, _, -, -, hf', -, -, -, hown2, -⟩ := Cond.laysFinal_spec hlay
      have e1 : c' = cf := by have := hi.symm.trans hf'; simp at this; exact this.1.symm
      have hdc : (T j).1 = cn M.own := hdc
      rw [hdc] at hown2
      rw [← e1]; exact Option.some.inj (hown.symm.trans hown2)
    exact W.putFinK hx hb hown (hts _ hlk) hi hst hcf (hmn ho) (by rw [q2]; exact u_fits hfc hkC hkind (Or.inr hlay) hi (wt j hjN) n1 n2) q1 q3 hslot rfl rfl (hM.dec hf) fin
  · rw [if_neg hfin] at hlay
    exact W.putK hx hb (f := f) ⟨hown, hts _ hlk, ⟨_, _, _, hi⟩, hst⟩ (by rw [q2]; exact u_store hfc hkC hkind hlay hi (wt j hjN) n1 n2) q1 q3 hslot rfl rfl (hM.dec hf) fin
set_option maxHeartbeats 400000 in
theorem KR.iast {d : Nat} {M : MI} {pc q n : Nat} {us : List (Nat × Int32)} {rs : List (Nat × Nat)} {x j : Int32} {L S : List AV} {cs : List KC} (hf : fet M.tab pc = some (.iastore, 1)) (hq : cs[q]? = some (.inr (0, n, us, rs))) (hj : vp_in j n) : KR d M (pc, L, vI x :: vI j :: vR 0 q :: S, cs) (pc + 1, L, S, cs.set q (.inr (0, n, (j.toNatClampNeg, x) :: us, rs))) 0 0 := by
  intro G A p l e R s m args below meth c H locs cells slots ls Q hX hP hL hu hv k
  obtain ⟨hM, hx, hb, hml, hown, hts, hSK, hmn, hd, hA, hs0⟩ := hX
  have hG := hSK.2.2.1
  have hg : (kw G cs)[q]? = some (G.ad 0 q, .inl (G.ca 0, n, .inl (lkI us))) := by rw [kw_get, hq]; rfl
  have ha : H[G.ad 0 q]? = some (vp_cell (G.ca 0) (n, .inl (lkI us))) := hP.1 q _ hg
  refine W.iast hx hb ha ((hSK.1.2 0 _ rfl).1 n (fun j => .int (lkI us j))) (fun q => by cases q) (by show ¬ (j < 0 ∨ (arrV _ _ _).slots.size ≤ _); rw [arrV_size]; exact hj) rfl rfl (hM.dec hf) (fun H1 e1 z o => ?_)
  refine k H1 _ ls (hP.set hG hA hq ?_ z o) hL
  show H1[G.ad 0 q]? = some (vp_cell (G.ca 0) (n, .inl (lkI ((j.toNatClampNeg, x) :: us))))
  rw [e1, vp_cell_i, vp_cell_i, arrV_store]
  congr 2
  funext i
  by_cases hi : i = j.toNatClampNeg
  · subst hi
    simp [updV, lkI]
  · simp [updV, lkI, hi]
def kta2 (t ci : Nat) : Bool := match t, ci with
  | 3, 8 => true
  | 4, 4 => true
  | 5, 9 => true
  | _, _ => false
set_option maxHeartbeats 400000 in
theorem KR.aast {d : Nat} {M : MI} {pc q r n t ci : Nat} {us : List (Nat × Int32)} {rs : List (Nat × Nat)} {fs : List KV} {j : Int32} {L S : List AV} {cs : List KC} (hf : fet M.tab pc = some (.aastore, 1)) (hq : cs[q]? = some (.inr (t, n, us, rs))) (hr : cs[r]? = some (.inl (ci, fs))) (ht : kta2 t ci = true) (hj : vp_in j n) : KR d M (pc, L, vR 0 r :: vI j :: vR 0 q :: S, cs) (pc + 1, L, S, cs.set q (.inr (t, n, us, (j.toNatClampNeg, r) :: rs))) 0 0 := by
  intro G A p l e R s m args below meth c H locs cells slots ls Q hX hP hL hu hv k
  obtain ⟨hM, hx, hb, hml, hown, hts, hSK, hmn, hd, hA, hs0⟩ := hX
  have hG := hSK.2.2.1
  have hlt : j.toNatClampNeg < n := Nat.not_le.mp fun q => hj (Or.inr q)
  have h0 : ¬ j < 0 := fun q => hj (Or.inl q)
  have key : ∀ (t : Nat) (qc : vw_C), classes[ci]? = some qc → (tys G)[t + 3]? = some (G.ca (t + 3), .object qc.1) → cs[q]? = some (.inr (t + 3, n, us, rs)) → (∀ (H' : Heap) (locs' : List Loc) (ls' : Array Slot), KP G A s (cs.set q (.inr (t + 3, n, us, (j.toNatClampNeg, r) :: rs))) H' locs' → LH G ls' M.maxL L → W p l e R s m args below meth c H' locs' (cells + 0) (slots + 0) Q (F0 m (pc + 1) ls' (S.map (cv G)))) → W p l e R s m args below meth c H locs cells slots Q (F0 m pc ls ((vR 0 r :: vI j :: vR 0 q :: S).map (cv G))) := by
    intro t qc hqc hty hq k
    have hg : (kw G cs)[q]? = some (G.ad 0 q, .inl (G.ca (t + 3), n, .inr (.inr (.inr (.inr (lkR G rs)))))) := by rw [kw_get, hq]; rfl
    have hg2 : (kw G cs)[r]? = some (G.ad 0 r, .inr (ci, fs.map (kv G))) := by rw [kw_get, hr]; rfl
    have ha : H[G.ad 0 q]? = some (vp_cell (G.ca (t + 3)) (n, .inr (.inr (.inr (.inr (lkR G rs)))))) := hP.1 q _ hg
    obtain ⟨r', hr', cellV, g1, g2, g3, -⟩ := hP.1 r _ hg2
    have hcls := (hSK.1.1 ci qc hqc).2
    obtain ⟨kA, comp, k1, k2, k3, -⟩ := (hSK.1.2 (t + 3) _ hty).2
    have hcomp : comp = G.D.1 ci := Option.some.inj (k3.symm.trans hcls.1)
    subst hcomp
    obtain ⟨kC, hkC, -⟩ := hcls.2
    refine W.aast hx hb ha (fun q h => by cases h) (fun h => by cases h) k1 k2 rfl hkC ⟨h0, by show _ < (arrV _ _ _).slots.size; rw [arrV_size]; exact hlt⟩ g1 (fun q h => by rw [g3] at h; cases h) (by rw [g2]; exact hkC) (by rw [g2]; exact va_assign hcls) rfl rfl (hM.dec hf) (fun H1 e1 z o => ?_)
    refine k H1 _ ls (hP.set hG hA hq ?_ z o) hL
    show H1[G.ad 0 q]? = some (vp_cell (G.ca (t + 3)) (n, .inr (.inr (.inr (.inr (lkR G ((j.toNatClampNeg, r) :: rs)))))))
    rw [e1, vp_cell_q, vp_cell_q, arrV_store]
    congr 2
    funext i
    by_cases hi : i = j.toNatClampNeg
    · subst hi
      simp [updV, lkR, va_rf]
    · simp [updV, lkR, hi]
  unfold kta2 at ht
  split at ht
  · exact key 0 _ rfl rfl hq k
  · exact key 1 _ rfl rfl hq k
  · exact key 2 _ rfl rfl hq k
  · cases ht
set_option maxHeartbeats 400000 in
theorem KR.get {d : Nat} {M : MI} {pc idx q j ty r : Nat} {fs : List KV} {L S : List AV} {cs : List KC} (hf : fet M.tab pc = some (.getfield idx, 3)) (h : fre (FA M.own) idx = some (M.own, j, ty)) (hq : cs[q]? = some (.inl (M.own, fs))) (hj : fs[j]? = some (.inr (.inl r))) : KR d M (pc, L, vR 0 q :: S, cs) (pc + 3, L, vR 0 r :: S, cs) 0 0 := by
  intro G A p l e R s m args below meth c H locs cells slots ls Q hX hP hL hu hv k
  obtain ⟨hM, hx, hb, hml, hown, hts, hSK, hmn, hd, hA, hs0⟩ := hX
  obtain ⟨⟨C, T, N⟩, hqc, hjN, hlk, hdc⟩ := KA_use h
  have hg : (kw G cs)[q]? = some (G.ad 0 q, .inr (M.own, fs.map (kv G))) := by rw [kw_get, hq]; rfl
  exact va_get hx hb hts (cl_in hqc).1 hown hSK.1 hP.1 q hg hqc j hjN (hts _ hlk) (fun _ h9 => h9) (v := .ref (G.ad 0 r)) (by rw [List.getElem?_map, hj]; rfl) (hM.dec hf) (k H locs ls hP hL)
