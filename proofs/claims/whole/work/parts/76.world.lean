/-! from the cells as they were made to the world of the loop; its invariant -/
theorem arrV_cg {c : ClassId} {n : Nat} {f g : Nat → Value} (h : ∀ j, j < n → f j = g j) : arrV c n f = arrV c n g := by
  unfold arrV
  have : (fun j : Fin n => f j.val) = fun j : Fin n => g j.val := funext (fun j => h j.val j.isLt)
  rw [this]
theorem ck_85 {p : Nat × Nat} (h : ckP p = true) : p.1 < 85 := by
  unfold ckP at h
  rw [Bool.and_eq_true] at h
  exact of_decide_eq_true h.1
theorem ck_at {G1 G2 : GX} {al xs : Nat → Int32} {n : Int32} {H : Heap} (hD : G2.D = G1.D) (hca : G2.ca = G1.ca) (had : ∀ k i, k < 85 → G2.ad k i = G1.ad 0 (PS k i)) {k i : Nat} (h : ckP (k, i) = true) (hP : va_P G1.D classes (kw G1 KF) H) : va_at G2.D classes (G2.ad k i, cel G2 (m0 al xs n) k i) H := by
  have hk : k < 85 := ck_85 h
  unfold ckP at h
  rw [Bool.and_eq_true] at h
  have h := h.2
  dsimp only at h
  rw [hD, had k i hk]
  have hg := fun c (hc : KF[PS k i]? = some c) => hP (PS k i) (G1.ad 0 (PS k i), kc G1 c) (by rw [kw_get, hc]; rfl)
  split at h
  · next a c fs c' vs hl hc =>
    simp only [Bool.and_eq_true, decide_eq_true_eq, List.all_eq_true, List.mem_range] at h
    obtain ⟨⟨rfl, hlen⟩, hj⟩ := h
    rw [cel_obj hl]
    have e : fvs G2 (m0 al xs n) k i 0 fs = vs.map (kv G1) := by
      refine List.ext_getElem? (fun j => ?_)
      rw [fvs_get, List.getElem?_map]
      by_cases hl2 : j < fs.length
      · have q := hj j hl2
        unfold ckO at q
        split at q
        · next k2 r h1 h2 =>
          obtain ⟨q1, q2⟩ := of_decide_eq_true q
          rw [h1, h2]
          show some (Value.ref (G2.ad k2 i)) = some (Value.ref (G1.ad 0 r))
          rw [had k2 i q2, q1]
        · next x h1 h2 =>
          rw [h1, h2]
          show some (Value.int (gI (m0 al xs n) k i (0 + j))) = some (Value.int x)
          rw [Nat.zero_add, m0_z hk]
          unfold z0
          rw [hc]
          show some (Value.int (match vs[j]? with | some (.inl x) => x | _ => 0)) = _
          rw [h2]
        · cases q
      · rw [List.getElem?_eq_none (by omega), List.getElem?_eq_none (by omega)]; rfl
    rw [e]
    exact hg _ hc
  · next a m b n' us rs hl hc =>
    have h := of_decide_eq_true h
    subst h
    have e : cel G2 (m0 al xs n) k i = kc G1 (.inr (0, m, us, rs)) := by
      unfold cel
      rw [hl]
      show Sum.inl (G2.ca 0, m, Sum.inl (gI (m0 al xs n) k i)) = Sum.inl (G1.ca 0, m, Sum.inl (lkI us))
      rw [hca, show gI (m0 al xs n) k i = lkI us from funext (fun j => by rw [m0_z hk]; unfold z0; rw [hc]; rfl)]
    rw [e]
    exact hg _ hc
  · next a m b n' us rs hl hc =>
    have h := of_decide_eq_true h
    subst h
    have e : cel G2 (m0 al xs n) k i = kc G1 (.inr (1, m, us, rs)) := by
      unfold cel
      rw [hl]
      show Sum.inl (G2.ca 1, m, Sum.inl (gI (m0 al xs n) k i)) = Sum.inl (G1.ca 1, m, Sum.inl (lkI us))
      rw [hca, show gI (m0 al xs n) k i = lkI us from funext (fun j => by rw [m0_z hk]; unfold z0; rw [hc]; rfl)]
    rw [e]
    exact hg _ hc
  · next a m b n' us rs hl hc =>
    have h := of_decide_eq_true h
    subst h
    have e : cel G2 (m0 al xs n) k i = kc G1 (.inr (2, m, us, rs)) := by
      unfold cel
      rw [hl]
      show Sum.inl (G2.ca 2, m, Sum.inr (Sum.inl (gJ (m0 al xs n) k i))) = Sum.inl (G1.ca 2, m, Sum.inr (Sum.inl (fun _ => 0)))
      rw [hca]; rfl
    rw [e]
    exact hg _ hc
  · next a t m k2 t' n' us rs hl hc =>
    simp only [Bool.and_eq_true, decide_eq_true_eq, List.all_eq_true, List.mem_range] at h
    obtain ⟨⟨rfl, rfl, hk2⟩, hj⟩ := h
    have q := hg _ hc
    have q : H[G1.ad 0 (PS k i)]? = some (arrV (G1.ca (t + 3)) m (fun j => va_rf (lkR G1 rs j))) := q
    have e : cel G2 (m0 al xs n) k i = .inl (G2.ca (t + 3), m, .inr (.inr (.inr (.inr (fun j => some (G2.ad k2 j)))))) := by
      unfold cel
      rw [hl]
    rw [e]
    show H[G1.ad 0 (PS k i)]? = some (arrV (G2.ca (t + 3)) m (fun j => va_rf (some (G2.ad k2 j))))
    rw [q, hca]
    refine congrArg some (arrV_cg (fun j hjm => ?_))
    rw [lkR_N, hj j hjm, had k2 j hk2]
    rfl
  · cases h
theorem made_P {G1 G2 : GX} {al xs : Nat → Int32} {n : Int32} {H : Heap} (hD : G2.D = G1.D) (hca : G2.ca = G1.ca) (had : ∀ k i, k < 85 → G2.ad k i = G1.ad 0 (PS k i)) (hP : va_P G1.D classes (kw G1 KF) H) : va_P G2.D classes (wsW G2 (m0 al xs n)) H := by
  intro k q hk
  unfold wsW at hk
  rw [List.getElem?_map] at hk
  cases hp : PR[k]? with
  | none => rw [hp] at hk; cases hk
  | some p =>
    rw [hp] at hk
    cases hk
    exact ck_at hD hca had (List.all_eq_true.mp ck_all p (List.mem_of_getElem? hp)) hP
theorem made_D {G : GX} {b0 : Nat} {A : Nat → Prop} (hA : ∀ q, A q ↔ b0 ≤ q) (had : ∀ k i, k < 85 → G.ad k i = b0 + PS k i) (σ : Mem) : va_D A (wsW G σ) := by
  have get : ∀ (i : Nat) (q : Nat × va_E), (wsW G σ)[i]? = some q → ∃ p, PR[i]? = some p ∧ q.1 = b0 + PS p.1 p.2 := fun i q hq => by
    unfold wsW at hq
    rw [List.getElem?_map] at hq
    cases hp : PR[i]? with
    | none => rw [hp] at hq; cases hq
    | some p =>
      rw [hp] at hq
      cases hq
      exact ⟨p, rfl, had p.1 p.2 (ck_85 (List.all_eq_true.mp ck_all p (List.mem_of_getElem? hp)))⟩
  refine ⟨fun i j p q h1 h2 h3 => ?_, fun i q hq => ?_⟩
  · obtain ⟨p1, g1, g2⟩ := get i p h1
    obtain ⟨p2, g3, g4⟩ := get j q h2
    have e : PS p1.1 p1.2 = PS p2.1 p2.2 := by omega
    refine (List.getElem?_inj (l := PR.map (fun p => PS p.1 p.2)) ?_ ps_nd).mp ?_
    · rw [List.length_map]; exact (List.getElem?_eq_some_iff.mp g1).1
    · rw [List.getElem?_map, List.getElem?_map, g1, g3]
      show some (PS p1.1 p1.2) = some (PS p2.1 p2.2)
      rw [e]
  · obtain ⟨p1, g1, g2⟩ := get i q hq
    rw [hA]; omega
theorem made_W : (∀ w, w < 12 → ∀ f, f < 8 → z0 2 w f = 0) ∧ (∀ w, w < 12 → z0 52 0 w = 0 ∧ z0 53 0 w = 0 ∧ z0 54 0 w = 0 ∧ z0 55 0 w = 0 ∧ z0 58 0 w = 0) := by decide +kernel
theorem made_G : z0 0 0 8 = 10 ∧ z0 51 0 9 = 10 := by decide +kernel
theorem made_K : z0 16 0 0 = nI 12 ∧ z0 16 0 1 = nI 1 ∧ z0 19 0 12 = 0 ∧ z0 15 0 1 = 0 ∧ z0 51 0 11 = 0 ∧ z0 51 0 10 = 0 := by decide +kernel
theorem made_T : z0 22 0 1 = 0 ∧ z0 51 0 15 = 0 ∧ z0 45 0 5 = 0 ∧ z0 51 0 35 = 0 := by decide +kernel
theorem made_C : ∀ k, k < 10 → z0 31 k 1 = 0 ∧ z0 26 0 k = 0 ∧ z0 64 0 k = 0 := by decide +kernel
theorem made_N : ∀ n, n < 8 → z0 7 n 4 = 0 ∧ z0 67 0 n = 0 ∧ z0 44 0 n = z0 80 0 n ∧ z0 36 0 n = 0 := by decide +kernel
theorem made_S : z0 34 0 0 = nI 8 ∧ z0 34 0 1 = nI 4 ∧ z0 37 0 8 = 0 := by decide +kernel
theorem made_A : (∀ a, a < 8 → z0 46 0 a = 0 ∧ ∀ b, b < 8 → z0 81 0 (8 * a + b) = 0) ∧ (∀ a, a < 5 → z0 47 0 a = 0 ∧ ∀ b, b < 5 → z0 82 0 (5 * a + b) = 0) := by decide +kernel
theorem made_inv {xs : Nat → Int32} {n : Int32} : Inv (m0 (z0 62 0) xs n) := by
  have e : ∀ k i j, k < 85 → gI (m0 (z0 62 0) xs n) k i j = z0 k i j := fun k i j hk => m0_z hk i j
  refine ⟨fun w hw => ?_, ?_, ?_, ?_, fun k hk => ?_, fun m hm => Or.inl ?_, ?_, ?_, ?_, fun j hj => ?_⟩
  · have q := made_W.1 w hw
    have r := made_W.2 w hw
    refine ⟨0, 0, ⟨by rw [e 2 w 3 (by omega)]; exact q 3 (by omega), by rw [e 2 w 4 (by omega)]; exact q 4 (by omega), by omega, by omega, fun i hi => by omega, fun i hi => by omega⟩, ⟨by rw [e 55 0 w (by omega)]; exact r.2.2.2.1, by rw [e 58 0 w (by omega)]; exact r.2.2.2.2, by omega, by omega, fun i hi => by omega, fun i hi => by omega⟩, fun i hi => by omega, fun i hi => by omega, ?_, ?_, ?_, ?_, fun hi => by omega⟩
    · rw [e 2 w 5 (by omega), e 53 0 w (by omega), q 5 (by omega), r.2.1]
    · rw [e 2 w 5 (by omega), q 5 (by omega)]; decide
    · rw [e 2 w 6 (by omega), e 54 0 w (by omega), q 6 (by omega), r.2.2.1]
    · rw [e 2 w 7 (by omega), e 52 0 w (by omega), q 7 (by omega), r.1]
  · unfold InvG
    rw [e 0 0 8 (by omega), e 51 0 9 (by omega), made_G.1, made_G.2]; decide
  · obtain ⟨k1, k2, k3, k4, k5, k6⟩ := made_K
    unfold InvK ChInv16
    rw [e 16 0 0 (by omega), e 16 0 1 (by omega), e 19 0 12 (by omega), e 15 0 1 (by omega), e 51 0 11 (by omega), e 51 0 10 (by omega), k1, k2, k3, k4, k5, k6]
    refine ⟨by first | exact ⟨rfl, rfl, rfl⟩ | exact ⟨rfl, rfl⟩ | decide, rfl, fun w hw => ⟨fun z => absurd rfl z.1, fun z => ?_⟩⟩
    rw [bI_0] at z; cases z
  · exact InvT.zero (by rw [e 22 0 1 (by omega)]; exact made_T.1) (by rw [e 51 0 15 (by omega)]; exact made_T.2.1)
  · have q := made_C k hk
    exact ⟨0, by rw [e 31 k 1 (by omega)]; exact q.1, by omega, Or.inr ⟨by rw [e 26 0 k (by omega)]; exact q.2.1, by rw [e 64 0 k (by omega)]; exact q.2.2⟩⟩
  · have q := made_N m hm
    exact ⟨by rw [e 7 m 4 (by omega)]; exact q.1, by rw [e 67 0 m (by omega)]; exact q.2.1⟩
  · obtain ⟨k1, k2, k3⟩ := made_S
    refine ⟨⟨by rw [e 34 0 0 (by omega)]; exact k1, by rw [e 34 0 1 (by omega)]; exact k2, by rw [e 37 0 8 (by omega)]; exact k3, fun i hi => ⟨0, by omega, by rw [e 36 0 i (by omega)]; exact (made_N i hi).2.2.2⟩⟩, fun i hi => ?_⟩
    rw [e 44 0 i (by omega), e 80 0 i (by omega)]; exact (made_N i hi).2.2.1
  · obtain ⟨k1, k2⟩ := made_A
    have tA : ∀ a b, a < 8 → ¬ TA (m0 (z0 62 0) xs n) a b := fun a b ha z => by
      unfold TA at z
      rw [e 46 0 a (by omega), (k1 a ha).1, bI_0] at z; cases z
    have uA : ∀ a b, a < 5 → ¬ UA (m0 (z0 62 0) xs n) a b := fun a b ha z => by
      unfold UA at z
      rw [e 47 0 a (by omega), (k2 a ha).1, bI_0] at z; cases z
    refine ⟨fun a b ha hb => ⟨fun z => absurd z (tA a b ha), fun z => absurd ?_ z⟩, fun a b ha hb => ⟨fun z => absurd z (tA a b ha), fun z => absurd z (tA b a hb)⟩, fun a b ha hb => ⟨fun z => absurd z (uA a b ha), fun z => absurd ?_ z⟩, fun a b ha hb => ⟨fun z => absurd z (uA a b ha), fun z => absurd z (uA b a hb)⟩, fun a ha => uA a a ha⟩
    · rw [e 81 0 _ (by omega)]; exact (k1 a ha).2 b hb
    · rw [e 82 0 _ (by omega)]; exact (k2 a ha).2 b hb
  · exact ⟨0, by omega, by rw [e 45 0 5 (by omega)]; exact made_T.2.2.1, by rw [e 51 0 35 (by omega)]; exact made_T.2.2.2, fun a ha => by omega⟩
  · rw [e 62 0 j (by omega)]; rfl
