/-! the run of the machine that makes cells -/
def krun : Nat → Nat → MI → Nat → KSt → Option (KSt × Nat × Nat)
  | 0, _, _, _, _ => none
  | f + 1, d, M, stop, a => match a.1 == stop, fet M.tab a.1 with
    | true, _ => some (a, 0, 0)
    | false, none => none
    | false, some (.return_, _) => some (a, 0, 0)
    | false, some (.invokespecial idx, n) => match d, n == 3, kob M.own idx, a with
      | d + 1, true, true, (pc, L, .inr (.inr (.inl (0, _))) :: rest, cs) => match decide ((rest.map avc).sum ≤ 8) with
        | true => krun f (d + 1) M stop (pc + 3, L, rest, cs)
        | false => none
      | d + 1, true, false, (pc, L, S, cs) => match kme M.own idx with
        | some ci => match S.drop (ka ci) with
          | .inr (.inr (.inl (0, q))) :: rest => match decide ((S.take (ka ci)).length = ka ci ∧ (rest.map avc).sum ≤ 8 ∧ (ent (KM ci).maxL (vR 0 q :: (S.take (ka ci)).reverse)).length = (KM ci).maxL), krun f d (KM ci) 99999 (0, ent (KM ci).maxL (vR 0 q :: (S.take (ka ci)).reverse), [], cs) with
            | true, some ((pc2, _, [], cs2), u, v) => match fet (KM ci).tab pc2, krun f (d + 1) M stop (pc + 3, L, rest, cs2) with
              | some (.return_, 1), some (b, u2, v2) => some (b, u + u2, v + v2)
              | _, _ => none
            | _, _ => none
          | _ => none
        | none => none
      | _, _, _, _ => none
    | false, some (i, n) => match n == klen i, kst M i a with
      | true, some (a2, u, v) => match krun f d M stop a2 with
        | some (b, u2, v2) => some (b, u + u2, v + v2)
        | none => none
      | _, _ => none
set_option maxHeartbeats 1000000 in
theorem krun_ok : ∀ (f d : Nat) (M : MI) (stop : Nat) (a b : KSt) (u v : Nat), krun f d M stop a = some (b, u, v) → KR d M a b u v := by
  intro f
  induction f with
  | zero => intro d M stop a b u v h; cases h
  | succ f ih =>
    intro d M stop a b u v h
    unfold krun at h
    split at h
    · cases h; exact KR.rf
    · cases h
    · cases h; exact KR.rf
    · next idx n _ hf =>
      split at h
      · next d' pc L r rest cs hn ho _ =>
        split at h
        · next hw =>
          have hn : n = 3 := by simpa using hn
          subst hn
          have := KR.tr (KR.obj (q := r) (L := L) (cs := cs) hf ho (of_decide_eq_true hw)) (ih _ _ _ _ _ _ _ h)
          rw [Nat.zero_add, Nat.zero_add] at this
          exact this
        · cases h
      · next d' pc L S cs hn ho _ =>
        have hn : n = 3 := by simpa using hn
        subst hn
        split at h
        · next ci hk =>
          split at h
          · next q rest hd =>
            split at h
            · next pc2 L2 cs2 u1 v1 hc h1 =>
              split at h
              · next b2 u2 v2 hr h2 =>
                cases h
                obtain ⟨c1, c2, c3⟩ := of_decide_eq_true hc
                have e : S = (S.take (ka ci)).reverse.reverse ++ vR 0 q :: rest := by
                  rw [List.reverse_reverse, ← hd, List.take_append_drop]
                have k1 := KR.call (L := L) hf hk (as := (S.take (ka ci)).reverse) (by rw [List.length_reverse]; exact c1) c2 c3 hr (ih _ _ _ _ _ _ _ h1)
                rw [← e] at k1
                exact KR.tr k1 (ih _ _ _ _ _ _ _ h2)
              · cases h
            · cases h
          · cases h
        · cases h
      · cases h
    · next i n _ _ _ hf =>
      split at h
      · next a2 u1 v1 hn hs =>
        split at h
        · next b2 u2 v2 h2 =>
          cases h
          have hn : n = klen i := by simpa using hn
          subst hn
          exact KR.tr (kst_ok hf hs) (ih _ _ _ _ _ _ _ h2)
        · cases h
      · cases h
def kL0 : KSt := (0, [vR 86 0, vU, vU, vU], [], [])
