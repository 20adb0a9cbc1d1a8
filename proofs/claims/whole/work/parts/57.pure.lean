/-! PURE 18: on, well -/
theorem setT_setT {s : Nat → Int32} {o : Nat} {t t' : Tr} : setT (setT s o t) o t' = setT s o t' := by
  funext k
  by_cases h : o ≤ k ∧ k < o + 3
  · have e : ∀ s' : Nat → Int32, setT s' o t' k = if k = o + 2 then t'.2.2 else if k = o + 1 then t'.2.1 else t'.1 := fun s' => by
      have g := getT_set (s := s') (o := o) (t := t')
      unfold getT at g
      rcases (show k = o ∨ k = o + 1 ∨ k = o + 2 by omega) with rfl | rfl | rfl
      · rw [if_neg (by omega), if_neg (by omega)]
        exact congrArg (fun z => z.1) g
      · rw [if_neg (by omega), if_pos rfl]
        exact congrArg (fun z => z.2.1) g
      · rw [if_pos rfl]
        exact congrArg (fun z => z.2.2) g
    rw [e, e]
  · rw [setT_ne (by omega), setT_ne (by omega), setT_ne (by omega)]
theorem pilsS_hi {h : Int32 → Bool} {tr pw : Int32} : ∀ (j q : Nat) (s : Nat → Int32) (k : Nat), 37 + 3 * (q + j) ≤ k → pilsS h tr pw q j s k = s k := by
  intro j
  induction j with
  | zero => intro q s k _; rfl
  | succ j ih =>
    intro q s k hk
    rw [pilsS, ih (q + 1) _ k (by omega), setT_ne (by omega)]
theorem day_hi {s : Nat → Int32} {m p w : Nat} (h : GdW s m p w) {k : Nat} (hk : 61 ≤ k) : dayS s k = s k := by
  unfold dayS
  rw [endS_hi (by omega), h.2.2.1, nI_clamp (by have := h.2.2.2.1; omega), pilsS_hi _ _ _ _ (by have := h.2.2.2.1; omega)]
theorem it_hi {m p w : Nat} : ∀ (n : Nat) (s : Nat → Int32), GdW s m p w → ∀ k, 61 ≤ k → itS n s k = s k
  | 0, _, _, _, _ => rfl
  | n + 1, s, h, k, hk => by rw [itS, it_hi n (dayS s) h.day k hk, day_hi h hk]
theorem p_back {u : Uw} {s' : Nat → Int32} (h : ∀ k, 61 ≤ k → s' k = u.1 20 k) (x : Int32) : f_X6_takesBack x (sR (sR u 23 (cpF (u.1 23) (u.1 20) 0 61)) 20 s') = some (x, sR u 23 (cpF (u.1 23) (u.1 20) 0 61)) := by
  rw [p_takesBack, sR_same, sR_ne (show 23 ≠ 20 by decide), sR_same, sR_sR]
  have e : cpF s' (cpF (u.1 23) (u.1 20) 0 61) 0 61 = (sR u 23 (cpF (u.1 23) (u.1 20) 0 61)).1 20 := by
    rw [sR_ne (by decide)]
    funext k
    by_cases hk : k < 61
    · rw [cpF_in hk, cpF_in hk]
    · rw [cpF_out (by omega), h k (by omega)]
  rw [e, sR_self]
theorem p_X1_copy {e e' r r' o o' : Nat} (h : PilAt e r o) (h' : PilAt e' r' o') (hne : r' ≠ r) (u : Uw) : f_X1_become e e' u = some ((), sR u r (setT (u.1 r) o (getT (u.1 r') o'))) := by
  obtain ⟨h1, h2, h3⟩ := h
  obtain ⟨g1, g2, g3⟩ := h'
  unfold f_X1_become
  rw [ck_pos g1, ck_pos h1, h2, h3, g2, g3, nm_eq, nm_eq, nm_eq]
  simp only [w1_sR, sR_sR, sR_same, sR_ne hne, Nat.add_zero]
  rfl
theorem l_try {m n d : Nat} {s : Nat → Int32} {tr pw : Int32} (hn : n ≤ 400) (hm6 : m ≤ 6) (hm : s 0 = nI m) : ∀ (j i f : Nat) (u : Uw), (∀ k, k < n → u.1 4 k = hset s (nI (d + k))) → i + j = n → j < f → lp b_X5_tryDays_11 f (nI n, tr, pw, nI i, u) = some ((), sR u 5 (setT (u.1 5) 0 (trF (HF s d) tr pw i j (getT (u.1 5) 0)))) := by
  intro j
  induction j with
  | zero =>
    intro i f u h h1 h3
    obtain ⟨f, rfl⟩ : ∃ k, f = k + 1 := ⟨f - 1, by omega⟩
    rw [lp_s]
    generalize lp b_X5_tryDays_11 f = g
    unfold b_X5_tryDays_11
    dsimp only
    rw [if_pos (nI_le (by omega) (by omega)), trF, setT_get, sR_self]
  | succ j ih =>
    intro i f u h h1 h3
    obtain ⟨f, rfl⟩ : ∃ k, f = k + 1 := ⟨f - 1, by omega⟩
    have ih2 := ih (i + 1) f (sR u 5 (setT (u.1 5) 0 (passT (getT (u.1 5) 0) (HF s d i) tr pw))) (fun k hk => by rw [sR_ne (by decide)]; exact h k hk) (by omega) (by omega)
    rw [lp_s]
    generalize lp b_X5_tryDays_11 f = g at ih2 ⊢
    unfold b_X5_tryDays_11
    dsimp only
    rw [if_neg (nI_ge (by omega) (by omega)), if_neg (show ¬ (400 : Int32) ≤ nI i from nI_ge (b := 400) (by omega) (by decide))]
    by_cases h0 : u.1 5 0 ≤ 0
    · rw [if_pos h0, trF_0 (j + 1) i _ h0, setT_get, sR_self]
    · have eH : isInB (hset s (nI (d + i))) = HF s d i := funext fun x => isIn_hset hm hm6 x _
      rw [if_neg h0, ck_pos (inb_nI (by omega) (by decide)), nm_eq, nI_clamp (by omega), h i (by omega), p_passDay pil_83, bd_eq, eH, nI_1, ih2, sR_same, sR_sR, getT_set, setT_setT, trF]
theorem st_on (a1 a2 a3 : Int32) : StepT Rel (fun u => f_X5_on a1 a2 a3 u) (fun u => f_X6_on a1 a2 a3 u) := by
  intro u hu
  obtain ⟨e0, ⟨m, p, w, d, t, hG, h2, hd, h4, ht⟩, -⟩ := id hu
  obtain ⟨hm, hm6, hp, hp8, -⟩ := id hG
  have hm0 : u.1 0 0 = nI m := by rw [e0]; exact hm
  have h20 : u.1 0 2 = nI d := by rw [e0]; exact h2
  have hp0 : u.1 0 1 = nI p := by rw [e0]; exact hp
  have out : (a1 < 0 ∨ nI p ≤ a1) → ∃ r u1 u2, f_X5_on a1 a2 a3 u = some (r, u1) ∧ f_X6_on a1 a2 a3 u1 = some (r, u2) ∧ Rel u2 := fun h => by
    refine fin_fd (f := fun u => f_X5_on a1 a2 a3 u) (g := fun u => f_X6_on a1 a2 a3 u) hu (k := 0) (by decide) (x := -1000000001) ?_ (fun u' e => ?_)
    · show f_X5_on a1 a2 a3 u = _
      unfold f_X5_on
      rw [q_pilAt_out hp0 h, bd_eq, ro_none, c0, bd_eq]
    · show f_X6_on a1 a2 a3 u' = _
      unfold f_X6_on
      rw [p_isPil_out (u := u') (by rw [e]; exact hp) hp8 h, bd_eq, if_neg (by decide), m0, bd_eq]
  rcases pk_ix a1 (n := p) (by omega) with h | h | ⟨q, hq, rfl⟩
  · exact out (Or.inl h)
  · exact out (Or.inr h)
  have hq8 : q < 8 := by omega
  have hpil := q_pil hq8
  by_cases hv : 0 ≤ a2 ∧ a2 ≤ 400
  · by_cases hw : 0 ≤ a3 ∧ a3 ≤ 1
    · obtain ⟨n, -, hn, rfl⟩ := nI_rng 0 400 (by decide) hv.1 hv.2 (by decide)
      refine fin_q hu (x := if a3 = 0 then (getT (itS n (u.1 20)) (37 + 3 * q)).1 else (getT (itS n (u.1 20)) (37 + 3 * q)).2.2) (u1 := sR (sR u 4 (cpF (u.1 4) (ahF (u.1 0) d) 0 n)) 5 (setT (u.1 5) 0 (getT (itS n (u.1 20)) (37 + 3 * q)))) ?_ ((Fr.sR (by decide)).tr (Fr.sR (by decide))) (fun u' e => ⟨sR u' 23 (cpF (u'.1 23) (u'.1 20) 0 61), ?_, Fr.sR (by decide)⟩)
      · show f_X5_on (nI q) (nI n) a3 u = _
        unfold f_X5_on
        rw [q_pilAt_in hp0 hp8 hq, bd_eq, ro_some, p_within, decide_eq_true hv, bd_eq, if_pos rfl, p_within, decide_eq_true hw, bd_eq, if_pos rfl, p_look hn hd hm6 hm0 h20, bd_eq]
        have ht : f_X5_tryDays (pp 0 q) (nI n) ((sR u 4 (cpF (u.1 4) (ahF (u.1 0) d) 0 n)).1 0 4) ((sR u 4 (cpF (u.1 4) (ahF (u.1 0) d) 0 n)).1 0 3) (sR u 4 (cpF (u.1 4) (ahF (u.1 0) d) 0 n)) = some ((), sR (sR u 4 (cpF (u.1 4) (ahF (u.1 0) d) 0 n)) 5 (setT (u.1 5) 0 (getT (itS n (u.1 20)) (37 + 3 * q)))) := by
          unfold f_X5_tryDays
          rw [p_X1_copy pil_83 hpil (by decide), bd_eq, sR_ne (show 0 ≠ 4 by decide), sR_ne (show 5 ≠ 4 by decide)]
          have h := l_try (d := d) (tr := u.1 0 4) (pw := u.1 0 3) hn hm6 hm n 0 2100 (sR (sR u 4 (cpF (u.1 4) (ahF (u.1 0) d) 0 n)) 5 (setT (u.1 5) 0 (getT (u.1 0) (37 + 3 * q)))) (fun k hk => by rw [sR_ne (by decide), sR_same, cpF_in hk, e0]; rfl) (by omega) (by omega)
          rw [sR_same, getT_set, setT_setT, sR_sR, e0, ← it_get hq n (u.1 20) d hG h2] at h
          rw [e0]
          exact h
        rw [ht, bd_eq, sR_same]
        have g := getT_set (s := u.1 5) (o := 0) (t := getT (itS n (u.1 20)) (37 + 3 * q))
        split
        · exact congrArg (fun z => some (z, _)) (congrArg (fun z => z.1) g)
        · exact congrArg (fun z => some (z, _)) (congrArg (fun z => z.2.2) g)
      · have hG' : GdW (u'.1 20) m p w := by rw [e]; exact hG
        have hb : ∀ x, f_X6_takesBack x (sR (sR u' 23 (cpF (u'.1 23) (u'.1 20) 0 61)) 20 (itS n (u'.1 20))) = some (x, sR u' 23 (cpF (u'.1 23) (u'.1 20) 0 61)) := fun x => p_back (it_hi n _ hG') x
        show f_X6_on (nI q) (nI n) a3 u' = _
        unfold f_X6_on
        rw [p_isPil_in (u := u') (by rw [e]; exact hp) hp8 hq, bd_eq, if_pos rfl, L0, L400, p_in, decide_eq_true hv, bd_eq, if_pos rfl, L1, p_in, decide_eq_true hw, bd_eq, if_pos rfl, p_laysAside, bd_eq, p_goesOn (m := m) (p := p) (w := w) (by omega) (by rw [sR_ne (by decide)]; exact hG'), bd_eq, sR_ne (show 20 ≠ 23 by decide), p_isOf hq8 (show 0 < 3 by decide) (x := (0 : Int32)) rfl, p_isOf hq8 (show 2 < 3 by decide) (x := (2 : Int32)) rfl, bd_eq, bd_eq, sR_same, hb, hb, bd_eq, bd_eq, e]
        split <;> rfl
    · refine fin_fd hu (k := 0) (by decide) (x := -1000000001) ?_ (fun u' e => ?_)
      · show f_X5_on (nI q) a2 a3 u = _
        unfold f_X5_on
        rw [q_pilAt_in hp0 hp8 hq, bd_eq, ro_some, p_within, decide_eq_true hv, bd_eq, if_pos rfl, p_within, decide_eq_false hw, bd_eq, if_neg (by decide), c0, bd_eq]
      · show f_X6_on (nI q) a2 a3 u' = _
        unfold f_X6_on
        rw [p_isPil_in (u := u') (by rw [e]; exact hp) hp8 hq, bd_eq, if_pos rfl, L0, L400, p_in, decide_eq_true hv, bd_eq, if_pos rfl, L1, p_in, decide_eq_false hw, bd_eq, if_neg (by decide), m0, bd_eq]
  · refine fin_fd hu (k := 0) (by decide) (x := -1000000001) ?_ (fun u' e => ?_)
    · show f_X5_on (nI q) a2 a3 u = _
      unfold f_X5_on
      rw [q_pilAt_in hp0 hp8 hq, bd_eq, ro_some, p_within, decide_eq_false hv, bd_eq, if_neg (by decide), c0, bd_eq]
    · show f_X6_on (nI q) a2 a3 u' = _
      unfold f_X6_on
      rw [p_isPil_in (u := u') (by rw [e]; exact hp) hp8 hq, bd_eq, if_pos rfl, L0, L400, p_in, decide_eq_false hv, bd_eq, if_neg (by decide), m0, bd_eq]
