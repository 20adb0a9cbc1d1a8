/-! PURE 26: kind, begin -/
theorem holyF_congr {F G : Nat → Int32} (e : ∀ k, k < 5 → F k = G k) (x : Int32) : holyF F x = holyF G x := by
  unfold holyF dateF monthF runsF newF lenF
  rw [e 0 (by decide), e 1 (by decide), e 2 (by decide), e 3 (by decide), e 4 (by decide)]
theorem agF_congr {f g : Nat → Bool} : ∀ (j i : Nat) (acc : Int32), (∀ k, k < i + j → f k = g k) → agF f i j acc = agF g i j acc := by
  intro j
  induction j with
  | zero => intro i acc _; rfl
  | succ j ih =>
    intro i acc h
    rw [agF, agF, h i (by omega), ih (i + 1) _ (fun k hk => h k (by omega))]
theorem p_X0_copy {e e' r r' o o' : Nat} (h : CalAt e r o) (h' : CalAt e' r' o') (u : Uw) : f_X0_become e e' u = some ((), sR u r (fun b => if o ≤ b ∧ b < o + 5 then u.1 r' (o' + (b - o)) else u.1 r b)) := by
  obtain ⟨h1, h2, h3, h4, h5⟩ := h
  obtain ⟨g1, g2, g3, g4, g5⟩ := h'
  unfold f_X0_become
  rw [ck_pos g1, ck_pos h1, ck_pos h2, ck_pos g2, h5, g5, ck_pos (show cpok 0 0 5 5 5 = true by decide), h3, h4, g3, g4, nm_eq, tn0, tn5, cp1_sR]
  congr 3
  funext b
  rw [Nat.add_zero, Nat.zero_add]
theorem l_agT {m n d : Nat} {s : Nat → Int32} (hn : n ≤ 400) (hm6 : m ≤ 6) (hm : s 0 = nI m) (h2 : s 2 = nI d) {u : Uw} (hs : u.1 0 = s) (h4 : ∀ k, k < n → u.1 4 k = hset s (nI (d + k))) : ∀ (j i f : Nat) (acc : Int32), i + j = n → j < f → lp b_X5_agreementsOfTried_4 f (nI n, acc, nI i, u) = some (agF (fun k => decide (bI (holyF (row5 (u.1 6) 0) (nI (d + k))) = bI (hb s (s 4) (nI (d + k))))) i j acc, u) := by
  intro j
  induction j with
  | zero =>
    intro i f acc h1 h3
    obtain ⟨f, rfl⟩ : ∃ k, f = k + 1 := ⟨f - 1, by omega⟩
    rw [lp_s]
    generalize lp b_X5_agreementsOfTried_4 f = g
    unfold b_X5_agreementsOfTried_4
    dsimp only
    rw [if_pos (nI_le (by omega) (by omega)), agF]
  | succ j ih =>
    intro i f acc h1 h3
    obtain ⟨f, rfl⟩ : ∃ k, f = k + 1 := ⟨f - 1, by omega⟩
    have ih2 := fun acc' => ih (i + 1) f acc' (by omega) (by omega)
    rw [lp_s]
    generalize lp b_X5_agreementsOfTried_4 f = g at ih2 ⊢
    unfold b_X5_agreementsOfTried_4
    dsimp only
    rw [if_neg (nI_ge (by omega) (by omega)), if_neg (show ¬ (400 : Int32) ≤ nI i from nI_ge (b := 400) (by omega) (by decide)), p_X0_isHoly cal_84, bd_eq, ck_pos (inb_nI (by omega) (by decide)), nm_eq, nI_clamp (by omega), h4 i (by omega), hs, h2, nI_add, p_isIn, bd_eq, isIn_hset hm hm6, nI_1, ih2, ih2, agF]
    by_cases hz : bI (holyF (row5 (u.1 6) 0) (nI (d + i))) = bI (hb s (s 4) (nI (d + i)))
    · rw [if_pos hz, if_pos (decide_eq_true hz)]
    · rw [if_neg hz, if_neg (by rw [decide_eq_false hz]; decide)]
/-- how often calendar c with v for its number k agrees with the truth -/
def agV (s : Nat → Int32) (d n c k : Nat) (x : Nat) : Int32 := agF (fun i => agB (upd s (7 + 5 * c + k) (nI x)) (nI c) (s 4) (nI (d + i))) 0 n 0
theorem agV_ne {s : Nat → Int32} {m p w d n c t k x : Nat} (hG : GdW s m p w) (hc : c < m) (ht : t < m) (h4 : s 4 = nI t) (hne : c ≠ t) (hk : k < 5) {r6 : Nat → Int32} (h6 : ∀ i, i < 5 → r6 i = upd s (7 + 5 * c + k) (nI x) (7 + 5 * c + i)) : agF (fun i => decide (bI (holyF (row5 r6 0) (nI (d + i))) = bI (hb s (s 4) (nI (d + i))))) 0 n 0 = agV s d n c k x := by
  have hm6 := hG.2.1
  unfold agV
  refine agF_congr n 0 0 (fun i _ => ?_)
  have hm' : upd s (7 + 5 * c + k) (nI x) 0 = nI m := by rw [upd_ne (by omega)]; exact hG.1
  unfold agB
  rw [hb_in hm' hm6 hc, h4, hb_in hm' hm6 ht, hb_in hG.1 hm6 ht]
  rw [holyF_congr (F := row5 r6 0) (G := row5 (upd s (7 + 5 * c + k) (nI x)) (7 + 5 * c)) (fun i hi => by unfold row5; rw [Nat.zero_add]; exact h6 i hi), holyF_congr (F := row5 s (7 + 5 * t)) (G := row5 (upd s (7 + 5 * c + k) (nI x)) (7 + 5 * t)) (fun i hi => by unfold row5; rw [upd_ne (by omega)])]
theorem l_bvC {m p w n d c t k hi : Nat} {s : Nat → Int32} (hn : n ≤ 400) (hG : GdW s m p w) (h2 : s 2 = nI d) (hc : c < m) (ht : t < m) (h4 : s 4 = nI t) (hne : c ≠ t) (hk : k < 5) (hhi : hi ≤ 99) (hB : ∀ x, x ≤ hi → tbv 0 k ≤ nI x ∧ nI x ≤ tbv 1 k) : ∀ (j x f : Nat) (best most y : Int32) (u : Uw), u.1 0 = s → (∀ i, i < n → u.1 4 i = hset s (nI (d + i))) → (∀ i, i < 5 → u.1 6 i = upd s (7 + 5 * c + k) y (7 + 5 * c + i)) → x + j = hi + 1 → j < f → ∃ u', lp b_X5_bestValue_103 f (nI k, nI n, best, most, nI hi, nI x, u) = some (pwF (agV s d n c k) j x best most, u') ∧ Fr [6] u u' := by
  obtain ⟨hm, hm6, -⟩ := id hG
  intro j
  induction j with
  | zero =>
    intro x f best most y u hs h4' h6 h1 h3
    obtain ⟨f, rfl⟩ : ∃ k, f = k + 1 := ⟨f - 1, by omega⟩
    refine ⟨u, ?_, Fr.rf⟩
    rw [lp_s]
    generalize lp b_X5_bestValue_103 f = g
    unfold b_X5_bestValue_103
    dsimp only
    rw [if_pos (nI_lt (by omega) (by omega)), pwF]
  | succ j ih =>
    intro x f best most y u hs h4' h6 h1 h3
    obtain ⟨f, rfl⟩ : ∃ k, f = k + 1 := ⟨f - 1, by omega⟩
    have hC := p_change cal_84 hk (hB x (by omega)) u
    rw [Nat.zero_add] at hC
    have hs' : (sR u 6 (upd (u.1 6) k (nI x))).1 0 = s := by rw [sR_ne (by decide)]; exact hs
    have h4'' : ∀ i, i < n → (sR u 6 (upd (u.1 6) k (nI x))).1 4 i = hset s (nI (d + i)) := fun i hi => by rw [sR_ne (by decide)]; exact h4' i hi
    have h6' : ∀ i, i < 5 → (sR u 6 (upd (u.1 6) k (nI x))).1 6 i = upd s (7 + 5 * c + k) (nI x) (7 + 5 * c + i) := fun i hi => by
      rw [sR_same]
      by_cases e : i = k
      · rw [e, upd_at, upd_at]
      · have := h6 i hi
        rw [upd_ne (by omega)] at this
        rw [upd_ne e, upd_ne (by omega), this]
    have hA : f_X5_agreementsOfTried (nI n) (sR u 6 (upd (u.1 6) k (nI x))) = some (agV s d n c k x, sR u 6 (upd (u.1 6) k (nI x))) := by
      unfold f_X5_agreementsOfTried
      rw [← agV_ne (d := d) (n := n) hG hc ht h4 hne hk h6']
      exact l_agT hn hm6 hm h2 hs' h4'' n 0 2100 0 (by omega) (by omega)
    have ih2 := fun b z => ih (x + 1) f b z (nI x) (sR u 6 (upd (u.1 6) k (nI x))) hs' h4'' h6' (by omega) (by omega)
    rw [lp_s]
    generalize lp b_X5_bestValue_103 f = g at ih2 ⊢
    unfold b_X5_bestValue_103
    dsimp only
    rw [if_neg (nI_nlt (by omega) (by omega)), hC, bd_eq, hA, bd_eq, nm_eq, nI_1, pwF]
    split
    · obtain ⟨u', a, b⟩ := ih2 best most
      exact ⟨u', a, (Fr.sR (by decide)).tr b⟩
    · obtain ⟨u', a, b⟩ := ih2 (nI x) (agV s d n c k x)
      exact ⟨u', a, (Fr.sR (by decide)).tr b⟩
theorem l_maM {m p w n d c k hi : Nat} {v : Uw} {s : Nat → Int32} (hn : n ≤ 400) (hv : v.1 20 = s) (hG : GdW s m p w) (h2 : s 2 = nI d) (hd : d ≤ 99999) (hc : c < m) (hk : k < 5) (hhi : hi ≤ 99) (hB : ∀ x, x ≤ hi → tbv 0 k ≤ nI x ∧ nI x ≤ tbv 1 k) : ∀ (j x f : Nat) (y best most : Int32), x + j = hi + 1 → j < f → lp b_X6_mostAgreed_28 f (nI c, nI (hi + 1), nI n, nI (7 + 5 * c + k), s (7 + 5 * c + k), best, most, nI x, sR v 20 (upd s (7 + 5 * c + k) y)) = some (pwF (agV s d n c k) j x best most, v) := by
  have hm6 := hG.2.1
  intro j
  induction j with
  | zero =>
    intro x f y best most h1 h3
    obtain ⟨f, rfl⟩ : ∃ k, f = k + 1 := ⟨f - 1, by omega⟩
    have er : sR v 20 s = v := (congrArg (sR v 20) hv.symm).trans sR_self
    rw [lp_s]
    generalize lp b_X6_mostAgreed_28 f = g
    unfold b_X6_mostAgreed_28
    dsimp only
    rw [if_pos (nI_le (by omega) (by omega)), ck_pos (inb_nI (show 7 + 5 * c + k < 61 by omega) (by decide)), nm_eq, nI_clamp (show 7 + 5 * c + k < 2 ^ 31 by omega), w1_sR, sR_same, sR_sR, upd_upd, upd_self, er, pwF]
  | succ j ih =>
    intro x f y best most h1 h3
    obtain ⟨f, rfl⟩ : ∃ k, f = k + 1 := ⟨f - 1, by omega⟩
    have ih2 := fun b z => ih (x + 1) f (nI x) b z (by omega) (by omega)
    have hA := p_agreed (m := m) (p := p) (w := w) (d := d) (a := nI c) (b := s 4) (u := sR v 20 (upd s (7 + 5 * c + k) (nI x))) hn hd (by rw [sR_same]; exact hG.cal hc hk (hB x (by omega))) (by rw [sR_same, upd_ne (by omega)]; exact h2)
    rw [sR_same] at hA
    have hw1 : w1 (sR v 20 (upd s (7 + 5 * c + k) y)) 20 (7 + 5 * c + k) (nI x) = sR v 20 (upd s (7 + 5 * c + k) (nI x)) := by rw [w1_sR, sR_same, sR_sR, upd_upd]
    rw [lp_s]
    generalize lp b_X6_mostAgreed_28 f = g at ih2 ⊢
    unfold b_X6_mostAgreed_28
    dsimp only
    rw [if_neg (nI_ge (by omega) (by omega)), ck_pos (inb_nI (show 7 + 5 * c + k < 61 by omega) (by decide)), nm_eq, nI_clamp (show 7 + 5 * c + k < 2 ^ 31 by omega), hw1, nm_eq, tn4, sR_same, upd_ne (show 4 ≠ 7 + 5 * c + k by omega), hA, bd_eq, nm_eq, nm_eq, nm_eq, nm_eq, nI_1, ih2, ih2, ih2, ih2, pwF]
    show (if agV s d n c k x ≤ most then (if agV s d n c k x ≤ most then _ else _) else (if agV s d n c k x ≤ most then _ else _)) = _
    by_cases hz : agV s d n c k x ≤ most
    · rw [if_pos hz, if_pos hz, if_pos hz]
    · rw [if_neg hz, if_neg hz, if_neg hz]
      rfl
theorem p_mostAgreed {m p w n d c k hi : Nat} {u : Uw} (hn : n ≤ 400) (hG : GdW (u.1 20) m p w) (h2 : u.1 20 2 = nI d) (hd : d ≤ 99999) (hc : c < m) (hk : k < 5) (hhi : hi ≤ 99) (hB : ∀ x, x ≤ hi → tbv 0 k ≤ nI x ∧ nI x ≤ tbv 1 k) : f_X6_mostAgreed (nI c) (nI k) (nI (hi + 1)) (nI n) u = some (pwF (agV (u.1 20) d n c k) (hi + 1) 0 0 (-1), u) := by
  have hm6 := hG.2.1
  have h := l_maM (v := u) hn rfl hG h2 hd hc hk hhi hB (hi + 1) 0 2100 (u.1 20 (7 + 5 * c + k)) 0 (-1) (by omega) (by omega)
  rw [upd_self, sR_self] at h
  unfold f_X6_mostAgreed
  rw [nm_eq, ix5, ck_pos (inb_nI (show 7 + 5 * c + k < 61 by omega) (by decide)), nm_eq, nI_clamp (show 7 + 5 * c + k < 2 ^ 31 by omega)]
  exact h
theorem pwF_const {V : Nat → Int32} {a : Int32} (h : ∀ x, V x = a) : ∀ (j x : Nat) (best : Int32), pwF V j x best a = best := by
  intro j
  induction j with
  | zero => intro x best; rfl
  | succ j ih =>
    intro x best
    rw [pwF, h, if_pos (Int32.le_refl a), ih]
theorem agF_true : ∀ (j i k : Nat), agF (fun _ => true) i j (nI k) = nI (k + j) := by
  intro j
  induction j with
  | zero => intro i k; rfl
  | succ j ih =>
    intro i k
    rw [agF, if_pos rfl, nI_1, ih, show k + 1 + j = k + (j + 1) by omega]
theorem agV_same {s : Nat → Int32} {d n c k : Nat} (h4 : s 4 = nI c) (x : Nat) : agV s d n c k x = nI n := by
  unfold agV
  rw [show (fun i => agB (upd s (7 + 5 * c + k) (nI x)) (nI c) (s 4) (nI (d + i))) = fun _ => true from funext fun i => by unfold agB; rw [h4]; exact decide_eq_true rfl]
  have := agF_true n 0 0
  rw [Nat.zero_add] at this
  exact this
theorem bd_id {β : Type} {o : Option (β × Uw)} : (bd o fun r v => some (r, v)) = o := by
  cases o with
  | none => rfl
  | some x => rfl
def gM (k hi N : Nat) (a1 a2 : Int32) (u : Uw) : Option (Int32 × Uw) :=
  bd (f_X6_isCalendar a1 u) fun r1 u2 =>
  if r1 = true then
  (bd (f_X6_in (a2.toInt64) (1 : Int64) ((nI N).toInt64) u2) fun r5 u6 =>
  if r5 = true then
  (nm (u6.1 20 (4 : Int32).toNatClampNeg) fun x7 =>
  bd (f_X6_isCalendar x7 u6) fun r8 u9 =>
  if r8 = true then
  (bd (f_X6_mostAgreed a1 (nI k) (nI (hi + 1)) a2 u9) fun r12 u13 =>
  some (r12, u13))
  else
  (bd (f_X6_finds (-1000000005 : Int32) u9) fun r10 u11 =>
  some (r10, u11)))
  else
  (bd (f_X6_finds (-1000000001 : Int32) u6) fun r14 u15 =>
  some (r14, u15)))
  else
  (bd (f_X6_finds (-1000000001 : Int32) u2) fun r3 u4 =>
  some (r3, u4))
theorem p_least {k : Nat} (hk : k < 5) (u : Uw) : f_X0_least (nI k) u = some (tbv 0 k, u) := by
  unfold f_X0_least
  rw [p_isField_in hk, bd_eq, if_pos rfl, ck_pos (inb_nI hk (by decide)), nm_eq, nI_clamp (by omega)]
theorem p_greatest {k : Nat} (hk : k < 5) (u : Uw) : f_X0_greatest (nI k) u = some (tbv 1 k, u) := by
  unfold f_X0_greatest
  rw [p_isField_in hk, bd_eq, if_pos rfl, ck_pos (inb_nI hk (by decide)), nm_eq, nI_clamp (by omega)]
theorem st_best {k hi N : Nat} (hk : k < 5) (hhi : hi ≤ 99) (hN : N ≤ 400) (hlo : tbv 0 k = nI 0) (hup : tbv 1 k = nI hi) (a1 a2 : Int32) : StepT Rel (fun u => f_X5_bestValue a1 (nI k) a2 (nI N) u) (fun u => gM k hi N a1 a2 u) := by
  intro u hu
  obtain ⟨e0, ⟨m, p, w, d, t, hG, h2, hd, h4, ht⟩, -⟩ := id hu
  obtain ⟨hm, hm6, hp, hp8, ew, hw, -, -, -, hps⟩ := id hG
  have hm0 : u.1 0 0 = nI m := by rw [e0]; exact hm
  have h20 : u.1 0 2 = nI d := by rw [e0]; exact h2
  have h40 : u.1 0 4 = nI t := by rw [e0]; exact h4
  have hB : ∀ x, x ≤ hi → tbv 0 k ≤ nI x ∧ nI x ≤ tbv 1 k := fun x hx => by
    rw [hlo, hup]
    exact ⟨nI_le (by omega) (by omega), nI_le hx (by omega)⟩
  have out : (a1 < 0 ∨ nI m ≤ a1) → ∃ r u1 u2, f_X5_bestValue a1 (nI k) a2 (nI N) u = some (r, u1) ∧ gM k hi N a1 a2 u1 = some (r, u2) ∧ Rel u2 := fun h => by
    refine fin_fd (f := fun u => f_X5_bestValue a1 (nI k) a2 (nI N) u) (g := fun u => gM k hi N a1 a2 u) hu (k := 0) (by decide) (x := -1000000001) ?_ (fun u' e => ?_)
    · show f_X5_bestValue a1 (nI k) a2 (nI N) u = _
      unfold f_X5_bestValue
      rw [q_calAt_out hm0 h, bd_eq, ro_none, c0, bd_eq]
    · show gM k hi N a1 a2 u' = _
      unfold gM
      rw [p_isCal_out (u := u') (by rw [e]; exact hm) hm6 h, bd_eq, if_neg (by decide), m0, bd_eq]
  rcases pk_ix a1 (n := m) (by omega) with h | h | ⟨c, hc, rfl⟩
  · exact out (Or.inl h)
  · exact out (Or.inr h)
  have hc6 : c < 6 := by omega
  by_cases hv : 1 ≤ a2 ∧ a2 ≤ nI N
  · by_cases htm : t < m
    · have hN1 : 1 ≤ N := by
        have := hv.1
        have h5 := hv.2
        rw [fa_le] at this h5
        rw [nI_toInt (by omega)] at h5
        have : (1 : Int32).toInt = 1 := rfl
        omega
      obtain ⟨n, n1, hn, rfl⟩ := nI_rng 1 N (by omega) hv.1 hv.2 hN1
      have hMm : ∀ u', u'.1 20 = u.1 20 → gM k hi N (nI c) (nI n) u' = some (pwF (agV (u.1 20) d n c k) (hi + 1) 0 0 (-1), u') := fun u' e => by
        unfold gM
        rw [p_isCal_in (u := u') (by rw [e]; exact hm) hm6 hc, bd_eq, if_pos rfl, L1, p_in, decide_eq_true hv, bd_eq, if_pos rfl, tn4, nm_eq, e, h4, p_isCal_in (u := u') (by rw [e]; exact hm) hm6 htm, bd_eq, if_pos rfl, p_mostAgreed (m := m) (p := p) (w := w) (d := d) (u := u') (by omega) (by rw [e]; exact hG) (by rw [e]; exact h2) hd hc hk hhi hB, bd_eq, e]
      by_cases hct : c = t
      · have eP : pwF (agV (u.1 20) d n c k) (hi + 1) 0 0 (-1) = nI 0 := by
          have hV := agV_same (s := u.1 20) (d := d) (n := n) (c := c) (k := k) (by rw [hct]; exact h4)
          rw [pwF, hV, if_neg (show ¬ nI n ≤ -1 by rw [fa_le, nI_toInt (by omega)]; show ¬ (n : Int) ≤ -1; omega)]
          exact pwF_const hV hi (0 + 1) (nI 0)
        refine fin_q (f := fun u => f_X5_bestValue (nI c) (nI k) (nI n) (nI N) u) (g := fun u => gM k hi N (nI c) (nI n) u) hu (x := nI 0) (u1 := u) ?_ Fr.rf (fun u' e => ⟨u', ?_, Fr.rf⟩)
        · show f_X5_bestValue (nI c) (nI k) (nI n) (nI N) u = _
          unfold f_X5_bestValue
          rw [q_calAt_in hm0 hm6 hc, bd_eq, ro_some, p_within, decide_eq_true hv, bd_eq, if_pos rfl, h40, q_calAt_in hm0 hm6 htm, bd_eq, ro_some, p_least hk, bd_eq, h40, if_pos (by rw [hct]), hlo]
        · show gM k hi N (nI c) (nI n) u' = _
          rw [hMm u' e, eP]
      · have hz : ¬ nI c = nI t := fun z => hct ((nI_eq (by omega) (by omega)).mp z)
        obtain ⟨v, k1, k2⟩ := l_bvC (s := u.1 20) (d := d) (n := n) (by omega) hG h2 hc htm h4 hct hk hhi hB (hi + 1) 0 2100 (nI 0) (-1) (u.1 20 (7 + 5 * c + k)) (sR (sR u 4 (cpF (u.1 4) (ahF (u.1 0) d) 0 n)) 6 (fun b => if 0 ≤ b ∧ b < 0 + 5 then u.1 0 (7 + 5 * c + (b - 0)) else u.1 6 b)) (by rw [sR_ne (by decide), sR_ne (by decide)]; exact e0) (fun i hi => by rw [sR_ne (by decide), sR_same, cpF_in hi, e0]; rfl) (fun i hi => by
          rw [sR_same, upd_self]
          show (if 0 ≤ i ∧ i < 0 + 5 then u.1 0 (7 + 5 * c + (i - 0)) else u.1 6 i) = _
          rw [if_pos (by omega), Nat.sub_zero, e0]) (by omega) (by omega)
        have kF : Fr [2, 4, 5, 6] u v := Fr.tr (Fr.sR (by decide)) (Fr.tr (Fr.sR (by decide)) ⟨fun r hr => k2.1 r (fun z => hr (by simp at z; subst z; decide)), k2.2⟩)
        refine fin_q (f := fun u => f_X5_bestValue (nI c) (nI k) (nI n) (nI N) u) (g := fun u => gM k hi N (nI c) (nI n) u) hu (x := pwF (agV (u.1 20) d n c k) (hi + 1) 0 (nI 0) (-1)) (u1 := v) ?_ kF (fun u' e => ⟨u', ?_, Fr.rf⟩)
        · show f_X5_bestValue (nI c) (nI k) (nI n) (nI N) u = _
          unfold f_X5_bestValue
          rw [q_calAt_in hm0 hm6 hc, bd_eq, ro_some, p_within, decide_eq_true hv, bd_eq, if_pos rfl, h40, q_calAt_in hm0 hm6 htm, bd_eq, ro_some, p_least hk, bd_eq, h40, if_neg hz, p_look (by omega) hd hm6 hm0 h20, bd_eq, p_X0_copy cal_84 (q_cal hc6), bd_eq, p_greatest hk, bd_eq, hlo, hup, sR_ne (show 0 ≠ 4 by decide), sR_ne (show 6 ≠ 4 by decide)]
          exact k1
        · show gM k hi N (nI c) (nI n) u' = _
          rw [hMm u' e]
          rfl
    · have hx : nI t < 0 ∨ nI m ≤ nI t := Or.inr (nI_le (by omega) (by omega))
      refine fin_fd (f := fun u => f_X5_bestValue (nI c) (nI k) a2 (nI N) u) (g := fun u => gM k hi N (nI c) a2 u) hu (k := 4) (by decide) (x := -1000000005) ?_ (fun u' e => ?_)
      · show f_X5_bestValue (nI c) (nI k) a2 (nI N) u = _
        unfold f_X5_bestValue
        rw [q_calAt_in hm0 hm6 hc, bd_eq, ro_some, p_within, decide_eq_true hv, bd_eq, if_pos rfl, h40, q_calAt_out hm0 hx, bd_eq, ro_none, c4, bd_eq]
      · show gM k hi N (nI c) a2 u' = _
        unfold gM
        rw [p_isCal_in (u := u') (by rw [e]; exact hm) hm6 hc, bd_eq, if_pos rfl, L1, p_in, decide_eq_true hv, bd_eq, if_pos rfl, tn4, nm_eq, e, h4, p_isCal_out (u := u') (by rw [e]; exact hm) hm6 hx, bd_eq, if_neg (by decide), m4, bd_eq]
  · refine fin_fd (f := fun u => f_X5_bestValue (nI c) (nI k) a2 (nI N) u) (g := fun u => gM k hi N (nI c) a2 u) hu (k := 0) (by decide) (x := -1000000001) ?_ (fun u' e => ?_)
    · show f_X5_bestValue (nI c) (nI k) a2 (nI N) u = _
      unfold f_X5_bestValue
      rw [q_calAt_in hm0 hm6 hc, bd_eq, ro_some, p_within, decide_eq_false hv, bd_eq, if_neg (by decide), c0, bd_eq]
    · show gM k hi N (nI c) a2 u' = _
      unfold gM
      rw [p_isCal_in (u := u') (by rw [e]; exact hm) hm6 hc, bd_eq, if_pos rfl, L1, p_in, decide_eq_false hv, bd_eq, if_neg (by decide), m0, bd_eq]
theorem st_kind (a1 a2 : Int32) : StepT Rel (fun u => f_X5_kind a1 a2 u) (fun u => f_X6_kind a1 a2 u) := by
  have h := st_best (k := 0) (hi := 5) (N := 400) (by decide) (by decide) (by decide) rfl rfl a1 a2
  intro u hu
  obtain ⟨r, u1, u2, h1, h2, h3⟩ := h u hu
  exact ⟨r, u1, u2, (show f_X5_kind a1 a2 u = f_X5_bestValue a1 (nI 0) a2 (nI 400) u from bd_id).trans h1, h2, h3⟩
theorem st_begin (a1 a2 : Int32) : StepT Rel (fun u => f_X5_begin a1 a2 u) (fun u => f_X6_begin a1 a2 u) := by
  have h := st_best (k := 1) (hi := 99) (N := 100) (by decide) (by decide) (by decide) rfl rfl a1 a2
  intro u hu
  obtain ⟨r, u1, u2, h1, h2, h3⟩ := h u hu
  exact ⟨r, u1, u2, (show f_X5_begin a1 a2 u = f_X5_bestValue a1 (nI 1) a2 (nI 100) u from bd_id).trans h1, h2, h3⟩
