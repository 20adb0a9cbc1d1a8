/-! PURE 20: meet, both -/
theorem l_holyBy {m p w : Nat} {u : Uw} (hG : GdW (u.1 20) m p w) (x : Int32) : ∀ (j c f : Nat) (acc : Int32), c + j = m → j < f → lp b_X6_holyBy_4 f (x, acc, nI c, u) = some (hsG (fun c => holyF (row5 (u.1 20) (7 + 5 * c)) x) c j acc, u) := by
  intro j
  induction j with
  | zero =>
    intro c f acc h1 h3
    have hm6 := hG.2.1
    obtain ⟨f, rfl⟩ : ∃ k, f = k + 1 := ⟨f - 1, by omega⟩
    rw [lp_s]
    generalize lp b_X6_holyBy_4 f = g
    unfold b_X6_holyBy_4
    dsimp only
    rw [tn0, nm_eq, hG.1, if_pos (nI_le (by omega) (by omega))]
    rfl
  | succ j ih =>
    intro c f acc h1 h3
    have hm6 := hG.2.1
    obtain ⟨f, rfl⟩ : ∃ k, f = k + 1 := ⟨f - 1, by omega⟩
    have ih2 := fun acc' => ih (c + 1) f acc' (by omega) (by omega)
    rw [lp_s]
    generalize lp b_X6_holyBy_4 f = g at ih2 ⊢
    unfold b_X6_holyBy_4
    dsimp only
    rw [tn0, nm_eq, hG.1, if_neg (nI_ge (by omega) (by omega)), p_isHoly hG.1 hG.2.1 hG.len, bd_eq, hb_in hG.1 hG.2.1 (show c < m by omega), nm_eq, nm_eq, or_0, nI_1, ih2, ih2, hsG]
    split <;> rfl
theorem p_holyBy {m p w : Nat} {u : Uw} (hG : GdW (u.1 20) m p w) (x : Int32) : f_X6_holyBy x u = some (hset (u.1 20) x, u) := by
  have hm6 := hG.2.1
  unfold f_X6_holyBy hset
  rw [hG.1, nI_clamp (by omega)]
  exact l_holyBy hG x m 0 2100 0 (by omega) (by omega)
theorem l_meetC {d m : Nat} {u : Uw} {a : Int32} (hd : d ≤ 99999) (h2 : u.1 0 2 = nI d) (hm : u.1 0 0 = nI m) (hm6 : m ≤ 6) : ∀ (j i f : Nat), i + j = 2001 → j < f → lp b_X5_meet_28 f (a, nI i, u) = nxA (nxF (fun x => decide (hset (u.1 0) x = a)) (d + i) j) u (fdC u 3) := by
  intro j
  induction j with
  | zero =>
    intro i f h1 h3
    obtain ⟨f, rfl⟩ : ∃ k, f = k + 1 := ⟨f - 1, by omega⟩
    rw [lp_s]
    generalize lp b_X5_meet_28 f = g
    unfold b_X5_meet_28
    dsimp only
    rw [if_pos (show (2000 : Int32) < nI i from nI_lt (a := 2000) (by omega) (by omega)), c3, bd_eq]
    rfl
  | succ j ih =>
    intro i f h1 h3
    obtain ⟨f, rfl⟩ : ∃ k, f = k + 1 := ⟨f - 1, by omega⟩
    have ih2 := ih (i + 1) f (by omega) (by omega)
    rw [lp_s]
    generalize lp b_X5_meet_28 f = g at ih2 ⊢
    unfold b_X5_meet_28
    dsimp only
    rw [if_neg (show ¬ (2000 : Int32) < nI i from nI_nlt (a := 2000) (by omega) (by omega)), q_holySet hm hm6, bd_eq, h2, nI_add, nI_1, ih2, nxF, ← Nat.add_assoc]
    by_cases e : hset (u.1 0) (nI (d + i)) = a
    · rw [if_pos e, if_pos (decide_eq_true e)]
      rfl
    · rw [if_neg e, if_neg (by rw [decide_eq_false e]; decide)]
theorem l_meetM {d m p w : Nat} {u : Uw} {a : Int32} (hd : d ≤ 99999) (h2 : u.1 20 2 = nI d) (hG : GdW (u.1 20) m p w) : ∀ (j i f : Nat), i + j = 2001 → j < f → lp b_X6_meet_34 f (a, nI (d + i), u) = nxA (nxF (fun x => decide (hset (u.1 20) x = a)) (d + i) j) u (fdM u 3) := by
  intro j
  induction j with
  | zero =>
    intro i f h1 h3
    obtain ⟨f, rfl⟩ : ∃ k, f = k + 1 := ⟨f - 1, by omega⟩
    rw [lp_s]
    generalize lp b_X6_meet_34 f = g
    unfold b_X6_meet_34
    dsimp only
    rw [tn2, nm_eq, h2, show (2000 : Int32) = nI 2000 from rfl, nI_add, if_pos (nI_lt (by omega) (by omega)), m3, bd_eq]
    rfl
  | succ j ih =>
    intro i f h1 h3
    obtain ⟨f, rfl⟩ : ∃ k, f = k + 1 := ⟨f - 1, by omega⟩
    have ih2 := ih (i + 1) f (by omega) (by omega)
    rw [lp_s]
    generalize lp b_X6_meet_34 f = g at ih2 ⊢
    unfold b_X6_meet_34
    dsimp only
    rw [tn2, nm_eq, h2, show (2000 : Int32) = nI 2000 from rfl, nI_add, if_neg (nI_nlt (by omega) (by omega)), p_holyBy hG, bd_eq, nI_1, Nat.add_assoc, ih2, nxF, ← Nat.add_assoc]
    by_cases e : hset (u.1 20) (nI (d + i)) = a
    · rw [if_pos e, if_pos (decide_eq_true e)]
      rfl
    · rw [if_neg e, if_neg (by rw [decide_eq_false e]; decide)]
/-- the end of a search -/
theorem fin_nx {f g : Uw → Option (Int32 × Uw)} {u : Uw} (hu : Rel u) {o : Option Nat} (hC : f u = nxA o u (fdC u 3)) (hM : ∀ u', u'.1 20 = u.1 20 → g u' = nxA o u' (fdM u' 3)) : ∃ r u1 u2, f u = some (r, u1) ∧ g u1 = some (r, u2) ∧ Rel u2 := by
  cases o with
  | none => exact fin_fd hu (k := 3) (by decide) (x := -1000000004) hC hM
  | some k => exact fin_p hu (x := nI k) hC (hM u rfl)
theorem st_meet (a1 : Int32) : StepT Rel (fun u => f_X5_meet a1 u) (fun u => f_X6_meet a1 u) := by
  intro u hu
  obtain ⟨e0, ⟨m, p, w, d, t, hG, h2, hd, h4, ht⟩, -⟩ := id hu
  obtain ⟨hm, hm6, -⟩ := id hG
  have hm0 : u.1 0 0 = nI m := by rw [e0]; exact hm
  have h20 : u.1 0 2 = nI d := by rw [e0]; exact h2
  by_cases hv : 1 ≤ a1 ∧ a1 ≤ (1 <<< (nI m &&& 31)) - 1
  · refine fin_nx (o := nxF (fun x => decide (hset (u.1 20) x = a1)) d 2001) hu ?_ (fun u' e => ?_)
    · show f_X5_meet a1 u = _
      unfold f_X5_meet
      rw [p_within, hm0, decide_eq_true hv, bd_eq, if_pos rfl]
      have h := l_meetC (a := a1) hd h20 hm0 hm6 2001 0 2100 (by omega) (by omega)
      rw [e0] at h
      exact h
    · show f_X6_meet a1 u' = _
      unfold f_X6_meet
      rw [tn0, nm_eq, e, hm, L1, p_in, decide_eq_true hv, bd_eq, if_pos rfl, tn2, nm_eq, e, h2]
      have h := l_meetM (a := a1) (u := u') hd (by rw [e]; exact h2) (by rw [e]; exact hG) 2001 0 2100 (by omega) (by omega)
      rw [e] at h
      exact h
  · refine fin_fd hu (k := 0) (by decide) (x := -1000000001) ?_ (fun u' e => ?_)
    · show f_X5_meet a1 u = _
      unfold f_X5_meet
      rw [p_within, hm0, decide_eq_false hv, bd_eq, if_neg (by decide), c0, bd_eq]
    · show f_X6_meet a1 u' = _
      unfold f_X6_meet
      rw [tn0, nm_eq, e, hm, L1, p_in, decide_eq_false hv, bd_eq, if_neg (by decide), m0, bd_eq]
/-! both -/
def btB (F F' : Nat → Int32) (a b x : Int32) : Bool := decide (dateF F x = a) && decide (dateF F' x = b)
theorem l_bothC {d c c' : Nat} {u : Uw} {a b : Int32} (hc : c < 6) (hc' : c' < 6) (hd : d ≤ 99999) (h2 : u.1 0 2 = nI d) : ∀ (j i f : Nat), i + j = 2001 → j < f → lp b_X5_both_69 f (a, b, cc 0 c, cc 0 c', nI i, u) = nxA (nxF (btB (row5 (u.1 0) (7 + 5 * c)) (row5 (u.1 0) (7 + 5 * c')) a b) (d + i) j) u (fdC u 3) := by
  intro j
  induction j with
  | zero =>
    intro i f h1 h3
    obtain ⟨f, rfl⟩ : ∃ k, f = k + 1 := ⟨f - 1, by omega⟩
    rw [lp_s]
    generalize lp b_X5_both_69 f = g
    unfold b_X5_both_69
    dsimp only
    rw [if_pos (show (2000 : Int32) < nI i from nI_lt (a := 2000) (by omega) (by omega)), c3, bd_eq]
    rfl
  | succ j ih =>
    intro i f h1 h3
    obtain ⟨f, rfl⟩ : ∃ k, f = k + 1 := ⟨f - 1, by omega⟩
    have ih2 := ih (i + 1) f (by omega) (by omega)
    rw [lp_s]
    generalize lp b_X5_both_69 f = g at ih2 ⊢
    unfold b_X5_both_69
    dsimp only
    rw [if_neg (show ¬ (2000 : Int32) < nI i from nI_nlt (a := 2000) (by omega) (by omega)), nm_eq, ck_pos (q_cal hc).1, p_X0_dateAt (q_cal hc), bd_eq, ck_pos (q_cal hc').1, p_X0_dateAt (q_cal hc'), bd_eq, h2, nI_add, nI_1, ih2, nxF, ← Nat.add_assoc]
    unfold btB
    by_cases e : dateF (row5 (u.1 0) (7 + 5 * c)) (nI (d + i)) = a
    · rw [if_pos e, decide_eq_true e, Bool.true_and]
      by_cases e' : dateF (row5 (u.1 0) (7 + 5 * c')) (nI (d + i)) = b
      · rw [if_pos e', if_pos (decide_eq_true e')]
        rfl
      · rw [if_neg e', if_neg (by rw [decide_eq_false e']; decide)]
    · rw [if_neg e, decide_eq_false e, Bool.false_and, if_neg (by decide)]
theorem l_bothM {d m p w c c' : Nat} {u : Uw} {a b : Int32} (hc : c < m) (hc' : c' < m) (hd : d ≤ 99999) (h2 : u.1 20 2 = nI d) (hG : GdW (u.1 20) m p w) : ∀ (j i f : Nat), i + j = 2001 → j < f → lp b_X6_both_39 f (nI c, a, nI c', b, nI (d + i), u) = nxA (nxF (btB (row5 (u.1 20) (7 + 5 * c)) (row5 (u.1 20) (7 + 5 * c')) a b) (d + i) j) u (fdM u 3) := by
  intro j
  induction j with
  | zero =>
    intro i f h1 h3
    obtain ⟨f, rfl⟩ : ∃ k, f = k + 1 := ⟨f - 1, by omega⟩
    rw [lp_s]
    generalize lp b_X6_both_39 f = g
    unfold b_X6_both_39
    dsimp only
    rw [tn2, nm_eq, h2, show (2000 : Int32) = nI 2000 from rfl, nI_add, if_pos (nI_lt (by omega) (by omega)), m3, bd_eq]
    rfl
  | succ j ih =>
    intro i f h1 h3
    have hm6 := hG.2.1
    obtain ⟨f, rfl⟩ : ∃ k, f = k + 1 := ⟨f - 1, by omega⟩
    have ih2 := ih (i + 1) f (by omega) (by omega)
    rw [lp_s]
    generalize lp b_X6_both_39 f = g at ih2 ⊢
    unfold b_X6_both_39
    dsimp only
    rw [tn2, nm_eq, h2, show (2000 : Int32) = nI 2000 from rfl, nI_add, if_neg (nI_nlt (by omega) (by omega)), p_dateOf (show c < 6 by omega) (hG.len c hc), bd_eq, p_dateOf (show c' < 6 by omega) (hG.len c' hc'), bd_eq, nI_1, Nat.add_assoc, ih2, nxF, ← Nat.add_assoc]
    unfold btB
    by_cases e : dateF (row5 (u.1 20) (7 + 5 * c)) (nI (d + i)) = a
    · rw [if_pos e, decide_eq_true e, Bool.true_and]
      by_cases e' : dateF (row5 (u.1 20) (7 + 5 * c')) (nI (d + i)) = b
      · rw [if_pos e', if_pos (decide_eq_true e')]
        rfl
      · rw [if_neg e', if_neg (by rw [decide_eq_false e']; decide)]
    · rw [if_neg e, decide_eq_false e, Bool.false_and, if_neg (by decide)]
theorem q_allows2 (v : Int32) (u : Uw) : f_X0_allows 2 v u = some (decide (1 ≤ v ∧ v ≤ 60), u) := p_allows_in (j := 2) (by decide) v u
theorem p_isDate (v : Int32) (u : Uw) : f_X6_isDate v u = some (decide (1 ≤ v ∧ v ≤ 60), u) := by
  unfold f_X6_isDate
  rw [L1, L60, p_in, bd_eq]
theorem st_both (a1 a2 a3 a4 : Int32) : StepT Rel (fun u => f_X5_both a1 a2 a3 a4 u) (fun u => f_X6_both a1 a2 a3 a4 u) := by
  intro u hu
  obtain ⟨e0, ⟨m, p, w, d, t, hG, h2, hd, h4, ht⟩, -⟩ := id hu
  obtain ⟨hm, hm6, -⟩ := id hG
  have hm0 : u.1 0 0 = nI m := by rw [e0]; exact hm
  have h20 : u.1 0 2 = nI d := by rw [e0]; exact h2
  have bad : twoB m a1 a3 = false → f_X5_both a1 a2 a3 a4 u = some (-1000000001, fdC u 0) → ∃ r u1 u2, f_X5_both a1 a2 a3 a4 u = some (r, u1) ∧ f_X6_both a1 a2 a3 a4 u1 = some (r, u2) ∧ Rel u2 := fun hb hC => by
    refine fin_fd (f := fun u => f_X5_both a1 a2 a3 a4 u) (g := fun u => f_X6_both a1 a2 a3 a4 u) hu (k := 0) (by decide) (x := -1000000001) hC (fun u' e => ?_)
    show f_X6_both a1 a2 a3 a4 u' = _
    unfold f_X6_both
    rw [p_areTwo hm6 (by rw [e]; exact hm), hb, bd_eq, if_neg (by decide), m0, bd_eq]
  rcases isC_cases hm6 a1 with ⟨k1, k2⟩ | ⟨k1, c, hc, rfl⟩
  · refine bad (by unfold twoB; rw [k1]; rfl) ?_
    unfold f_X5_both
    rw [q_calAt_out hm0 k2, bd_eq, ro_none]
    rcases isC_cases hm6 a3 with ⟨k3, k4⟩ | ⟨k3, c', hc', rfl⟩
    · rw [q_calAt_out hm0 k4, bd_eq, ro_none, c0, bd_eq]
    · rw [q_calAt_in hm0 hm6 hc', bd_eq, ro_some, c0, bd_eq]
  · rcases isC_cases hm6 a3 with ⟨k3, k4⟩ | ⟨k3, c', hc', rfl⟩
    · refine bad (by unfold twoB; rw [k1, k3]; rfl) ?_
      unfold f_X5_both
      rw [q_calAt_in hm0 hm6 hc, bd_eq, ro_some, q_calAt_out hm0 k4, bd_eq, ro_none, c0, bd_eq]
    · by_cases e : nI c = nI c'
      · refine bad (by unfold twoB; rw [k1, k3, decide_eq_true e]; rfl) ?_
        unfold f_X5_both
        rw [q_calAt_in hm0 hm6 hc, bd_eq, ro_some, q_calAt_in hm0 hm6 hc', bd_eq, ro_some, if_pos e, c0, bd_eq]
      · have hb : twoB m (nI c) (nI c') = true := by unfold twoB; rw [k1, k3, decide_eq_false e]; rfl
        have hC0 : ∀ a2 a4 : Int32, f_X5_both (nI c) a2 (nI c') a4 u = if (1 ≤ a2 ∧ a2 ≤ 60) ∧ (1 ≤ a4 ∧ a4 ≤ 60) then lp b_X5_both_69 2100 (a2, a4, cc 0 c, cc 0 c', 0, u) else some (-1000000001, fdC u 0) := fun a2 a4 => by
          unfold f_X5_both
          rw [q_calAt_in hm0 hm6 hc, bd_eq, ro_some, q_calAt_in hm0 hm6 hc', bd_eq, ro_some, if_neg e, q_allows2, bd_eq, q_allows2, bd_eq, c0, bd_eq]
          by_cases v1 : 1 ≤ a2 ∧ a2 ≤ 60
          · rw [decide_eq_true v1, if_pos rfl]
            by_cases v2 : 1 ≤ a4 ∧ a4 ≤ 60
            · rw [decide_eq_true v2, if_pos rfl, if_pos ⟨v1, v2⟩]
            · rw [decide_eq_false v2, if_neg (by decide), if_neg (fun z => v2 z.2)]
          · rw [decide_eq_false v1, if_neg (by decide), if_neg (fun z => v1 z.1)]
        have hM0 : ∀ u', u'.1 20 = u.1 20 → f_X6_both (nI c) a2 (nI c') a4 u' = if (1 ≤ a2 ∧ a2 ≤ 60) ∧ (1 ≤ a4 ∧ a4 ≤ 60) then lp b_X6_both_39 2100 (nI c, a2, nI c', a4, nI d, u') else some (-1000000001, fdM u' 0) := fun u' eu => by
          unfold f_X6_both
          rw [p_areTwo hm6 (by rw [eu]; exact hm), hb, bd_eq, if_pos rfl, p_isDate, bd_eq, p_isDate, bd_eq, m0, bd_eq, tn2, nm_eq, eu, h2]
          by_cases v1 : 1 ≤ a2 ∧ a2 ≤ 60
          · rw [decide_eq_true v1, if_pos rfl]
            by_cases v2 : 1 ≤ a4 ∧ a4 ≤ 60
            · rw [decide_eq_true v2, if_pos rfl, if_pos ⟨v1, v2⟩]
            · rw [decide_eq_false v2, if_neg (by decide), if_neg (fun z => v2 z.2)]
          · rw [decide_eq_false v1, if_neg (by decide), if_neg (fun z => v1 z.1)]
        by_cases v : (1 ≤ a2 ∧ a2 ≤ 60) ∧ (1 ≤ a4 ∧ a4 ≤ 60)
        · refine fin_nx (f := fun u => f_X5_both (nI c) a2 (nI c') a4 u) (g := fun u => f_X6_both (nI c) a2 (nI c') a4 u) (o := nxF (btB (row5 (u.1 20) (7 + 5 * c)) (row5 (u.1 20) (7 + 5 * c')) a2 a4) d 2001) hu ?_ (fun u' eu => ?_)
          · show f_X5_both (nI c) a2 (nI c') a4 u = _
            rw [hC0, if_pos v]
            have h := l_bothC (a := a2) (b := a4) (show c < 6 by omega) (show c' < 6 by omega) hd h20 2001 0 2100 (by omega) (by omega)
            rw [e0] at h
            exact h
          · show f_X6_both (nI c) a2 (nI c') a4 u' = _
            rw [hM0 u' eu, if_pos v]
            have h := l_bothM (a := a2) (b := a4) (u := u') hc hc' hd (by rw [eu]; exact h2) (by rw [eu]; exact hG) 2001 0 2100 (by omega) (by omega)
            rw [eu] at h
            exact h
        · refine fin_fd (f := fun u => f_X5_both (nI c) a2 (nI c') a4 u) (g := fun u => f_X6_both (nI c) a2 (nI c') a4 u) hu (k := 0) (by decide) (x := -1000000001) ?_ (fun u' eu => ?_)
          · show f_X5_both (nI c) a2 (nI c') a4 u = _
            rw [hC0, if_neg v]
          · show f_X6_both (nI c) a2 (nI c') a4 u' = _
            rw [hM0 u' eu, if_neg v]
