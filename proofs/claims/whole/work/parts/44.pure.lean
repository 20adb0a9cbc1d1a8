/-! PURE 5: set, turn, as, date, calendar, law -/
theorem L0 : (0 : Int64) = (0 : Int32).toInt64 := rfl
theorem L1 : (1 : Int64) = (1 : Int32).toInt64 := rfl
theorem L2 : (2 : Int64) = (2 : Int32).toInt64 := rfl
theorem L3 : (3 : Int64) = (3 : Int32).toInt64 := rfl
theorem L4 : (4 : Int64) = (4 : Int32).toInt64 := rfl
theorem L5 : (5 : Int64) = (5 : Int32).toInt64 := rfl
theorem L6 : (6 : Int64) = (6 : Int32).toInt64 := rfl
theorem L50 : (50 : Int64) = (50 : Int32).toInt64 := rfl
theorem L60 : (60 : Int64) = (60 : Int32).toInt64 := rfl
theorem L99 : (99 : Int64) = (99 : Int32).toInt64 := rfl
theorem L100 : (100 : Int64) = (100 : Int32).toInt64 := rfl
theorem L400 : (400 : Int64) = (400 : Int32).toInt64 := rfl
theorem L9999 : (9999 : Int64) = (9999 : Int32).toInt64 := rfl
theorem L99999 : (99999 : Int64) = (99999 : Int32).toInt64 := rfl
theorem Lm1 : (-1 : Int64) = (-1 : Int32).toInt64 := rfl
theorem p_isPart_in {j : Nat} (hj : 1 ≤ j ∧ j < 5) (v : Int32) (u : Uw) : f_X6_isPart (nI j) v u = some (decide (tbv 0 j ≤ v ∧ v ≤ tbv 1 j), u) := by
  unfold f_X6_isPart
  rcases (show j = 1 ∨ j = 2 ∨ j = 3 ∨ j = 4 by omega) with rfl | rfl | rfl | rfl
  · rw [if_neg (by decide), if_neg (by decide), if_pos (by decide), L0, L99, p_in, bd_eq, ite_bool]; rfl
  · rw [if_pos (by decide), L1, L60, p_in, bd_eq]; rfl
  · rw [if_neg (by decide), if_neg (by decide), if_neg (by decide), if_pos (by decide), L0, L99, p_in, bd_eq, ite_bool]; rfl
  · rw [if_neg (by decide), if_pos (by decide), L0, L9999, p_in, bd_eq]; rfl
theorem p_isPart_out {x : Int32} (h : x ≠ 1 ∧ x ≠ 2 ∧ x ≠ 3 ∧ x ≠ 4) (v : Int32) (u : Uw) : f_X6_isPart x v u = some (false, u) := by
  unfold f_X6_isPart
  rw [if_neg h.2.1, if_neg h.2.2.2, if_neg h.1, if_neg h.2.2.1]
theorem out_ne {x : Int32} (h : x < 0 ∨ nI 5 ≤ x) : x ≠ 0 ∧ x ≠ 1 ∧ x ≠ 2 ∧ x ≠ 3 ∧ x ≠ 4 := by
  refine ⟨?_, ?_, ?_, ?_, ?_⟩ <;> (rintro rfl; rcases h with h | h <;> exact absurd h (by decide))
theorem ix50 (c : Nat) : (7 : Int32) + 5 * nI c + 0 = nI (7 + 5 * c) := ix5 c 0
section Calls2
theorem st_set (a1 a2 a3 : Int32) : StepT Rel (fun u => f_X5_set a1 a2 a3 u) (fun u => f_X6_set a1 a2 a3 u) := by
  intro u hu
  obtain ⟨e0, ⟨m, p, w, d, t, hG, h2, hd, h4, ht⟩, -⟩ := id hu
  obtain ⟨hm, hm6, -⟩ := id hG
  have hm0 : u.1 0 0 = nI m := by rw [e0]; exact hm
  have out : (a1 < 0 ∨ nI m ≤ a1) → ∃ r u1 u2, f_X5_set a1 a2 a3 u = some (r, u1) ∧ f_X6_set a1 a2 a3 u1 = some (r, u2) ∧ Rel u2 := fun h => by
    refine fin_fd (f := fun u => f_X5_set a1 a2 a3 u) (g := fun u => f_X6_set a1 a2 a3 u) hu (k := 0) (by decide) (x := -1000000001) ?_ (fun u' e => ?_)
    · simp only [f_X5_set, q_calAt_out hm0 h, bd_eq, ro_none, c0]
    · simp only [f_X6_set, p_isCal_out (u := u') (by rw [e]; exact hm) hm6 h, bd_eq, m0, Bool.false_eq_true, if_false]
  rcases pk_ix a1 (n := m) (by omega) with h | h | ⟨c, hc, rfl⟩
  · exact out (Or.inl h)
  · exact out (Or.inr h)
  · have hc6 : c < 6 := by omega
    have out2 : (a2 < 0 ∨ nI 5 ≤ a2) → ∃ r u1 u2, f_X5_set (nI c) a2 a3 u = some (r, u1) ∧ f_X6_set (nI c) a2 a3 u1 = some (r, u2) ∧ Rel u2 := fun h => by
      have hn := out_ne h
      refine fin_fd (f := fun u => f_X5_set (nI c) a2 a3 u) (g := fun u => f_X6_set (nI c) a2 a3 u) hu (k := 0) (by decide) (x := -1000000001) ?_ (fun u' e => ?_)
      · simp only [f_X5_set, q_calAt_in hm0 hm6 hc, bd_eq, ro_some, if_neg hn.1, p_allows_out h, c0, Bool.false_eq_true, if_false]
      · simp only [f_X6_set, p_isCal_in (u := u') (by rw [e]; exact hm) hm6 hc, bd_eq, p_isPart_out hn.2, m0, Bool.false_eq_true, if_false, if_true]
    rcases pk_ix a2 (n := 5) (by decide) with h | h | ⟨j, hj, rfl⟩
    · exact out2 (Or.inl h)
    · exact out2 (Or.inr h)
    · by_cases hj0 : j = 0
      · subst hj0
        refine fin_fd hu (k := 0) (by decide) (x := -1000000001) ?_ (fun u' e => ?_)
        · simp only [f_X5_set, q_calAt_in hm0 hm6 hc, bd_eq, ro_some, if_pos (show nI 0 = 0 from rfl), c0]
        · simp only [f_X6_set, p_isCal_in (u := u') (by rw [e]; exact hm) hm6 hc, bd_eq, p_isPart_out (x := nI 0) (by decide), m0, Bool.false_eq_true, if_false, if_true]
      · have hne : ¬ nI j = 0 := nI_ne0 (by omega) (by omega)
        by_cases hv : tbv 0 j ≤ a3 ∧ a3 ≤ tbv 1 j
        · refine fin_s hu (Good.cal hG h2 hd h4 ht hc hj hv) (x := u.1 20 (7 + 5 * c + j)) ?_ (fun u' e => ?_)
          · simp only [f_X5_set, q_calAt_in hm0 hm6 hc, bd_eq, ro_some, if_neg hne, p_allows_in hj, decide_eq_true hv, if_true, ck_pos (q_cal hc6).1, p_change (q_cal hc6) hj hv, e0]
          · simp only [f_X6_set, p_isCal_in (u := u') (by rw [e]; exact hm) hm6 hc, bd_eq, p_isPart_in (show 1 ≤ j ∧ j < 5 by omega), decide_eq_true hv, if_true, ix5, p_becomes (show 7 + 5 * c + j < 61 by omega), e]
        · refine fin_fd hu (k := 0) (by decide) (x := -1000000001) ?_ (fun u' e => ?_)
          · simp only [f_X5_set, q_calAt_in hm0 hm6 hc, bd_eq, ro_some, if_neg hne, p_allows_in hj, decide_eq_false hv, c0, Bool.false_eq_true, if_false]
          · simp only [f_X6_set, p_isCal_in (u := u') (by rw [e]; exact hm) hm6 hc, bd_eq, p_isPart_in (show 1 ≤ j ∧ j < 5 by omega), decide_eq_false hv, m0, Bool.false_eq_true, if_false, if_true]
theorem q_allows0 (v : Int32) (u : Uw) : f_X0_allows 0 v u = some (decide (0 ≤ v ∧ v ≤ 5), u) := p_allows_in (j := 0) (by decide) v u
theorem q_change0 {e r o : Nat} (h : CalAt e r o) {v : Int32} (hv : 0 ≤ v ∧ v ≤ 5) (u : Uw) : f_X0_change e 0 v u = some (u.1 r o, sR u r (upd (u.1 r) o v)) := p_change (j := 0) h (by decide) hv u
theorem q_value1 {e r o : Nat} (h : CalAt e r o) (u : Uw) : f_X0_value e 1 u = some (u.1 r (o + 1), u) := p_value (j := 1) h (by decide) u
theorem st_turn (a1 a2 : Int32) : StepT Rel (fun u => f_X5_turn a1 a2 u) (fun u => f_X6_turn a1 a2 u) := by
  intro u hu
  obtain ⟨e0, ⟨m, p, w, d, t, hG, h2, hd, h4, ht⟩, -⟩ := id hu
  obtain ⟨hm, hm6, -⟩ := id hG
  have hm0 : u.1 0 0 = nI m := by rw [e0]; exact hm
  have out : (a1 < 0 ∨ nI m ≤ a1) → ∃ r u1 u2, f_X5_turn a1 a2 u = some (r, u1) ∧ f_X6_turn a1 a2 u1 = some (r, u2) ∧ Rel u2 := fun h => by
    refine fin_fd (f := fun u => f_X5_turn a1 a2 u) (g := fun u => f_X6_turn a1 a2 u) hu (k := 0) (by decide) (x := -1000000001) ?_ (fun u' e => ?_)
    · simp only [f_X5_turn, q_calAt_out hm0 h, bd_eq, ro_none, c0]
    · simp only [f_X6_turn, p_isCal_out (u := u') (by rw [e]; exact hm) hm6 h, bd_eq, m0, Bool.false_eq_true, if_false]
  rcases pk_ix a1 (n := m) (by omega) with h | h | ⟨c, hc, rfl⟩
  · exact out (Or.inl h)
  · exact out (Or.inr h)
  · have hc6 : c < 6 := by omega
    by_cases hv : 0 ≤ a2 ∧ a2 ≤ 5
    · refine fin_s hu (Good.cal (j := 0) hG h2 hd h4 ht hc (by decide) hv) (x := u.1 20 (7 + 5 * c)) ?_ (fun u' e => ?_)
      · simp only [f_X5_turn, q_calAt_in hm0 hm6 hc, bd_eq, ro_some, q_allows0, decide_eq_true hv, if_true, ck_pos (q_cal hc6).1, q_change0 (q_cal hc6) hv, e0, Nat.add_zero]
      · simp only [f_X6_turn, p_isCal_in (u := u') (by rw [e]; exact hm) hm6 hc, bd_eq, p_isKind, decide_eq_true hv, if_true, ix50, p_becomes (show 7 + 5 * c < 61 by omega), e, Nat.add_zero]
    · refine fin_fd hu (k := 0) (by decide) (x := -1000000001) ?_ (fun u' e => ?_)
      · simp only [f_X5_turn, q_calAt_in hm0 hm6 hc, bd_eq, ro_some, q_allows0, decide_eq_false hv, c0, Bool.false_eq_true, if_false]
      · simp only [f_X6_turn, p_isCal_in (u := u') (by rw [e]; exact hm) hm6 hc, bd_eq, p_isKind, decide_eq_false hv, m0, Bool.false_eq_true, if_false, if_true]
def ofK (own k : Int32) : Bool := decide (own = k) || decide (k = 0) || (decide (own = 4) && decide (k = 2)) || (decide (own = 5) && decide (k = 1))
theorem p_isOfKind {e r o : Nat} (h : CalAt e r o) (k : Int32) (u : Uw) : f_X0_isOfKind e k u = some (ofK (u.1 r o) k, u) := by
  obtain ⟨h1, h2, h3, h4, h5⟩ := h
  unfold f_X0_isOfKind ofK
  simp only [ck_pos h1, ck_pos h2, h3, h4, h5, ck_pos ib0, nm_eq, tn0, Nat.add_zero]
  repeat' split
  all_goals simp_all
theorem p_isUnder (own k : Int32) (u : Uw) : f_X6_isUnder own k u = some (ofK own k, u) := by
  unfold f_X6_isUnder ofK
  repeat' split
  all_goals simp_all
theorem st_as (a1 a2 : Int32) : StepT Rel (fun u => f_X5_as a1 a2 u) (fun u => f_X6_as a1 a2 u) := by
  intro u hu
  obtain ⟨e0, ⟨m, p, w, d, t, hG, h2, hd, h4, ht⟩, -⟩ := id hu
  obtain ⟨hm, hm6, -⟩ := id hG
  have hm0 : u.1 0 0 = nI m := by rw [e0]; exact hm
  have out : (a1 < 0 ∨ nI m ≤ a1) → ∃ r u1 u2, f_X5_as a1 a2 u = some (r, u1) ∧ f_X6_as a1 a2 u1 = some (r, u2) ∧ Rel u2 := fun h => by
    refine fin_fd (f := fun u => f_X5_as a1 a2 u) (g := fun u => f_X6_as a1 a2 u) hu (k := 0) (by decide) (x := -1000000001) ?_ (fun u' e => ?_)
    · simp only [f_X5_as, q_calAt_out hm0 h, bd_eq, ro_none, c0]
    · simp only [f_X6_as, p_isCal_out (u := u') (by rw [e]; exact hm) hm6 h, bd_eq, m0, Bool.false_eq_true, if_false]
  rcases pk_ix a1 (n := m) (by omega) with h | h | ⟨c, hc, rfl⟩
  · exact out (Or.inl h)
  · exact out (Or.inr h)
  · have hc6 : c < 6 := by omega
    have hi0 : ∀ u' : Uw, f_X6_its (nI c) 0 u' = some (u'.1 20 (7 + 5 * c), u') := fun u' => p_its (k := 0) hc6 (by decide) rfl
    have hi1 : ∀ u' : Uw, f_X6_its (nI c) 1 u' = some (u'.1 20 (7 + 5 * c + 1), u') := fun u' => p_its (k := 1) hc6 (by decide) rfl
    by_cases hv : 0 ≤ a2 ∧ a2 ≤ 5
    · cases hk : ofK (u.1 20 (7 + 5 * c)) a2 with
      | true =>
        refine fin_p hu (x := u.1 20 (7 + 5 * c + 1)) ?_ ?_
        · simp only [f_X5_as, q_calAt_in hm0 hm6 hc, bd_eq, ro_some, q_allows0, decide_eq_true hv, if_true, ck_pos (q_cal hc6).1, p_isOfKind (q_cal hc6), q_value1 (q_cal hc6), e0, hk]
        · simp only [f_X6_as, p_isCal_in hm hm6 hc, bd_eq, p_isKind, decide_eq_true hv, if_true, hi0, hi1, p_isUnder, hk]
      | false =>
        refine fin_fd hu (k := 2) (by decide) (x := -1000000003) ?_ (fun u' e => ?_)
        · simp only [f_X5_as, q_calAt_in hm0 hm6 hc, bd_eq, ro_some, q_allows0, decide_eq_true hv, if_true, ck_pos (q_cal hc6).1, p_isOfKind (q_cal hc6), e0, hk, Bool.false_eq_true, if_false, c2]
        · simp only [f_X6_as, p_isCal_in (u := u') (by rw [e]; exact hm) hm6 hc, bd_eq, p_isKind, decide_eq_true hv, if_true, hi0, p_isUnder, e, hk, Bool.false_eq_true, if_false, m2]
    · refine fin_fd hu (k := 0) (by decide) (x := -1000000001) ?_ (fun u' e => ?_)
      · simp only [f_X5_as, q_calAt_in hm0 hm6 hc, bd_eq, ro_some, q_allows0, decide_eq_false hv, c0, Bool.false_eq_true, if_false]
      · simp only [f_X6_as, p_isCal_in (u := u') (by rw [e]; exact hm) hm6 hc, bd_eq, p_isKind, decide_eq_false hv, m0, Bool.false_eq_true, if_false, if_true]
theorem st_date (a1 a2 a3 : Int32) : StepT Rel (fun u => f_X5_date a1 a2 a3 u) (fun u => f_X6_date a1 a2 a3 u) := by
  intro u hu
  obtain ⟨e0, ⟨m, p, w, d, t, hG, h2, hd, h4, ht⟩, -⟩ := id hu
  have hl := hG.len
  obtain ⟨hm, hm6, -⟩ := id hG
  have hm0 : u.1 0 0 = nI m := by rw [e0]; exact hm
  have out : (a1 < 0 ∨ nI m ≤ a1) → ∃ r u1 u2, f_X5_date a1 a2 a3 u = some (r, u1) ∧ f_X6_date a1 a2 a3 u1 = some (r, u2) ∧ Rel u2 := fun h => by
    refine fin_fd (f := fun u => f_X5_date a1 a2 a3 u) (g := fun u => f_X6_date a1 a2 a3 u) hu (k := 0) (by decide) (x := -1000000001) ?_ (fun u' e => ?_)
    · simp only [f_X5_date, q_calAt_out hm0 h, bd_eq, ro_none, c0]
    · simp only [f_X6_date, p_isCal_out (u := u') (by rw [e]; exact hm) hm6 h, bd_eq, m0, Bool.false_eq_true, if_false]
  rcases pk_ix a1 (n := m) (by omega) with h | h | ⟨c, hc, rfl⟩
  · exact out (Or.inl h)
  · exact out (Or.inr h)
  · have hc6 : c < 6 := by omega
    by_cases hv : 0 ≤ a2 ∧ a2 ≤ 99999
    · by_cases hw : 0 ≤ a3 ∧ a3 ≤ 3
      · have hC : f_X5_date (nI c) a2 a3 u = some ((if a3 = 0 then dateF (row5 (u.1 20) (7 + 5 * c)) a2 else if a3 = 1 then monthF (row5 (u.1 20) (7 + 5 * c)) a2 else if a3 = 2 then bI (holyF (row5 (u.1 20) (7 + 5 * c)) a2) else runsF (row5 (u.1 20) (7 + 5 * c)) a2), u) := by
          simp only [f_X5_date, q_calAt_in hm0 hm6 hc, bd_eq, ro_some, p_within, decide_eq_true hv, decide_eq_true hw, if_true, nm_eq, ck_pos (q_cal hc6).1, p_X0_dateAt (q_cal hc6), p_X0_monthAt (q_cal hc6), p_X0_isHoly (q_cal hc6), p_X0_runsAt (q_cal hc6), e0]
          split
          · rfl
          · split
            · rfl
            · split
              · cases holyF (row5 (u.1 20) (7 + 5 * c)) a2 <;> rfl
              · rfl
        have hM : f_X6_date (nI c) a2 a3 u = some ((if a3 = 0 then dateF (row5 (u.1 20) (7 + 5 * c)) a2 else if a3 = 1 then monthF (row5 (u.1 20) (7 + 5 * c)) a2 else if a3 = 2 then bI (holyF (row5 (u.1 20) (7 + 5 * c)) a2) else runsF (row5 (u.1 20) (7 + 5 * c)) a2), u) := by
          simp only [f_X6_date, p_isCal_in hm hm6 hc, bd_eq, L0, L99999, L3, p_in, decide_eq_true hv, decide_eq_true hw, if_true, nm_eq, p_dateOf hc6 (hl c hc), p_monthOf hc6 (hl c hc), p_isHoly hm hm6 hl, hb_in hm hm6 hc, p_runs hc6 (hl c hc)]
          split
          · rfl
          · split
            · rfl
            · split
              · cases holyF (row5 (u.1 20) (7 + 5 * c)) a2 <;> rfl
              · rfl
        exact fin_p (f := fun u => f_X5_date (nI c) a2 a3 u) (g := fun u => f_X6_date (nI c) a2 a3 u) hu hC hM
      · refine fin_fd hu (k := 0) (by decide) (x := -1000000001) ?_ (fun u' e => ?_)
        · simp only [f_X5_date, q_calAt_in hm0 hm6 hc, bd_eq, ro_some, p_within, decide_eq_true hv, decide_eq_false hw, if_true, c0, Bool.false_eq_true, if_false]
        · simp only [f_X6_date, p_isCal_in (u := u') (by rw [e]; exact hm) hm6 hc, bd_eq, L0, L99999, L3, p_in, decide_eq_true hv, decide_eq_false hw, m0, Bool.false_eq_true, if_false, if_true]
    · refine fin_fd hu (k := 0) (by decide) (x := -1000000001) ?_ (fun u' e => ?_)
      · simp only [f_X5_date, q_calAt_in hm0 hm6 hc, bd_eq, ro_some, p_within, decide_eq_false hv, c0, Bool.false_eq_true, if_false]
      · simp only [f_X6_date, p_isCal_in (u := u') (by rw [e]; exact hm) hm6 hc, bd_eq, L0, L99999, p_in, decide_eq_false hv, m0, Bool.false_eq_true, if_false, if_true]
end Calls2
