/-! PURE 6: calendar, law, pilgrim, about, mind, drink, bathe -/
theorem s0t : (kT 0 == 3) = true := sp_t 0 (by decide)
theorem s0a : (kT (0 + 1) == 13) = true := sp_1 0 (by decide)
theorem s0b : (kT (0 + 2) == 14) = true := sp_2 0 (by decide)
theorem s0a' : (kT 1 == 13) = true := sp_1 0 (by decide)
theorem s0b' : (kT 2 == 14) = true := sp_2 0 (by decide)
theorem s0r : kR 0 = 0 := sp_r 0 (by decide)
theorem s0o : kO 0 = 0 := sp_o 0 (by decide)
theorem cp1_sR {u : Uw} {f : Nat → Int32} {r k n : Nat} : cp1 u f r k n = sR u r (fun b => if k ≤ b ∧ b < k + n then f (b - k) else u.1 r b) := by
  unfold cp1 sR
  simp only [Prod.mk.injEq, and_true]
  funext a b
  by_cases h : a = r
  · subst h; simp
  · simp [h]
theorem p_startAs {e r o : Nat} (h : CalAt e r o) (k : Int32) (u : Uw) : f_X0_startAs e k u = some ((), sR u r (upd (fun b => if o ≤ b ∧ b < o + 5 then tbv 2 (b - o) else u.1 r b) o k)) := by
  obtain ⟨h1, h2, h3, h4, h5⟩ := h
  unfold f_X0_startAs
  simp only [ck_pos h1, ck_pos h2, h3, h4, h5, ck_pos (show decide (5 ≤ 5) = true from rfl), ck_pos ib0, nm_eq, tn0, Nat.add_zero, cp1_sR, w1_sR, sR_sR, sR_same]
def addS (s : Nat → Int32) (m : Nat) (k : Int32) : Nat → Int32 := upd (upd (upd (upd (upd (upd s (7 + 5 * m) k) (7 + 5 * m + 1) 0) (7 + 5 * m + 2) 30) (7 + 5 * m + 3) 11) (7 + 5 * m + 4) 50) 0 (nI (m + 1))
theorem addS_eq {s : Nat → Int32} {m : Nat} {k : Int32} : upd (upd (fun b => if 7 + 5 * m ≤ b ∧ b < 7 + 5 * m + 5 then tbv 2 (b - (7 + 5 * m)) else s b) (7 + 5 * m) k) 0 (nI (m + 1)) = addS s m k := by
  unfold addS
  congr 1
  funext j
  simp only [upd]
  by_cases e0 : j = 7 + 5 * m
  · rw [if_pos e0, if_neg (by omega), if_neg (by omega), if_neg (by omega), if_neg (by omega), if_pos e0]
  · rw [if_neg e0]
    by_cases e : 7 + 5 * m ≤ j ∧ j < 7 + 5 * m + 5
    · rw [if_pos e]
      rcases (show j = 7 + 5 * m + 1 ∨ j = 7 + 5 * m + 2 ∨ j = 7 + 5 * m + 3 ∨ j = 7 + 5 * m + 4 by omega) with rfl | rfl | rfl | rfl
      · rw [if_neg (by omega), if_neg (by omega), if_neg (by omega), if_pos rfl, show 7 + 5 * m + 1 - (7 + 5 * m) = 1 by omega]; rfl
      · rw [if_neg (by omega), if_neg (by omega), if_pos rfl, show 7 + 5 * m + 2 - (7 + 5 * m) = 2 by omega]; rfl
      · rw [if_neg (by omega), if_pos rfl, show 7 + 5 * m + 3 - (7 + 5 * m) = 3 by omega]; rfl
      · rw [if_pos rfl, show 7 + 5 * m + 4 - (7 + 5 * m) = 4 by omega]; rfl
    · rw [if_neg e, if_neg (by omega), if_neg (by omega), if_neg (by omega), if_neg (by omega), if_neg (by omega)]
/-- a spring's new calendar -/
theorem p_addCal {r : Nat} (hr : r < 3) {m : Nat} {u : Uw} (hm : u.1 r 0 = nI m) (hm6 : m < 6) (k : Int32) : f_X3_addCalendar (23 * r) k u = some ((), sR u r (addS (u.1 r) m k)) := by
  unfold f_X3_addCalendar
  rw [ck_pos (sp_t r hr), ck_pos (sp_1 r hr), sp_r r hr, sp_o r hr, Nat.zero_add, hm, if_neg (show ¬ (6 : Int32) ≤ nI m from nI_ge (b := 6) hm6 (by decide)), ck_pos (inb_nI hm6 (by decide)), nm_eq, nI_clamp (by omega), cc_eq, ck_pos (cal_at hr hm6).1, p_startAs (cal_at hr hm6), bd_eq, nm_eq, w1_sR, sR_sR, sR_same, upd_ne (show 0 ≠ 7 + 5 * m by omega), if_neg (show ¬ (7 + 5 * m ≤ 0 ∧ 0 < 7 + 5 * m + 5) by omega), hm, nI_1, addS_eq]
theorem p_adds {m : Nat} {u : Uw} (hm : u.1 20 0 = nI m) (hm6 : m < 6) (k : Int32) : f_X6_adds k u = some (nI m, sR u 20 (addS (u.1 20) m k)) := by
  unfold f_X6_adds
  have e5 : (7 : Int32) + 5 * nI m = nI (7 + 5 * m) := by
    rw [show (7 : Int32) = nI 7 from rfl, show (5 : Int32) = nI 5 from rfl, pk_mul, nI_add]
  simp only [tn0, nm_eq, hm, e5, show (0 : Int32) = nI 0 from rfl, show (1 : Int32) = nI 1 from rfl, show (2 : Int32) = nI 2 from rfl, show (3 : Int32) = nI 3 from rfl, show (4 : Int32) = nI 4 from rfl, nI_add, ck_pos (inb_nI (show 7 + 5 * m < 61 by omega) (by decide)), ck_pos (inb_nI (show 7 + 5 * m + 1 < 61 by omega) (by decide)), ck_pos (inb_nI (show 7 + 5 * m + 2 < 61 by omega) (by decide)), ck_pos (inb_nI (show 7 + 5 * m + 3 < 61 by omega) (by decide)), ck_pos (inb_nI (show 7 + 5 * m + 4 < 61 by omega) (by decide)), nI_clamp (show 7 + 5 * m < 2 ^ 31 by omega), nI_clamp (show 7 + 5 * m + 1 < 2 ^ 31 by omega), nI_clamp (show 7 + 5 * m + 2 < 2 ^ 31 by omega), nI_clamp (show 7 + 5 * m + 3 < 2 ^ 31 by omega), nI_clamp (show 7 + 5 * m + 4 < 2 ^ 31 by omega), nI_clamp (show 0 < 2 ^ 31 by omega), w1_sR, sR_sR, sR_same, Nat.add_zero]
  rw [upd_ne (show 0 ≠ 7 + 5 * m + 4 by omega), upd_ne (show 0 ≠ 7 + 5 * m + 3 by omega), upd_ne (show 0 ≠ 7 + 5 * m + 2 by omega), upd_ne (show 0 ≠ 7 + 5 * m + 1 by omega), upd_ne (show 0 ≠ 7 + 5 * m by omega), hm, nI_add, upd_at, pk_sub (by omega)]
  rfl
theorem Ps.up {m : Nat} {t : Tr} (h : Ps m t) : Ps (m + 1) t := ⟨h.1, h.2.1.imp id (fun ⟨c, hc, e⟩ => ⟨c, by omega, e⟩), h.2.2⟩
theorem GdW.add {s : Nat → Int32} {m p w : Nat} (h : GdW s m p w) (hm : m < 6) {k : Int32} (hk : 0 ≤ k ∧ k ≤ 5) : GdW (addS s m k) (m + 1) p w := by
  obtain ⟨a1, a2, a3, a4, a5, a6, a7, a8, a9, a10⟩ := h
  have e : ∀ j, j ≠ 0 → (j < 7 + 5 * m ∨ 7 + 5 * m + 4 < j) → addS s m k j = s j := fun j h0 h1 => by
    unfold addS
    rw [upd_ne h0, upd_ne (by omega), upd_ne (by omega), upd_ne (by omega), upd_ne (by omega), upd_ne (by omega)]
  refine ⟨upd_at, by omega, by rw [e 1 (by decide) (by omega)]; exact a3, a4, by rw [e 3 (by decide) (by omega)]; exact a5, a6, by rw [e 5 (by decide) (by omega)]; exact a7, by rw [e 6 (by decide) (by omega)]; exact a8, fun c hc => ?_, fun q hq => ?_⟩
  · by_cases hcm : c = m
    · subst hcm
      obtain ⟨x, -, hx, ek⟩ := nI_rng 0 5 (by decide) hk.1 hk.2 (by decide)
      refine ⟨⟨x, hx, ?_⟩, ⟨0, by decide, ?_⟩, ⟨30, by decide, by decide, ?_⟩, ⟨11, by decide, ?_⟩, ⟨50, by decide, ?_⟩⟩
      · show addS s c k (7 + 5 * c + 0) = _
        unfold addS
        rw [upd_ne (by omega), upd_ne (by omega), upd_ne (by omega), upd_ne (by omega), upd_ne (by omega), Nat.add_zero, upd_at, ek]
      · show addS s c k (7 + 5 * c + 1) = _
        unfold addS
        rw [upd_ne (by omega), upd_ne (by omega), upd_ne (by omega), upd_ne (by omega), upd_at]; rfl
      · show addS s c k (7 + 5 * c + 2) = _
        unfold addS
        rw [upd_ne (by omega), upd_ne (by omega), upd_ne (by omega), upd_at]; rfl
      · show addS s c k (7 + 5 * c + 3) = _
        unfold addS
        rw [upd_ne (by omega), upd_ne (by omega), upd_at]; rfl
      · show addS s c k (7 + 5 * c + 4) = _
        unfold addS
        rw [upd_ne (by omega), upd_at]; rfl
    · have h9 := a9 c (by omega)
      unfold CalOk row5 at h9 ⊢
      rw [e (7 + 5 * c + 0) (by omega) (by omega), e (7 + 5 * c + 1) (by omega) (by omega), e (7 + 5 * c + 2) (by omega) (by omega), e (7 + 5 * c + 3) (by omega) (by omega), e (7 + 5 * c + 4) (by omega) (by omega)]
      exact h9
  · have h10 := (a10 q hq).up
    unfold getT at h10 ⊢
    rw [e _ (by omega) (by omega), e _ (by omega) (by omega), e _ (by omega) (by omega)]
    exact h10
section Calls3
theorem st_calendar (a1 : Int32) : StepT Rel (fun u => f_X5_calendar a1 u) (fun u => f_X6_calendar a1 u) := by
  intro u hu
  obtain ⟨e0, ⟨m, p, w, d, t, hG, h2, hd, h4, ht⟩, -⟩ := id hu
  obtain ⟨hm, hm6, -⟩ := id hG
  have hm0 : u.1 0 0 = nI m := by rw [e0]; exact hm
  by_cases hv : 0 ≤ a1 ∧ a1 ≤ 5
  · by_cases h6 : m < 6
    · have hg : Good (addS (u.1 20) m a1) := ⟨m + 1, p, w, d, t, hG.add h6 hv, by unfold addS; rw [upd_ne (by omega), upd_ne (by omega), upd_ne (by omega), upd_ne (by omega), upd_ne (by omega), upd_ne (by omega)]; exact h2, hd, by unfold addS; rw [upd_ne (by omega), upd_ne (by omega), upd_ne (by omega), upd_ne (by omega), upd_ne (by omega), upd_ne (by omega)]; exact h4, ht⟩
      have hadd : f_X3_addCalendar 0 a1 u = some ((), sR u 0 (addS (u.1 20) m a1)) := by
        have := p_addCal (r := 0) (by decide) hm0 h6 a1
        rw [e0] at this
        exact this
      refine fin_s hu hg (x := nI m) ?_ (fun u' e => ?_)
      · simp only [f_X5_calendar, q_allows0, bd_eq, decide_eq_true hv, if_true, hm0, if_pos (show nI m < (6 : Int32) from nI_lt (b := 6) h6 (by decide)), hadd, sR_same]
        rw [show addS (u.1 20) m a1 0 = nI (m + 1) from upd_at, nI_pred]
      · simp only [f_X6_calendar, p_isKind, bd_eq, decide_eq_true hv, if_true, tn0, nm_eq, e, hm, if_neg (show ¬ nI m = (6 : Int32) from fun z => by have := (nI_eq (a := m) (b := 6) (by omega) (by decide)).mp z; omega), p_adds (u := u') (by rw [e]; exact hm) h6]
    · have hm66 : m = 6 := by omega
      subst hm66
      refine fin_fd hu (k := 1) (by decide) (x := -1000000002) ?_ (fun u' e => ?_)
      · simp only [f_X5_calendar, q_allows0, bd_eq, decide_eq_true hv, if_true, hm0, if_neg (show ¬ nI 6 < (6 : Int32) by decide), c1]
      · simp only [f_X6_calendar, p_isKind, bd_eq, decide_eq_true hv, if_true, tn0, nm_eq, e, hm, if_pos (show nI 6 = (6 : Int32) from rfl), m1]
  · refine fin_fd hu (k := 0) (by decide) (x := -1000000001) ?_ (fun u' e => ?_)
    · simp only [f_X5_calendar, q_allows0, bd_eq, decide_eq_false hv, c0, Bool.false_eq_true, if_false]
    · simp only [f_X6_calendar, p_isKind, bd_eq, decide_eq_false hv, m0, Bool.false_eq_true, if_false]
theorem GdW.sc {s : Nat → Int32} {m p w : Nat} (h : GdW s m p w) {k : Nat} (hk : k = 2 ∨ k = 4) (v : Int32) : GdW (upd s k v) m p w := by
  obtain ⟨a1, a2, a3, a4, a5, a6, a7, a8, a9, a10⟩ := h
  refine ⟨by rw [upd_ne (by omega)]; exact a1, a2, by rw [upd_ne (by omega)]; exact a3, a4, by rw [upd_ne (by omega)]; exact a5, a6, by rw [upd_ne (by omega)]; exact a7, by rw [upd_ne (by omega)]; exact a8, fun c hc => ?_, fun q hq => ?_⟩
  · have h9 := a9 c hc
    unfold CalOk row5 at h9 ⊢
    rw [upd_ne (by omega), upd_ne (by omega), upd_ne (by omega), upd_ne (by omega), upd_ne (by omega)]
    exact h9
  · have h10 := a10 q hq
    unfold getT at h10 ⊢
    rw [upd_ne (by omega), upd_ne (by omega), upd_ne (by omega)]
    exact h10
theorem GdW.pw {s : Nat → Int32} {m p w : Nat} (h : GdW s m p w) {v : Nat} (hv : 1 ≤ v ∧ v ≤ 50) : GdW (upd s 3 (nI v)) m p v := by
  obtain ⟨a1, a2, a3, a4, a5, a6, a7, a8, a9, a10⟩ := h
  refine ⟨by rw [upd_ne (by omega)]; exact a1, a2, by rw [upd_ne (by omega)]; exact a3, a4, upd_at, hv, by rw [upd_ne (by omega)]; exact a7, by rw [upd_ne (by omega)]; exact a8, fun c hc => ?_, fun q hq => ?_⟩
  · have h9 := a9 c hc
    unfold CalOk row5 at h9 ⊢
    rw [upd_ne (by omega), upd_ne (by omega), upd_ne (by omega), upd_ne (by omega), upd_ne (by omega)]
    exact h9
  · have h10 := a10 q hq
    unfold getT at h10 ⊢
    rw [upd_ne (by omega), upd_ne (by omega), upd_ne (by omega)]
    exact h10
theorem q_bec3 (v : Int32) (u : Uw) : f_X6_becomes 3 v u = some (u.1 20 3, sR u 20 (upd (u.1 20) 3 v)) := p_becomes (k := 3) (by decide) v u
theorem q_bec4 (v : Int32) (u : Uw) : f_X6_becomes 4 v u = some (u.1 20 4, sR u 20 (upd (u.1 20) 4 v)) := p_becomes (k := 4) (by decide) v u
theorem st_law (a1 a2 : Int32) : StepT Rel (fun u => f_X5_law a1 a2 u) (fun u => f_X6_law a1 a2 u) := by
  intro u hu
  obtain ⟨e0, ⟨m, p, w, d, t, hG, h2, hd, h4, ht⟩, -⟩ := id hu
  by_cases ha : a1 = 0
  · subst ha
    by_cases hv : 1 ≤ a2 ∧ a2 ≤ 50
    · obtain ⟨x, hx1, hx2, rfl⟩ := nI_rng 1 50 (by decide) hv.1 hv.2 (by decide)
      refine fin_s hu (s := upd (u.1 20) 3 (nI x)) ⟨m, p, x, d, t, hG.pw ⟨hx1, hx2⟩, by rw [upd_ne (by decide)]; exact h2, hd, by rw [upd_ne (by decide)]; exact h4, ht⟩ (x := u.1 20 3) ?_ (fun u' e => ?_)
      · simp only [f_X5_law, if_true, p_within, bd_eq, decide_eq_true hv, nm_eq, w1_sR, e0]
      · simp only [f_X6_law, if_true, L1, L50, p_in, bd_eq, decide_eq_true hv, show bI true = 1 from rfl, if_neg (show ¬ (1 : Int32) = 0 by decide), q_bec3, e]
    · refine fin_fd hu (k := 0) (by decide) (x := -1000000001) ?_ (fun u' e => ?_)
      · simp only [f_X5_law, if_true, p_within, bd_eq, decide_eq_false hv, Bool.false_eq_true, if_false, if_neg (show ¬ (0 : Int32) = 1 by decide), c0]
      · simp only [f_X6_law, if_true, L1, L50, p_in, bd_eq, decide_eq_false hv, show bI false = 0 from rfl, m0]
  · by_cases hb1 : a1 = 1
    · subst hb1
      by_cases hv : 0 ≤ a2 ∧ a2 ≤ 5
      · obtain ⟨x, hx1, hx2, rfl⟩ := nI_rng 0 5 (by decide) hv.1 hv.2 (by decide)
        refine fin_s hu (s := upd (u.1 20) 4 (nI x)) ⟨m, p, w, d, x, hG.sc (Or.inr rfl) _, by rw [upd_ne (by decide)]; exact h2, hd, upd_at, hx2⟩ (x := u.1 20 4) ?_ (fun u' e => ?_)
        · simp only [f_X5_law, if_neg ha, if_true, p_within, bd_eq, decide_eq_true hv, nm_eq, w1_sR, e0]
        · simp only [f_X6_law, if_neg ha, if_true, L0, L5, p_in, bd_eq, decide_eq_true hv, q_bec4, e]
      · refine fin_fd hu (k := 0) (by decide) (x := -1000000001) ?_ (fun u' e => ?_)
        · simp only [f_X5_law, if_neg ha, if_true, p_within, bd_eq, decide_eq_false hv, Bool.false_eq_true, if_false, c0]
        · simp only [f_X6_law, if_neg ha, if_true, L0, L5, p_in, bd_eq, decide_eq_false hv, Bool.false_eq_true, if_false, m0]
    · refine fin_fd hu (k := 0) (by decide) (x := -1000000001) ?_ (fun u' e => ?_)
      · simp only [f_X5_law, if_neg ha, if_neg hb1, bd_eq, c0]
      · simp only [f_X6_law, if_neg ha, if_neg hb1, bd_eq, m0]
end Calls3
/-! pilgrims -/
section Calls4
theorem p_canTrust {r m : Nat} (hr : r < 3) {u : Uw} (hm : u.1 r 0 = nI m) (hm6 : m ≤ 6) (x : Int32) : f_X3_canTrust (23 * r) x u = some (decide (x = -1 ∨ (0 ≤ x ∧ x < nI m)), u) := by
  unfold f_X3_canTrust
  by_cases h1 : x = -1
  · rw [if_pos h1, decide_eq_true (Or.inl h1)]
  · rw [if_neg h1, ck_pos (sp_t r hr)]
    rcases pk_ix x (n := m) (by omega) with h | h | ⟨c, hc, rfl⟩
    · rw [p_calAt_out hr hm (Or.inl h), bd_eq, ro_none, decide_eq_false]
      exact fun z => z.elim h1 (fun q => Int32.not_lt.mpr q.1 h)
    · rw [p_calAt_out hr hm (Or.inr h), bd_eq, ro_none, decide_eq_false]
      exact fun z => z.elim h1 (fun q => Int32.not_lt.mpr h q.2)
    · rw [p_calAt_in hr hm hm6 hc, bd_eq, ro_some, decide_eq_true]
      exact Or.inr ⟨nI_pos' (by omega), nI_lt hc (by omega)⟩
theorem p_isTrust {m : Nat} {u : Uw} (hm : u.1 20 0 = nI m) (hm6 : m ≤ 6) (x : Int32) : f_X6_isTrust x u = some (decide (x = -1 ∨ (0 ≤ x ∧ x < nI m)), u) := by
  unfold f_X6_isTrust
  by_cases h1 : x = -1
  · rw [if_pos h1, decide_eq_true (Or.inl h1)]
  · rw [if_neg h1]
    rcases pk_ix x (n := m) (by omega) with h | h | ⟨c, hc, rfl⟩
    · rw [p_isCal_out hm hm6 (Or.inl h), bd_eq, if_neg (by decide), decide_eq_false]
      exact fun z => z.elim h1 (fun q => Int32.not_lt.mpr q.1 h)
    · rw [p_isCal_out hm hm6 (Or.inr h), bd_eq, if_neg (by decide), decide_eq_false]
      exact fun z => z.elim h1 (fun q => Int32.not_lt.mpr h q.2)
    · rw [p_isCal_in hm hm6 hc, bd_eq, if_pos rfl, decide_eq_true]
      exact Or.inr ⟨nI_pos' (by omega), nI_lt hc (by omega)⟩
theorem trust_in {m : Nat} {x : Int32} (hm : m ≤ 6) (h : x = -1 ∨ (0 ≤ x ∧ x < nI m)) : x = -1 ∨ ∃ c, c < m ∧ x = nI c := by
  rcases h with h | ⟨h1, h2⟩
  · exact Or.inl h
  · rcases pk_ix x (n := m) (by omega) with q | q | q
    · exact absurd q (Int32.not_lt.mpr h1)
    · exact absurd h2 (Int32.not_lt.mpr q)
    · exact Or.inr q
def addP (s : Nat → Int32) (p : Nat) (ill tr : Int32) : Nat → Int32 := upd (setT s (37 + 3 * p) (ill, tr, 0)) 1 (nI (p + 1))
theorem p_addPil {r : Nat} (hr : r < 3) {p : Nat} {u : Uw} (hp : u.1 r 1 = nI p) (hp8 : p < 8) (ill tr : Int32) : f_X3_addPilgrim (23 * r) ill tr u = some ((), sR u r (addP (u.1 r) p ill tr)) := by
  obtain ⟨h1, h2, h3⟩ := pil_at hr hp8
  unfold f_X3_addPilgrim f_X1_startWith
  rw [ck_pos (sp_t r hr), ck_pos (sp_2 r hr), sp_r r hr, sp_o r hr, Nat.zero_add, hp, if_neg (show ¬ (8 : Int32) ≤ nI p from nI_ge (b := 8) hp8 (by decide)), ck_pos (inb_nI hp8 (by decide)), nm_eq, nI_clamp (by omega), pp_eq, ck_pos h1, ck_pos h1, h2, h3]
  simp only [nm_eq, bd_eq, w1_sR, sR_sR, sR_same, Nat.add_zero]
  rw [show upd (upd (upd (u.1 r) (37 + 3 * p) ill) (37 + 3 * p + 1) tr) (37 + 3 * p + 2) 0 = setT (u.1 r) (37 + 3 * p) (ill, tr, 0) from rfl, setT_ne (Or.inl (by omega)), hp, nI_1]
  rfl
theorem p_comes {p : Nat} {u : Uw} (hp : u.1 20 1 = nI p) (hp8 : p < 8) (ill tr : Int32) : f_X6_comes ill tr u = some (nI p, sR u 20 (addP (u.1 20) p ill tr)) := by
  unfold f_X6_comes
  simp only [tn1, nm_eq, hp, p_spot hp8 (show 0 < 3 by decide) (x := (0 : Int32)) rfl, p_spot hp8 (show 1 < 3 by decide) (x := (1 : Int32)) rfl, p_spot hp8 (show 2 < 3 by decide) (x := (2 : Int32)) rfl, bd_eq, Nat.add_zero, ck_pos (inb_nI (show 37 + 3 * p < 61 by omega) (by decide)), ck_pos (inb_nI (show 37 + 3 * p + 1 < 61 by omega) (by decide)), ck_pos (inb_nI (show 37 + 3 * p + 2 < 61 by omega) (by decide)), nI_clamp (show 37 + 3 * p < 2 ^ 31 by omega), nI_clamp (show 37 + 3 * p + 1 < 2 ^ 31 by omega), nI_clamp (show 37 + 3 * p + 2 < 2 ^ 31 by omega), w1_sR, sR_sR, sR_same]
  rw [show upd (upd (upd (u.1 20) (37 + 3 * p) ill) (37 + 3 * p + 1) tr) (37 + 3 * p + 2) 0 = setT (u.1 20) (37 + 3 * p) (ill, tr, 0) from rfl, setT_ne (Or.inl (by omega)), hp, nI_1]
  rfl
theorem GdW.newp {s : Nat → Int32} {m p w : Nat} (h : GdW s m p w) (hp : p < 8) {ill tr : Int32} (ht : Ps m (ill, tr, 0)) : GdW (addP s p ill tr) m (p + 1) w := by
  obtain ⟨a1, a2, a3, a4, a5, a6, a7, a8, a9, a10⟩ := h
  have e : ∀ j, j < 37 → j ≠ 1 → addP s p ill tr j = s j := fun j h0 h1 => by
    show upd _ 1 _ j = _
    rw [upd_ne h1, setT_ne (by omega)]
  refine ⟨by rw [e 0 (by decide) (by decide)]; exact a1, a2, upd_at, by omega, by rw [e 3 (by decide) (by decide)]; exact a5, a6, by rw [e 5 (by decide) (by decide)]; exact a7, by rw [e 6 (by decide) (by decide)]; exact a8, fun c hc => ?_, fun q hq => ?_⟩
  · have h9 := a9 c hc
    unfold CalOk row5 at h9 ⊢
    rw [e _ (by omega) (by omega), e _ (by omega) (by omega), e _ (by omega) (by omega), e _ (by omega) (by omega), e _ (by omega) (by omega)]
    exact h9
  · have eg : getT (addP s p ill tr) (37 + 3 * q) = getT (setT s (37 + 3 * p) (ill, tr, 0)) (37 + 3 * q) := by
      unfold getT
      show (upd _ 1 _ _, upd _ 1 _ _, upd _ 1 _ _) = _
      rw [upd_ne (by omega), upd_ne (by omega), upd_ne (by omega)]
    rw [eg]
    by_cases hqp : q = p
    · subst hqp; rw [getT_set]; exact ht
    · have h10 := a10 q (by omega)
      unfold getT at h10 ⊢
      rw [setT_ne (by omega), setT_ne (by omega), setT_ne (by omega)]
      exact h10
end Calls4
