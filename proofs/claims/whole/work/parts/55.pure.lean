/-! PURE 16: looking ahead; agree, row -/
def ahF (s : Nat → Int32) (d : Nat) : Nat → Int32 := fun k => hset s (nI (d + k))
theorem l_look {m d n : Nat} (hn : n ≤ 400) (hd : d ≤ 99999) (hm6 : m ≤ 6) : ∀ (j i f : Nat) (u : Uw), u.1 0 0 = nI m → u.1 0 2 = nI d → i + j = n → j < f → lp b_X5_lookAhead_2 f (nI n, nI i, u) = some ((), sR u 4 (cpF (u.1 4) (ahF (u.1 0) d) i j)) := by
  intro j
  induction j with
  | zero =>
    intro i f u hm h2 h1 h3
    obtain ⟨f, rfl⟩ : ∃ k, f = k + 1 := ⟨f - 1, by omega⟩
    rw [lp_s]
    generalize lp b_X5_lookAhead_2 f = g
    unfold b_X5_lookAhead_2
    dsimp only
    rw [if_pos (nI_le (by omega) (by omega)), cpF_0, sR_self]
  | succ j ih =>
    intro i f u hm h2 h1 h3
    obtain ⟨f, rfl⟩ : ∃ k, f = k + 1 := ⟨f - 1, by omega⟩
    have ih2 := ih (i + 1) f (sR u 4 (upd (u.1 4) i (ahF (u.1 0) d i))) (by rw [sR_ne (by decide)]; exact hm) (by rw [sR_ne (by decide)]; exact h2) (by omega) (by omega)
    rw [lp_s]
    generalize lp b_X5_lookAhead_2 f = g at ih2 ⊢
    unfold b_X5_lookAhead_2
    dsimp only
    rw [if_neg (nI_ge (by omega) (by omega)), if_neg (show ¬ (400 : Int32) ≤ nI i from nI_ge (b := 400) (by omega) (by decide)), q_holySet hm hm6, bd_eq, ck_pos (inb_nI (by omega) (by decide)), nm_eq, nI_clamp (by omega), h2, nI_add, w1_sR, nI_1]
    refine ih2.trans ?_
    rw [sR_same, sR_ne (show 0 ≠ 4 by decide), sR_sR, cpF_step]
theorem p_look {m d n : Nat} (hn : n ≤ 400) (hd : d ≤ 99999) (hm6 : m ≤ 6) {u : Uw} (hm : u.1 0 0 = nI m) (h2 : u.1 0 2 = nI d) : f_X5_lookAhead (nI n) u = some ((), sR u 4 (cpF (u.1 4) (ahF (u.1 0) d) 0 n)) := by
  unfold f_X5_lookAhead
  exact l_look hn hd hm6 n 0 2100 u hm h2 (by omega) (by omega)
def agB (s : Nat → Int32) (a b x : Int32) : Bool := decide (bI (hb s a x) = bI (hb s b x))
theorem p_agreeAhead {m i : Nat} (hi : i < 400) (hm6 : m ≤ 6) {s : Nat → Int32} (hm : s 0 = nI m) {x : Int32} {u : Uw} (h : u.1 4 i = hset s x) (a b : Int32) : f_X5_agreeAhead a b (nI i) u = some (agB s a b x, u) := by
  unfold f_X5_agreeAhead agB
  rw [if_neg (nI_pos (by omega)), if_neg (show ¬ (400 : Int32) ≤ nI i from nI_ge (b := 400) hi (by decide)), ck_pos (inb_nI hi (by decide)), nm_eq, nI_clamp (by omega), h, p_isIn, bd_eq, isIn_hset hm hm6, nm_eq, h, p_isIn, bd_eq, isIn_hset hm hm6]
  by_cases e : bI (hb s a x) = bI (hb s b x)
  · rw [if_pos e, decide_eq_true e]
  · rw [if_neg e, decide_eq_false e]
theorem p_isAgreed {m p w : Nat} {u : Uw} (hG : GdW (u.1 20) m p w) (a b x : Int32) : f_X6_isAgreed a b x u = some (agB (u.1 20) a b x, u) := by
  unfold f_X6_isAgreed agB
  rw [p_isHoly hG.1 hG.2.1 hG.len, bd_eq, p_isHoly hG.1 hG.2.1 hG.len, bd_eq]
  by_cases e : bI (hb (u.1 20) a x) = bI (hb (u.1 20) b x)
  · rw [if_pos e, decide_eq_true e]
  · rw [if_neg e, decide_eq_false e]
def isC (m : Nat) (x : Int32) : Bool := decide (0 ≤ x ∧ x < nI m)
theorem isC_cases {m : Nat} (hm : m ≤ 6) (x : Int32) : (isC m x = false ∧ (x < 0 ∨ nI m ≤ x)) ∨ (isC m x = true ∧ ∃ c, c < m ∧ x = nI c) := by
  unfold isC
  rcases pk_ix x (n := m) (by omega) with h | h | ⟨c, hc, rfl⟩
  · exact Or.inl ⟨decide_eq_false (fun q => Int32.not_lt.mpr q.1 h), Or.inl h⟩
  · exact Or.inl ⟨decide_eq_false (fun q => Int32.not_lt.mpr h q.2), Or.inr h⟩
  · exact Or.inr ⟨decide_eq_true ⟨nI_pos' (by omega), nI_lt hc (by omega)⟩, c, hc, rfl⟩
def twoB (m : Nat) (a b : Int32) : Bool := isC m a && isC m b && !decide (a = b)
theorem q_hasBoth {m : Nat} (hm6 : m ≤ 6) {u : Uw} (hm : u.1 0 0 = nI m) (a b : Int32) : f_X3_hasBoth 0 a b u = some (twoB m a b, u) := by
  unfold f_X3_hasBoth twoB
  by_cases e : a = b
  · rw [if_pos e, decide_eq_true e]
    simp
  · rw [if_neg e, decide_eq_false e, ck_pos s0t]
    rcases isC_cases hm6 a with ⟨h1, h⟩ | ⟨h1, c, hc, ec⟩
    · rw [q_calAt_out hm h, bd_eq, ro_none, h1]
      rfl
    · rw [h1, ec, q_calAt_in hm hm6 hc, bd_eq, ro_some]
      rcases isC_cases hm6 b with ⟨h2, h⟩ | ⟨h2, c', hc', ec'⟩
      · rw [q_calAt_out hm h, bd_eq, ro_none, h2]
        rfl
      · rw [h2, ec', q_calAt_in hm hm6 hc', bd_eq, ro_some]
        rfl
theorem p_areTwo {m : Nat} (hm6 : m ≤ 6) {u : Uw} (hm : u.1 20 0 = nI m) (a b : Int32) : f_X6_areTwo a b u = some (twoB m a b, u) := by
  unfold f_X6_areTwo twoB
  rcases isC_cases hm6 a with ⟨h1, h⟩ | ⟨h1, c, hc, ec⟩
  · rw [p_isCal_out hm hm6 h, bd_eq, if_neg (by decide), h1]
    rfl
  · rw [h1]
    rw [show f_X6_isCalendar a u = some (true, u) from ec ▸ p_isCal_in hm hm6 hc, bd_eq, if_pos rfl]
    rcases isC_cases hm6 b with ⟨h2, h⟩ | ⟨h2, c', hc', ec'⟩
    · rw [p_isCal_out hm hm6 h, bd_eq, if_neg (by decide), h2]
      rfl
    · rw [h2, show f_X6_isCalendar b u = some (true, u) from ec' ▸ p_isCal_in hm hm6 hc', bd_eq, if_pos rfl]
      by_cases e : a = b
      · rw [if_pos e, decide_eq_true e]
        rfl
      · rw [if_neg e, decide_eq_false e]
        rfl
/-- how many of j days from x on agree -/
def agF (g : Nat → Bool) : Nat → Nat → Int32 → Int32
  | _, 0, acc => acc
  | i, j + 1, acc => agF g (i + 1) j (if g i = true then acc + 1 else acc)
theorem l_agC {m n : Nat} {s : Nat → Int32} {d : Nat} (hn : n ≤ 400) (hm6 : m ≤ 6) (hm : s 0 = nI m) {a b : Int32} {u : Uw} (h : ∀ k, k < n → u.1 4 k = hset s (nI (d + k))) : ∀ (j i f : Nat) (acc : Int32), i + j = n → j < f → lp b_X5_agree_41 f (a, b, nI n, acc, nI i, u) = some (agF (fun k => agB s a b (nI (d + k))) i j acc, u) := by
  intro j
  induction j with
  | zero =>
    intro i f acc h1 h3
    obtain ⟨f, rfl⟩ : ∃ k, f = k + 1 := ⟨f - 1, by omega⟩
    rw [lp_s]
    generalize lp b_X5_agree_41 f = g
    unfold b_X5_agree_41
    dsimp only
    rw [if_pos (nI_le (by omega) (by omega)), agF]
  | succ j ih =>
    intro i f acc h1 h3
    obtain ⟨f, rfl⟩ : ∃ k, f = k + 1 := ⟨f - 1, by omega⟩
    have ih2 := fun acc' => ih (i + 1) f acc' (by omega) (by omega)
    rw [lp_s]
    generalize lp b_X5_agree_41 f = g at ih2 ⊢
    unfold b_X5_agree_41
    dsimp only
    rw [if_neg (nI_ge (by omega) (by omega)), p_agreeAhead (by omega) hm6 hm (h i (by omega)), bd_eq, nI_1, ih2, ih2, agF]
    split <;> rfl
theorem l_agM {m p w n : Nat} {d : Nat} (hn : n ≤ 400) (hd : d ≤ 99999) {a b : Int32} {u : Uw} (hG : GdW (u.1 20) m p w) (h2 : u.1 20 2 = nI d) : ∀ (j i f : Nat) (acc : Int32), i + j = n → j < f → lp b_X6_agreed_11 f (a, b, nI n, acc, nI (d + i), u) = some (agF (fun k => agB (u.1 20) a b (nI (d + k))) i j acc, u) := by
  intro j
  induction j with
  | zero =>
    intro i f acc h1 h3
    obtain ⟨f, rfl⟩ : ∃ k, f = k + 1 := ⟨f - 1, by omega⟩
    rw [lp_s]
    generalize lp b_X6_agreed_11 f = g
    unfold b_X6_agreed_11
    dsimp only
    rw [tn2, nm_eq, h2, nI_add, if_pos (nI_le (by omega) (by omega)), agF]
  | succ j ih =>
    intro i f acc h1 h3
    obtain ⟨f, rfl⟩ : ∃ k, f = k + 1 := ⟨f - 1, by omega⟩
    have ih2 := fun acc' => ih (i + 1) f acc' (by omega) (by omega)
    rw [lp_s]
    generalize lp b_X6_agreed_11 f = g at ih2 ⊢
    unfold b_X6_agreed_11
    dsimp only
    rw [tn2, nm_eq, h2, nI_add, if_neg (nI_ge (by omega) (by omega)), p_isAgreed hG, bd_eq, nm_eq, nm_eq, Int32.add_zero, nI_1, Nat.add_assoc, ih2, ih2, agF]
    split <;> rfl
theorem p_agreed {m p w n : Nat} {d : Nat} (hn : n ≤ 400) (hd : d ≤ 99999) {a b : Int32} {u : Uw} (hG : GdW (u.1 20) m p w) (h2 : u.1 20 2 = nI d) : f_X6_agreed a b (nI n) u = some (agF (fun k => agB (u.1 20) a b (nI (d + k))) 0 n 0, u) := by
  unfold f_X6_agreed
  rw [tn2, nm_eq, h2]
  exact l_agM hn hd hG h2 n 0 2100 0 (by omega) (by omega)
theorem st_agree (a1 a2 a3 : Int32) : StepT Rel (fun u => f_X5_agree a1 a2 a3 u) (fun u => f_X6_agree a1 a2 a3 u) := by
  intro u hu
  obtain ⟨e0, ⟨m, p, w, d, t, hG, h2, hd, h4, ht⟩, -⟩ := id hu
  obtain ⟨hm, hm6, -⟩ := id hG
  have hm0 : u.1 0 0 = nI m := by rw [e0]; exact hm
  have h20 : u.1 0 2 = nI d := by rw [e0]; exact h2
  by_cases hb : twoB m a1 a2 = true
  · by_cases hv : 1 ≤ a3 ∧ a3 ≤ 400
    · obtain ⟨n, -, hn, rfl⟩ := nI_rng 1 400 (by decide) hv.1 hv.2 (by decide)
      refine fin_q hu (x := agF (fun k => agB (u.1 20) a1 a2 (nI (d + k))) 0 n 0) (u1 := sR u 4 (cpF (u.1 4) (ahF (u.1 0) d) 0 n)) ?_ (Fr.sR (by decide)) (fun u' e => ⟨u', ?_, Fr.rf⟩)
      · show f_X5_agree a1 a2 (nI n) u = _
        unfold f_X5_agree
        rw [q_hasBoth hm6 hm0, hb, bd_eq, if_pos rfl, p_within, decide_eq_true hv, bd_eq, if_pos rfl, p_look hn hd hm6 hm0 h20, bd_eq]
        exact l_agC (s := u.1 20) hn hm6 hm (fun k hk => by rw [sR_same, cpF_in hk, e0]; rfl) n 0 2100 0 (by omega) (by omega)
      · show f_X6_agree a1 a2 (nI n) u' = _
        unfold f_X6_agree
        rw [p_areTwo hm6 (by rw [e]; exact hm), hb, bd_eq, if_pos rfl, L1, L400, p_in, decide_eq_true hv, bd_eq, if_pos rfl, p_agreed (m := m) (p := p) (w := w) hn hd (by rw [e]; exact hG) (by rw [e]; exact h2), bd_eq, e]
    · refine fin_fd hu (k := 0) (by decide) (x := -1000000001) ?_ (fun u' e => ?_)
      · show f_X5_agree a1 a2 a3 u = _
        unfold f_X5_agree
        rw [q_hasBoth hm6 hm0, hb, bd_eq, if_pos rfl, p_within, decide_eq_false hv, bd_eq, if_neg (by decide), c0, bd_eq]
      · show f_X6_agree a1 a2 a3 u' = _
        unfold f_X6_agree
        rw [p_areTwo hm6 (by rw [e]; exact hm), hb, bd_eq, if_pos rfl, L1, L400, p_in, decide_eq_false hv, bd_eq, if_neg (by decide), m0, bd_eq]
  · have hb' : twoB m a1 a2 = false := by cases h : twoB m a1 a2 with
      | true => exact absurd h hb
      | false => rfl
    refine fin_fd hu (k := 0) (by decide) (x := -1000000001) ?_ (fun u' e => ?_)
    · show f_X5_agree a1 a2 a3 u = _
      unfold f_X5_agree
      rw [q_hasBoth hm6 hm0, hb', bd_eq, if_neg (by decide), c0, bd_eq]
    · show f_X6_agree a1 a2 a3 u' = _
      unfold f_X6_agree
      rw [p_areTwo hm6 (by rw [e]; exact hm), hb', bd_eq, if_neg (by decide), m0, bd_eq]
