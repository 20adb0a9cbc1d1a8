/-! PURE 17: row; a trial of days; on, well -/
theorem mx_le {x y : Int32} (h : y ≤ x) : mxI x y = x := if_neg (Int32.not_lt.mpr h)
theorem mx_nle {x y : Int32} (h : ¬ y ≤ x) : mxI x y = y := if_pos (Int32.not_le.mp h)
def rwF (g : Nat → Bool) : Nat → Nat → Int32 → Int32 → Int32
  | _, 0, best, _ => best
  | i, j + 1, best, run => if g i = true then rwF g (i + 1) j (mxI best (run + 1)) (run + 1) else rwF g (i + 1) j (mxI best 0) 0
theorem l_rwC {m n : Nat} {s : Nat → Int32} {d : Nat} (hn : n ≤ 400) (hm6 : m ≤ 6) (hm : s 0 = nI m) {a b : Int32} {u : Uw} (h : ∀ k, k < n → u.1 4 k = hset s (nI (d + k))) : ∀ (j i f : Nat) (best run : Int32), i + j = n → j < f → lp b_X5_row_44 f (a, b, nI n, best, run, nI i, u) = some (rwF (fun k => agB s a b (nI (d + k))) i j best run, u) := by
  intro j
  induction j with
  | zero =>
    intro i f best run h1 h3
    obtain ⟨f, rfl⟩ : ∃ k, f = k + 1 := ⟨f - 1, by omega⟩
    rw [lp_s]
    generalize lp b_X5_row_44 f = g
    unfold b_X5_row_44
    dsimp only
    rw [if_pos (nI_le (by omega) (by omega)), rwF]
  | succ j ih =>
    intro i f best run h1 h3
    obtain ⟨f, rfl⟩ : ∃ k, f = k + 1 := ⟨f - 1, by omega⟩
    have ih2 := fun b' r' => ih (i + 1) f b' r' (by omega) (by omega)
    rw [lp_s]
    generalize lp b_X5_row_44 f = g at ih2 ⊢
    unfold b_X5_row_44
    dsimp only
    rw [if_neg (nI_ge (by omega) (by omega)), p_agreeAhead (by omega) hm6 hm (h i (by omega)), bd_eq, nm_eq, nm_eq, nm_eq, nI_1, ih2, ih2, rwF]
    split <;> rfl
theorem l_rwM {m p w n : Nat} {d : Nat} (hn : n ≤ 400) (hd : d ≤ 99999) {a b : Int32} {u : Uw} (hG : GdW (u.1 20) m p w) (h2 : u.1 20 2 = nI d) : ∀ (j i f : Nat) (best run : Int32), i + j = n → j < f → lp b_X6_row_42 f (a, b, nI n, best, run, nI (d + i), u) = some (rwF (fun k => agB (u.1 20) a b (nI (d + k))) i j best run, u) := by
  intro j
  induction j with
  | zero =>
    intro i f best run h1 h3
    obtain ⟨f, rfl⟩ : ∃ k, f = k + 1 := ⟨f - 1, by omega⟩
    rw [lp_s]
    generalize lp b_X6_row_42 f = g
    unfold b_X6_row_42
    dsimp only
    rw [tn2, nm_eq, h2, nI_add, if_pos (nI_le (by omega) (by omega)), rwF]
  | succ j ih =>
    intro i f best run h1 h3
    obtain ⟨f, rfl⟩ : ∃ k, f = k + 1 := ⟨f - 1, by omega⟩
    have ih2 := fun b' r' => ih (i + 1) f b' r' (by omega) (by omega)
    rw [lp_s]
    generalize lp b_X6_row_42 f = g at ih2 ⊢
    unfold b_X6_row_42
    dsimp only
    rw [tn2, nm_eq, h2, nI_add, if_neg (nI_ge (by omega) (by omega)), p_isAgreed hG, bd_eq, nm_eq, nm_eq, nm_eq, nI_1, Nat.add_assoc, ih2, ih2, ih2, ih2, rwF]
    by_cases hg : agB (u.1 20) a b (nI (d + i)) = true
    · rw [if_pos hg, if_pos hg]
      by_cases hx : run + 1 ≤ best
      · rw [if_pos hx, mx_le hx]
      · rw [if_neg hx, mx_nle hx]
    · rw [if_neg hg, if_neg hg]
      by_cases hx : 0 ≤ best
      · rw [if_pos hx, mx_le hx]
      · rw [if_neg hx, mx_nle hx]
theorem st_row (a1 a2 a3 : Int32) : StepT Rel (fun u => f_X5_row a1 a2 a3 u) (fun u => f_X6_row a1 a2 a3 u) := by
  intro u hu
  obtain ⟨e0, ⟨m, p, w, d, t, hG, h2, hd, h4, ht⟩, -⟩ := id hu
  obtain ⟨hm, hm6, -⟩ := id hG
  have hm0 : u.1 0 0 = nI m := by rw [e0]; exact hm
  have h20 : u.1 0 2 = nI d := by rw [e0]; exact h2
  by_cases hb : twoB m a1 a2 = true
  · by_cases hv : 1 ≤ a3 ∧ a3 ≤ 400
    · obtain ⟨n, -, hn, rfl⟩ := nI_rng 1 400 (by decide) hv.1 hv.2 (by decide)
      refine fin_q hu (x := rwF (fun k => agB (u.1 20) a1 a2 (nI (d + k))) 0 n 0 0) (u1 := sR u 4 (cpF (u.1 4) (ahF (u.1 0) d) 0 n)) ?_ (Fr.sR (by decide)) (fun u' e => ⟨u', ?_, Fr.rf⟩)
      · show f_X5_row a1 a2 (nI n) u = _
        unfold f_X5_row
        rw [q_hasBoth hm6 hm0, hb, bd_eq, if_pos rfl, p_within, decide_eq_true hv, bd_eq, if_pos rfl, p_look hn hd hm6 hm0 h20, bd_eq]
        exact l_rwC (s := u.1 20) hn hm6 hm (fun k hk => by rw [sR_same, cpF_in hk, e0]; rfl) n 0 2100 0 0 (by omega) (by omega)
      · show f_X6_row a1 a2 (nI n) u' = _
        unfold f_X6_row
        have h := l_rwM (m := m) (p := p) (w := w) (a := a1) (b := a2) (u := u') hn hd (by rw [e]; exact hG) (by rw [e]; exact h2) n 0 2100 0 0 (by omega) (by omega)
        rw [p_areTwo hm6 (by rw [e]; exact hm), hb, bd_eq, if_pos rfl, L1, L400, p_in, decide_eq_true hv, bd_eq, if_pos rfl, tn2, nm_eq, e, h2]
        rw [e] at h
        exact h
    · refine fin_fd hu (k := 0) (by decide) (x := -1000000001) ?_ (fun u' e => ?_)
      · show f_X5_row a1 a2 a3 u = _
        unfold f_X5_row
        rw [q_hasBoth hm6 hm0, hb, bd_eq, if_pos rfl, p_within, decide_eq_false hv, bd_eq, if_neg (by decide), c0, bd_eq]
      · show f_X6_row a1 a2 a3 u' = _
        unfold f_X6_row
        rw [p_areTwo hm6 (by rw [e]; exact hm), hb, bd_eq, if_pos rfl, L1, L400, p_in, decide_eq_false hv, bd_eq, if_neg (by decide), m0, bd_eq]
  · have hb' : twoB m a1 a2 = false := by cases h : twoB m a1 a2 with
      | true => exact absurd h hb
      | false => rfl
    refine fin_fd hu (k := 0) (by decide) (x := -1000000001) ?_ (fun u' e => ?_)
    · show f_X5_row a1 a2 a3 u = _
      unfold f_X5_row
      rw [q_hasBoth hm6 hm0, hb', bd_eq, if_neg (by decide), c0, bd_eq]
    · show f_X6_row a1 a2 a3 u' = _
      unfold f_X6_row
      rw [p_areTwo hm6 (by rw [e]; exact hm), hb', bd_eq, if_neg (by decide), m0, bd_eq]
/-! a trial -/
/-- a traveller after j days from day i of those ahead -/
def trF (H : Nat → Int32 → Bool) (tr pw : Int32) : Nat → Nat → Tr → Tr
  | _, 0, t => t
  | i, j + 1, t => trF H tr pw (i + 1) j (passT t (H i) tr pw)
theorem trF_0 {H : Nat → Int32 → Bool} {tr pw : Int32} : ∀ (j i : Nat) (t : Tr), t.1 ≤ 0 → trF H tr pw i j t = t
  | 0, _, _, _ => rfl
  | j + 1, i, t, h => by
    rw [trF, show passT t (H i) tr pw = t from if_pos h]
    exact trF_0 j (i + 1) t h
theorem hb_cal {s s' : Nat → Int32} (h : ∀ k, (k = 0 ∨ (7 ≤ k ∧ k < 37)) → s' k = s k) {m : Nat} (hm : s 0 = nI m) (hm6 : m ≤ 6) (x d : Int32) : hb s' x d = hb s x d := by
  have hm' : s' 0 = nI m := by rw [h 0 (Or.inl rfl), hm]
  rcases pk_ix x (n := m) (by omega) with q | q | ⟨c, hc, rfl⟩
  · rw [hb_out hm (Or.inl q), hb_out hm' (Or.inl q)]
  · rw [hb_out hm (Or.inr q), hb_out hm' (Or.inr q)]
  · rw [hb_in hm hm6 hc, hb_in hm' hm6 hc]
    have e : ∀ k, k < 5 → row5 s' (7 + 5 * c) k = row5 s (7 + 5 * c) k := fun k hk => h _ (by omega)
    unfold holyF dateF monthF runsF newF lenF
    rw [e 0 (by decide), e 1 (by decide), e 2 (by decide), e 3 (by decide), e 4 (by decide)]
theorem hb_day {s : Nat → Int32} {m p w : Nat} (h : GdW s m p w) (x d : Int32) : hb (dayS s) x d = hb s x d := hb_cal (s := s) (s' := dayS s) (fun k hk => day_lo (by omega) (by omega) (by omega) (by omega)) h.1 h.2.1 x d
/-- what the calendars say of the day i days ahead -/
def HF (s : Nat → Int32) (d : Nat) : Nat → Int32 → Bool := fun i x => hb s x (nI (d + i))
theorem trF_congr {H H' : Nat → Int32 → Bool} {tr pw : Int32} : ∀ (j i i' : Nat) (t : Tr), (∀ k, k < j → H (i + k) = H' (i' + k)) → trF H tr pw i j t = trF H' tr pw i' j t := by
  intro j
  induction j with
  | zero => intro i i' t _; rfl
  | succ j ih =>
    intro i i' t h
    have h0 := h 0 (by omega)
    rw [Nat.add_zero, Nat.add_zero] at h0
    rw [trF, trF, h0]
    refine ih (i + 1) (i' + 1) _ (fun k hk => ?_)
    have := h (k + 1) (by omega)
    rw [show i + 1 + k = i + (k + 1) by omega, show i' + 1 + k = i' + (k + 1) by omega]
    exact this
/-- days of all are days of each -/
theorem it_get {m p w q : Nat} (hq : q < p) : ∀ (j : Nat) (s : Nat → Int32) (d : Nat), GdW s m p w → s 2 = nI d → getT (itS j s) (37 + 3 * q) = trF (HF s d) (s 4) (s 3) 0 j (getT s (37 + 3 * q)) := by
  intro j
  induction j with
  | zero => intro s d _ _; rfl
  | succ j ih =>
    intro s d hG h2
    rw [itS, ih (dayS s) (d + 1) hG.day (by rw [day_2, h2, nI_1]), trF, day_get hG hq, day_lo (by decide) (by decide) (by decide) (by decide), day_lo (by decide) (by decide) (by decide) (by decide), h2]
    refine trF_congr j 0 1 _ (fun k hk => ?_)
    unfold HF
    funext x
    rw [hb_day hG, show d + 1 + (0 + k) = d + (1 + k) by omega]
