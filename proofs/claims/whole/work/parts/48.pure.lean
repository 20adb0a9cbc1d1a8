/-! PURE 9: now, count, days, next -/
theorem now_k : ∀ k : Nat, k < 5 → inb (2 + nI k) 61 = true ∧ (2 + nI k).toNatClampNeg = 2 + k := by decide
theorem st_now (a1 : Int32) : StepT Rel (fun u => f_X5_now a1 u) (fun u => f_X6_now a1 u) := by
  intro u hu
  obtain ⟨e0, ⟨m, p, w, d, t, hG, h2, hd, h4, ht⟩, -⟩ := id hu
  obtain ⟨hm, hm6, hp, hp8, -⟩ := id hG
  have hp0 : u.1 0 1 = nI p := by rw [e0]; exact hp
  by_cases h0 : a1 = 0
  · subst h0
    refine fin_p hu (x := u.1 20 2) ?_ ?_
    · show f_X5_now 0 u = _
      unfold f_X5_now
      rw [nm_eq, if_pos rfl, e0]
    · show f_X6_now 0 u = _
      unfold f_X6_now
      rw [nm_eq, if_pos rfl, ck_pos (show inb (2 + 0) 61 = true from (now_k 0 (by decide)).1), nm_eq, show ((2 : Int32) + 0).toNatClampNeg = 2 from (now_k 0 (by decide)).2]
  by_cases h1 : a1 = 1
  · subst h1
    refine fin_p hu (x := u.1 20 3) ?_ ?_
    · show f_X5_now 1 u = _
      unfold f_X5_now
      rw [nm_eq, if_neg h0, if_pos rfl, e0]
    · show f_X6_now 1 u = _
      unfold f_X6_now
      rw [nm_eq, if_neg h0, if_pos rfl, ck_pos (show inb (2 + 1) 61 = true from (now_k 1 (by decide)).1), nm_eq, show ((2 : Int32) + 1).toNatClampNeg = 3 from (now_k 1 (by decide)).2]
  by_cases h2 : a1 = 2
  · subst h2
    refine fin_p hu (x := u.1 20 4) ?_ ?_
    · show f_X5_now 2 u = _
      unfold f_X5_now
      rw [nm_eq, if_neg h0, if_neg h1, if_pos rfl, e0]
    · show f_X6_now 2 u = _
      unfold f_X6_now
      rw [nm_eq, if_neg h0, if_neg h1, if_pos rfl, ck_pos (show inb (2 + 2) 61 = true from (now_k 2 (by decide)).1), nm_eq, show ((2 : Int32) + 2).toNatClampNeg = 4 from (now_k 2 (by decide)).2]
  by_cases h3 : a1 = 3
  · subst h3
    refine fin_p hu (x := u.1 20 5) ?_ ?_
    · show f_X5_now 3 u = _
      unfold f_X5_now
      rw [nm_eq, if_neg h0, if_neg h1, if_neg h2, if_pos rfl, e0]
    · show f_X6_now 3 u = _
      unfold f_X6_now
      rw [nm_eq, if_neg h0, if_neg h1, if_neg h2, if_pos rfl, ck_pos (show inb (2 + 3) 61 = true from (now_k 3 (by decide)).1), nm_eq, show ((2 : Int32) + 3).toNatClampNeg = 5 from (now_k 3 (by decide)).2]
  by_cases h4 : a1 = 4
  · subst h4
    refine fin_p hu (x := u.1 20 6) ?_ ?_
    · show f_X5_now 4 u = _
      unfold f_X5_now
      rw [nm_eq, if_neg h0, if_neg h1, if_neg h2, if_neg h3, if_pos rfl, e0]
    · show f_X6_now 4 u = _
      unfold f_X6_now
      rw [nm_eq, if_neg h0, if_neg h1, if_neg h2, if_neg h3, if_pos rfl, ck_pos (show inb (2 + 4) 61 = true from (now_k 4 (by decide)).1), nm_eq, show ((2 : Int32) + 4).toNatClampNeg = 6 from (now_k 4 (by decide)).2]
  by_cases h5 : a1 = 5
  · subst h5
    refine fin_p hu (x := sumS (u.1 20) 0) ?_ ?_
    · show f_X5_now 5 u = _
      unfold f_X5_now
      rw [nm_eq, if_neg h0, if_neg h1, if_neg h2, if_neg h3, if_neg h4, if_pos rfl, q_ill hp0 hp8, bd_eq, e0]
    · show f_X6_now 5 u = _
      unfold f_X6_now
      rw [nm_eq, if_neg h0, if_neg h1, if_neg h2, if_neg h3, if_neg h4, if_pos rfl, p_tog hp hp8 (k := 0) (by decide) (x := 0) rfl, bd_eq]
  by_cases h6 : a1 = 6
  · subst h6
    refine fin_p hu (x := wellS (u.1 20)) ?_ ?_
    · show f_X5_now 6 u = _
      unfold f_X5_now
      rw [nm_eq, if_neg h0, if_neg h1, if_neg h2, if_neg h3, if_neg h4, if_neg h5, if_pos rfl, q_well hp0 hp8, bd_eq, e0]
    · show f_X6_now 6 u = _
      unfold f_X6_now
      rw [nm_eq, if_neg h0, if_neg h1, if_neg h2, if_neg h3, if_neg h4, if_neg h5, if_pos rfl, p_wo hp hp8, bd_eq]
  refine fin_fd hu (k := 0) (by decide) (x := -1000000001) ?_ (fun u' e => ?_)
  · show f_X5_now a1 u = _
    unfold f_X5_now
    rw [nm_eq, if_neg h0, if_neg h1, if_neg h2, if_neg h3, if_neg h4, if_neg h5, if_neg h6, c0, bd_eq]
  · show f_X6_now a1 u' = _
    unfold f_X6_now
    rw [nm_eq, if_neg h0, if_neg h1, if_neg h2, if_neg h3, if_neg h4, if_neg h5, if_neg h6, m0, bd_eq]
theorem st_count (a1 : Int32) : StepT Rel (fun u => f_X5_count a1 u) (fun u => f_X6_count a1 u) := by
  intro u hu
  obtain ⟨e0, ⟨m, p, w, d, t, hG, h2, hd, h4, ht⟩, -, -, ⟨nt, -, t1, t2, -⟩, -⟩ := id hu
  obtain ⟨hm, hm6, hp, hp8, -⟩ := id hG
  have hp0 : u.1 0 1 = nI p := by rw [e0]; exact hp
  by_cases h0 : a1 = 0
  · refine fin_p hu (x := u.1 20 0) ?_ ?_
    · show f_X5_count a1 u = _
      unfold f_X5_count
      rw [nm_eq, if_pos h0, e0]
    · show f_X6_count a1 u = _
      unfold f_X6_count
      rw [nm_eq, if_pos h0, tn0, nm_eq]
  by_cases h1 : a1 = 1
  · refine fin_p hu (x := nI nt) ?_ ?_
    · show f_X5_count a1 u = _
      unfold f_X5_count
      rw [nm_eq, if_neg h0, if_pos h1, t1]
    · show f_X6_count a1 u = _
      unfold f_X6_count
      rw [nm_eq, if_neg h0, if_pos h1, t2]
  by_cases h2 : a1 = 2
  · refine fin_p hu (x := u.1 20 1) ?_ ?_
    · show f_X5_count a1 u = _
      unfold f_X5_count
      rw [nm_eq, if_neg h0, if_neg h1, if_pos h2, e0]
    · show f_X6_count a1 u = _
      unfold f_X6_count
      rw [nm_eq, if_neg h0, if_neg h1, if_pos h2, tn1, nm_eq]
  by_cases h3 : a1 = 3
  · refine fin_p hu (x := sumS (u.1 20) 2) ?_ ?_
    · show f_X5_count a1 u = _
      unfold f_X5_count
      rw [nm_eq, if_neg h0, if_neg h1, if_neg h2, if_pos h3, q_bathed hp0 hp8, bd_eq, e0]
    · show f_X6_count a1 u = _
      unfold f_X6_count
      rw [nm_eq, if_neg h0, if_neg h1, if_neg h2, if_pos h3, p_tog hp hp8 (k := 2) (by decide) (x := 2) rfl, bd_eq]
  refine fin_fd hu (k := 0) (by decide) (x := -1000000001) ?_ (fun u' e => ?_)
  · show f_X5_count a1 u = _
    unfold f_X5_count
    rw [nm_eq, if_neg h0, if_neg h1, if_neg h2, if_neg h3, c0, bd_eq]
  · show f_X6_count a1 u' = _
    unfold f_X6_count
    rw [nm_eq, if_neg h0, if_neg h1, if_neg h2, if_neg h3, m0, bd_eq]
theorem p_ones_well {s : Nat → Int32} {p : Nat} (hp : s 1 = nI p) (hp8 : p ≤ 8) (u : Uw) : f_X6_ones (wellS s) u = some (bcI (wellS s), u) := by
  unfold wellS
  exact p_ones (by rw [hp, nI_clamp (by omega)]; omega) u
theorem l_days {m p w n : Nat} (hn : n ≤ 400) : ∀ (j i f : Nat) (u : Uw), GdW (u.1 0) m p w → i + j = n → j < f → lp b_X5_days_41 f (nI n, nI i, u) = some (bcI (wellS (itS j (u.1 0))), sR u 0 (itS j (u.1 0))) := by
  intro j
  induction j with
  | zero =>
    intro i f u hG h1 h2
    obtain ⟨f, rfl⟩ : ∃ k, f = k + 1 := ⟨f - 1, by omega⟩
    rw [lp_s]
    generalize lp b_X5_days_41 f = g
    unfold b_X5_days_41
    dsimp only
    rw [if_pos (nI_le (by omega) (by omega)), q_well hG.2.2.1 hG.2.2.2.1, bd_eq, p_bc, bd_eq, itS, sR_self]
  | succ j ih =>
    intro i f u hG h1 h2
    obtain ⟨f, rfl⟩ : ∃ k, f = k + 1 := ⟨f - 1, by omega⟩
    have ih2 := ih (i + 1) f (sR u 0 (dayS (u.1 0))) (by rw [sR_same]; exact hG.day) (by omega) (by omega)
    rw [lp_s]
    generalize lp b_X5_days_41 f = g at ih2 ⊢
    unfold b_X5_days_41
    dsimp only
    rw [if_neg (nI_ge (by omega) (by omega)), q_passDay hG, bd_eq, nI_1, ih2, sR_same, sR_sR, itS]
theorem l_goesOn {m p w n : Nat} (hn : n ≤ 2000) : ∀ (j i f : Nat) (u : Uw), GdW (u.1 20) m p w → i + j = n → j < f → lp b_X6_goesOn_2 f (nI n, nI i, u) = some ((), sR u 20 (itS j (u.1 20))) := by
  intro j
  induction j with
  | zero =>
    intro i f u hG h1 h2
    obtain ⟨f, rfl⟩ : ∃ k, f = k + 1 := ⟨f - 1, by omega⟩
    rw [lp_s]
    generalize lp b_X6_goesOn_2 f = g
    unfold b_X6_goesOn_2
    dsimp only
    rw [if_pos (nI_le (by omega) (by omega)), itS, sR_self]
  | succ j ih =>
    intro i f u hG h1 h2
    obtain ⟨f, rfl⟩ : ∃ k, f = k + 1 := ⟨f - 1, by omega⟩
    have ih2 := ih (i + 1) f (sR u 20 (dayS (u.1 20))) (by rw [sR_same]; exact hG.day) (by omega) (by omega)
    rw [lp_s]
    generalize lp b_X6_goesOn_2 f = g at ih2 ⊢
    unfold b_X6_goesOn_2
    dsimp only
    rw [if_neg (nI_ge (by omega) (by omega)), p_day hG, bd_eq, nI_1, ih2, sR_same, sR_sR, itS]
theorem p_goesOn {m p w n : Nat} (hn : n ≤ 2000) {u : Uw} (hG : GdW (u.1 20) m p w) : f_X6_goesOn (nI n) u = some ((), sR u 20 (itS n (u.1 20))) := by
  unfold f_X6_goesOn
  exact l_goesOn hn n 0 2100 u hG (by omega) (by omega)
theorem st_days (a1 : Int32) : StepT Rel (fun u => f_X5_days a1 u) (fun u => f_X6_days a1 u) := by
  intro u hu
  obtain ⟨e0, ⟨m, p, w, d, t, hG, h2, hd, h4, ht⟩, -⟩ := id hu
  have h20 : u.1 0 2 = nI d := by rw [e0]; exact h2
  have hG0 : GdW (u.1 0) m p w := by rw [e0]; exact hG
  by_cases hv : 1 ≤ a1 ∧ a1 ≤ 400
  · obtain ⟨n, n1, n2, rfl⟩ := nI_rng 1 400 (by decide) hv.1 hv.2 (by decide)
    by_cases hs : d + n ≤ 99999
    · refine fin_s hu (s := itS n (u.1 20)) ⟨m, p, w, d + n, t, hG.it n, it_2 n _ d h2, hs, (it_4 n _).trans h4, ht⟩ (x := bcI (wellS (itS n (u.1 20)))) ?_ (fun u' e => ?_)
      · show f_X5_days (nI n) u = _
        unfold f_X5_days
        rw [p_within, decide_eq_true hv, bd_eq, if_pos rfl, h20, show (99999 : Int32) = nI 99999 from rfl, pk_sub (by omega), if_pos (nI_le (by omega) (by omega)), show (0 : Int32) = nI 0 from rfl, l_days n2 n 0 2100 u hG0 (by omega) (by omega), e0]
      · have hG' : GdW (u'.1 20) m p w := by rw [e]; exact hG
        have hi := hG.it n
        show f_X6_days (nI n) u' = _
        unfold f_X6_days
        rw [L1, L400, p_in, decide_eq_true hv, bd_eq, if_pos rfl, tn2, nm_eq, e, h2, nI_add, if_pos (show nI (d + n) ≤ (99999 : Int32) from nI_le (b := 99999) hs (by decide)), p_goesOn (by omega) hG', bd_eq, p_wo (p := p) (by rw [sR_same, e]; exact hi.2.2.1) hi.2.2.2.1, bd_eq, sR_same, e, p_ones_well hi.2.2.1 hi.2.2.2.1, bd_eq]
    · refine fin_fd hu (k := 4) (by decide) (x := -1000000005) ?_ (fun u' e => ?_)
      · show f_X5_days (nI n) u = _
        unfold f_X5_days
        rw [p_within, decide_eq_true hv, bd_eq, if_pos rfl, h20, show (99999 : Int32) = nI 99999 from rfl, pk_sub (by omega), if_neg (nI_ge (by omega) (by omega)), c4, bd_eq]
      · show f_X6_days (nI n) u' = _
        unfold f_X6_days
        rw [L1, L400, p_in, decide_eq_true hv, bd_eq, if_pos rfl, tn2, nm_eq, e, h2, nI_add, if_neg (show ¬ nI (d + n) ≤ (99999 : Int32) from nI_ge (a := 99999) (by omega) (by omega)), m4, bd_eq]
  · refine fin_fd hu (k := 0) (by decide) (x := -1000000001) ?_ (fun u' e => ?_)
    · show f_X5_days a1 u = _
      unfold f_X5_days
      rw [p_within, decide_eq_false hv, bd_eq, if_neg (by decide), c0, bd_eq]
    · show f_X6_days a1 u' = _
      unfold f_X6_days
      rw [L1, L400, p_in, decide_eq_false hv, bd_eq, if_neg (by decide), m0, bd_eq]
/-- the first day from i on, among j days, that is so -/
def nxF (h : Int32 → Bool) : Nat → Nat → Option Nat
  | _, 0 => none
  | i, j + 1 => if h (nI i) = true then some i else nxF h (i + 1) j
def nxA (o : Option Nat) (u v : Uw) : Option (Int32 × Uw) := match o with
  | none => some (-1000000004, v)
  | some k => some (nI k, u)
theorem l_nextC {d c : Nat} {u : Uw} (hd : d ≤ 99999) (h2 : u.1 0 2 = nI d) (hc : c < 6) : ∀ (j i f : Nat), i + j = 401 → j < f → lp b_X5_next_22 f (cc 0 c, nI i, u) = nxA (nxF (holyF (row5 (u.1 0) (7 + 5 * c))) (d + i) j) u (fdC u 3) := by
  intro j
  induction j with
  | zero =>
    intro i f h1 h3
    obtain ⟨f, rfl⟩ : ∃ k, f = k + 1 := ⟨f - 1, by omega⟩
    rw [lp_s]
    generalize lp b_X5_next_22 f = g
    unfold b_X5_next_22
    dsimp only
    rw [if_pos (show (400 : Int32) < nI i from nI_lt (a := 400) (by omega) (by omega)), c3, bd_eq]
    rfl
  | succ j ih =>
    intro i f h1 h3
    obtain ⟨f, rfl⟩ : ∃ k, f = k + 1 := ⟨f - 1, by omega⟩
    have ih2 := ih (i + 1) f (by omega) (by omega)
    rw [lp_s]
    generalize lp b_X5_next_22 f = g at ih2 ⊢
    unfold b_X5_next_22
    dsimp only
    rw [if_neg (show ¬ (400 : Int32) < nI i from nI_nlt (a := 400) (by omega) (by omega)), ck_pos (q_cal hc).1, p_X0_isHoly (q_cal hc), bd_eq, h2, nI_add, nI_1, ih2, nxF, ← Nat.add_assoc]
    split <;> rfl
theorem l_nextM {d m p w : Nat} {u : Uw} {x : Int32} (hd : d ≤ 99999) (h2 : u.1 20 2 = nI d) (hG : GdW (u.1 20) m p w) : ∀ (j i f : Nat), i + j = 401 → j < f → lp b_X6_next_22 f (x, nI (d + i), u) = nxA (nxF (hb (u.1 20) x) (d + i) j) u (fdM u 3) := by
  intro j
  induction j with
  | zero =>
    intro i f h1 h3
    obtain ⟨f, rfl⟩ : ∃ k, f = k + 1 := ⟨f - 1, by omega⟩
    rw [lp_s]
    generalize lp b_X6_next_22 f = g
    unfold b_X6_next_22
    dsimp only
    rw [tn2, nm_eq, h2, show (400 : Int32) = nI 400 from rfl, nI_add, if_pos (nI_lt (by omega) (by omega)), m3, bd_eq]
    rfl
  | succ j ih =>
    intro i f h1 h3
    obtain ⟨f, rfl⟩ : ∃ k, f = k + 1 := ⟨f - 1, by omega⟩
    have ih2 := ih (i + 1) f (by omega) (by omega)
    rw [lp_s]
    generalize lp b_X6_next_22 f = g at ih2 ⊢
    unfold b_X6_next_22
    dsimp only
    rw [tn2, nm_eq, h2, show (400 : Int32) = nI 400 from rfl, nI_add, if_neg (nI_nlt (by omega) (by omega)), p_isHoly hG.1 hG.2.1 hG.len, bd_eq, nI_1, Nat.add_assoc, ih2, nxF, ← Nat.add_assoc]
    split <;> rfl
theorem st_next (a1 : Int32) : StepT Rel (fun u => f_X5_next a1 u) (fun u => f_X6_next a1 u) := by
  intro u hu
  obtain ⟨e0, ⟨m, p, w, d, t, hG, h2, hd, h4, ht⟩, -⟩ := id hu
  obtain ⟨hm, hm6, -⟩ := id hG
  have hm0 : u.1 0 0 = nI m := by rw [e0]; exact hm
  have h20 : u.1 0 2 = nI d := by rw [e0]; exact h2
  have out : (a1 < 0 ∨ nI m ≤ a1) → ∃ r u1 u2, f_X5_next a1 u = some (r, u1) ∧ f_X6_next a1 u1 = some (r, u2) ∧ Rel u2 := fun h => by
    refine fin_fd (f := fun u => f_X5_next a1 u) (g := fun u => f_X6_next a1 u) hu (k := 0) (by decide) (x := -1000000001) ?_ (fun u' e => ?_)
    · simp only [f_X5_next, q_calAt_out hm0 h, bd_eq, ro_none, c0]
    · simp only [f_X6_next, p_isCal_out (u := u') (by rw [e]; exact hm) hm6 h, bd_eq, m0, Bool.false_eq_true, if_false]
  rcases pk_ix a1 (n := m) (by omega) with h | h | ⟨c, hc, rfl⟩
  · exact out (Or.inl h)
  · exact out (Or.inr h)
  · have hc6 : c < 6 := by omega
    have eF : hb (u.1 20) (nI c) = holyF (row5 (u.1 20) (7 + 5 * c)) := funext fun x => hb_in hm hm6 hc
    have hC : f_X5_next (nI c) u = nxA (nxF (holyF (row5 (u.1 20) (7 + 5 * c))) d 401) u (fdC u 3) := by
      unfold f_X5_next
      rw [q_calAt_in hm0 hm6 hc, bd_eq, ro_some, show (0 : Int32) = nI 0 from rfl, l_nextC hd h20 hc6 401 0 2100 (by omega) (by omega), e0]
      rfl
    have hM : ∀ u', u'.1 20 = u.1 20 → f_X6_next (nI c) u' = nxA (nxF (holyF (row5 (u.1 20) (7 + 5 * c))) d 401) u' (fdM u' 3) := fun u' e => by
      have h := l_nextM (u := u') (x := nI c) hd (by rw [e]; exact h2) (by rw [e]; exact hG) 401 0 2100 (by omega) (by omega)
      rw [e, eF] at h
      unfold f_X6_next
      rw [p_isCal_in (u := u') (by rw [e]; exact hm) hm6 hc, bd_eq, if_pos rfl, tn2, nm_eq, e, h2]
      exact h
    cases hF : nxF (holyF (row5 (u.1 20) (7 + 5 * c))) d 401 with
    | none =>
      rw [hF] at hC
      refine fin_fd (f := fun u => f_X5_next (nI c) u) (g := fun u => f_X6_next (nI c) u) hu (k := 3) (by decide) (x := -1000000004) hC (fun u' e => ?_)
      have h := hM u' e
      rw [hF] at h
      exact h
    | some k =>
      rw [hF] at hC
      have h := hM u rfl
      rw [hF] at h
      exact fin_p (f := fun u => f_X5_next (nI c) u) (g := fun u => f_X6_next (nI c) u) hu (x := nI k) hC h
