/-! PURE 11: status, drink, sheet, write -/
def sumK (s : Nat → Int32) : Nat → Nat → Int32 → Int32
  | _, 0, acc => acc
  | i, j + 1, acc => sumK s (i + 1) j (acc + s i)
theorem sumK_congr {s s' : Nat → Int32} : ∀ (j i : Nat) (acc : Int32), (∀ k, k < i + j → s k = s' k) → sumK s i j acc = sumK s' i j acc := by
  intro j
  induction j with
  | zero => intro i acc _; rfl
  | succ j ih => intro i acc h; rw [sumK, sumK, h i (by omega), ih (i + 1) _ (fun k hk => h k (by omega))]
theorem l_statC : ∀ (j i f : Nat) (acc : Int32) (u : Uw), i + j = 7 → j < f → lp b_X5_status_32 f (acc, nI i, u) = some (sumK (u.1 3) i j acc, u) := by
  intro j
  induction j with
  | zero =>
    intro i f acc u h1 h2
    obtain ⟨f, rfl⟩ : ∃ k, f = k + 1 := ⟨f - 1, by omega⟩
    rw [lp_s]
    generalize lp b_X5_status_32 f = g
    unfold b_X5_status_32
    dsimp only
    rw [if_pos (show (7 : Int32) ≤ nI i from nI_le (a := 7) (by omega) (by omega))]
    rfl
  | succ j ih =>
    intro i f acc u h1 h2
    obtain ⟨f, rfl⟩ : ∃ k, f = k + 1 := ⟨f - 1, by omega⟩
    have ih2 := ih (i + 1) f (acc + u.1 3 i) u (by omega) (by omega)
    rw [lp_s]
    generalize lp b_X5_status_32 f = g at ih2 ⊢
    unfold b_X5_status_32
    dsimp only
    rw [if_neg (show ¬ (7 : Int32) ≤ nI i from nI_ge (b := 7) (by omega) (by decide)), ck_pos (inb_nI (by omega) (by decide)), nm_eq, nm_eq, nI_clamp (by omega), nI_1, ih2, sumK]
theorem l_statM : ∀ (j i f : Nat) (acc : Int32) (u : Uw), i + j = 7 → j < f → lp b_X6_status_25 f (-1, acc, nI i, u) = some (sumK (u.1 24) i j acc, u) := by
  intro j
  induction j with
  | zero =>
    intro i f acc u h1 h2
    obtain ⟨f, rfl⟩ : ∃ k, f = k + 1 := ⟨f - 1, by omega⟩
    rw [lp_s]
    generalize lp b_X6_status_25 f = g
    unfold b_X6_status_25
    dsimp only
    rw [if_pos (show (7 : Int32) ≤ nI i from nI_le (a := 7) (by omega) (by omega))]
    rfl
  | succ j ih =>
    intro i f acc u h1 h2
    obtain ⟨f, rfl⟩ : ∃ k, f = k + 1 := ⟨f - 1, by omega⟩
    have ih2 := ih (i + 1) f (acc + u.1 24 i) u (by omega) (by omega)
    rw [lp_s]
    generalize lp b_X6_status_25 f = g at ih2 ⊢
    unfold b_X6_status_25
    dsimp only
    rw [if_neg (show ¬ (7 : Int32) ≤ nI i from nI_ge (b := 7) (by omega) (by decide)), if_pos (show (-1 : Int32) < 0 by decide), ck_pos (inb_nI (by omega) (by decide)), nm_eq, nm_eq, nI_clamp (by omega), nI_1, ih2, sumK]
theorem l_statK {q : Nat} (hq : q < 7) : ∀ (j i f : Nat) (acc : Int32) (u : Uw), i + j = 7 → j < f → lp b_X6_status_25 f (nI q, acc, nI i, u) = some (if i ≤ q then acc + u.1 24 q else acc, u) := by
  intro j
  induction j with
  | zero =>
    intro i f acc u h1 h2
    obtain ⟨f, rfl⟩ : ∃ k, f = k + 1 := ⟨f - 1, by omega⟩
    rw [lp_s]
    generalize lp b_X6_status_25 f = g
    unfold b_X6_status_25
    dsimp only
    rw [if_pos (show (7 : Int32) ≤ nI i from nI_le (a := 7) (by omega) (by omega)), if_neg (by omega)]
  | succ j ih =>
    intro i f acc u h1 h2
    obtain ⟨f, rfl⟩ : ∃ k, f = k + 1 := ⟨f - 1, by omega⟩
    have ih2 := fun acc' => ih (i + 1) f acc' u (by omega) (by omega)
    rw [lp_s]
    generalize lp b_X6_status_25 f = g at ih2 ⊢
    unfold b_X6_status_25
    dsimp only
    rw [if_neg (show ¬ (7 : Int32) ≤ nI i from nI_ge (b := 7) (by omega) (by decide)), if_neg (nI_pos (by omega)), ck_pos (inb_nI (by omega) (by decide)), nm_eq, nm_eq, nm_eq, nI_clamp (by omega), nI_1, ih2, ih2, Int32.add_zero]
    by_cases e : i = q
    · subst e
      rw [if_pos rfl, if_neg (by omega), if_pos (by omega)]
    · rw [if_neg (fun z => e ((nI_eq (by omega) (by omega)).mp z))]
      by_cases h : i + 1 ≤ q
      · rw [if_pos h, if_pos (by omega)]
      · rw [if_neg h, if_neg (by omega)]
theorem st_status (a1 : Int32) : StepT Rel (fun u => f_X5_status a1 u) (fun u => f_X6_status a1 u) := by
  intro u hu
  obtain ⟨-, -, e3, -⟩ := id hu
  by_cases hv : -1 ≤ a1 ∧ a1 ≤ 6
  · by_cases hn : a1 < 0
    · have em : a1 = -1 := by
        rw [fa_le, fa_le] at hv
        rw [fa_lt] at hn
        rw [fa_eq]
        have z1 : (-1 : Int32).toInt = -1 := by decide
        have z0 : (0 : Int32).toInt = 0 := by decide
        omega
      subst em
      refine fin_p hu (x := sumK (u.1 3) 0 7 0) ?_ ?_
      · show f_X5_status (-1) u = _
        unfold f_X5_status
        rw [p_within, decide_eq_true hv, bd_eq, if_pos rfl, if_pos hn]
        exact l_statC 7 0 2100 0 u (by omega) (by omega)
      · show f_X6_status (-1) u = _
        unfold f_X6_status
        rw [Lm1, L6, p_in, decide_eq_true hv, bd_eq, if_pos rfl, sumK_congr 7 0 0 (fun k hk => e3 k (by omega))]
        exact l_statM 7 0 2100 0 u (by omega) (by omega)
    · obtain ⟨q, -, hq, rfl⟩ := nI_rng 0 6 (by decide) (show (0 : Int32) ≤ a1 from Int32.not_lt.mp hn) hv.2 (by decide)
      refine fin_p hu (x := u.1 3 q) ?_ ?_
      · show f_X5_status (nI q) u = _
        unfold f_X5_status
        rw [p_within, decide_eq_true hv, bd_eq, if_pos rfl, if_neg hn, ck_pos (inb_nI (by omega) (by decide)), nm_eq, nI_clamp (by omega)]
      · show f_X6_status (nI q) u = _
        unfold f_X6_status
        rw [Lm1, L6, p_in, decide_eq_true hv, bd_eq, if_pos rfl, e3 q (by omega)]
        have h := l_statK (q := q) (by omega) 7 0 2100 0 u (by omega) (by omega)
        rw [if_pos (Nat.zero_le q), Int32.zero_add] at h
        exact h
  · refine fin_fd hu (k := 0) (by decide) (x := -1000000001) ?_ (fun u' e => ?_)
    · show f_X5_status a1 u = _
      unfold f_X5_status
      rw [p_within, decide_eq_false hv, bd_eq, if_neg (by decide), c0, bd_eq]
    · show f_X6_status a1 u' = _
      unfold f_X6_status
      rw [Lm1, L6, p_in, decide_eq_false hv, bd_eq, if_neg (by decide), m0, bd_eq]
/-! drink -/
theorem GdW.jug {s : Nat → Int32} {m p w : Nat} (h : GdW s m p w) {k g : Nat} (hk : k = 5 ∨ k = 6) (hg : g ≤ 99) : GdW (upd s k (nI g)) m p w := by
  obtain ⟨a1, a2, a3, a4, a5, a6, a7, a8, a9, a10⟩ := h
  refine ⟨by rw [upd_ne (by omega)]; exact a1, a2, by rw [upd_ne (by omega)]; exact a3, a4, by rw [upd_ne (by omega)]; exact a5, a6, ?_, ?_, fun c hc => ?_, fun q hq => ?_⟩
  · rcases hk with rfl | rfl
    · exact ⟨g, hg, upd_at⟩
    · rw [upd_ne (by decide)]; exact a7
  · rcases hk with rfl | rfl
    · rw [upd_ne (by decide)]; exact a8
    · exact ⟨g, hg, upd_at⟩
  · have h9 := a9 c hc
    unfold CalOk row5 at h9 ⊢
    rw [upd_ne (by omega), upd_ne (by omega), upd_ne (by omega), upd_ne (by omega), upd_ne (by omega)]
    exact h9
  · have h10 := a10 q hq
    unfold getT at h10 ⊢
    rw [upd_ne (by omega), upd_ne (by omega), upd_ne (by omega)]
    exact h10
theorem q_jug1n {u : Uw} (h : u.1 0 5 = nI 0) : f_X3_takeJug 0 1 u = some (false, u) := by
  unfold f_X3_takeJug
  rw [if_neg (by decide), ck_pos s0t, s0r, s0o, Nat.zero_add, h, if_pos (by decide), if_neg (by decide)]
theorem q_jug1s {u : Uw} {g : Nat} (hg : g < 99) (h : u.1 0 5 = nI (g + 1)) : f_X3_takeJug 0 1 u = some (true, sR u 0 (upd (u.1 0) 5 (nI g))) := by
  unfold f_X3_takeJug
  rw [if_neg (by decide), ck_pos s0t, s0r, s0o, Nat.zero_add, h, if_neg (nI_nle (by omega) (by omega)), nm_eq, nI_pred, w1_sR]
theorem q_jug0n {u : Uw} (h : u.1 0 6 = nI 0) : f_X3_takeJug 0 0 u = some (false, u) := by
  unfold f_X3_takeJug
  rw [if_pos rfl, if_pos rfl, ck_pos s0t, s0r, s0o, Nat.zero_add, h, if_pos (by decide)]
theorem q_jug0s {u : Uw} {g : Nat} (hg : g < 99) (h : u.1 0 6 = nI (g + 1)) : f_X3_takeJug 0 0 u = some (true, sR u 0 (upd (u.1 0) 6 (nI g))) := by
  unfold f_X3_takeJug
  rw [if_pos rfl, if_pos rfl, ck_pos s0t, s0r, s0o, Nat.zero_add, h, if_neg (nI_nle (by omega) (by omega)), nm_eq, nI_pred, w1_sR]
theorem st_drink (a1 a2 : Int32) : StepT Rel (fun u => f_X5_drink a1 a2 u) (fun u => f_X6_drink a1 a2 u) := by
  intro u hu
  obtain ⟨e0, ⟨m, p, w, d, t, hG, h2, hd, h4, ht⟩, -⟩ := id hu
  obtain ⟨hm, hm6, hp, hp8, ew, hw, ⟨g5, b5, j5⟩, ⟨g6, b6, j6⟩, -, hps⟩ := id hG
  have hp0 : u.1 0 1 = nI p := by rw [e0]; exact hp
  have out : (a1 < 0 ∨ nI p ≤ a1) → ∃ r u1 u2, f_X5_drink a1 a2 u = some (r, u1) ∧ f_X6_drink a1 a2 u1 = some (r, u2) ∧ Rel u2 := fun h => by
    refine fin_fd (f := fun u => f_X5_drink a1 a2 u) (g := fun u => f_X6_drink a1 a2 u) hu (k := 0) (by decide) (x := -1000000001) ?_ (fun u' e => ?_)
    · simp only [f_X5_drink, q_pilAt_out hp0 h, bd_eq, ro_none, c0]
    · simp only [f_X6_drink, p_isPil_out (u := u') (by rw [e]; exact hp) hp8 h, bd_eq, m0, Bool.false_eq_true, if_false]
  rcases pk_ix a1 (n := p) (by omega) with h | h | ⟨q, hq, rfl⟩
  · exact out (Or.inl h)
  · exact out (Or.inr h)
  have hq8 : q < 8 := by omega
  have hpil := q_pil hq8
  obtain ⟨g1, g2, g3⟩ := id hpil
  obtain ⟨⟨i, hi, ei⟩, hPr⟩ := hps q hq
  have ei' : u.1 20 (37 + 3 * q) = nI i := ei
  by_cases hv : 0 ≤ a2 ∧ a2 ≤ 1
  · have good : ∀ (g : Bool) (k n : Nat), (k = 5 ∨ k = 6) → n ≤ 99 → Good (upd (upd (u.1 20) k (nI n)) (37 + 3 * q) (nI (watN i g w))) := fun g k n hk hn => by
      have hG2 := hG.jug (g := n) hk hn
      refine ⟨m, p, w, d, t, ?_, by rw [upd_ne (by omega), upd_ne (by omega)]; exact h2, hd, by rw [upd_ne (by omega), upd_ne (by omega)]; exact h4, ht⟩
      rw [set_ill]
      refine hG2.setT ⟨⟨watN i g w, ?_, rfl⟩, ?_⟩
      · unfold watN
        split <;> omega
      · rw [upd_ne (by omega), upd_ne (by omega)]; exact hPr
    obtain ⟨b, -, hb, rfl⟩ := nI_rng 0 1 (by decide) hv.1 hv.2 (by decide)
    rcases (show b = 0 ∨ b = 1 by omega) with rfl | rfl
    · cases g6 with
      | zero =>
        refine fin_fd hu (k := 4) (by decide) (x := -1000000005) ?_ (fun u' e => ?_)
        · show f_X5_drink (nI q) 0 u = _
          unfold f_X5_drink
          rw [q_pilAt_in hp0 hp8 hq, bd_eq, ro_some, p_within, decide_eq_true (show (0 : Int32) ≤ 0 ∧ (0 : Int32) ≤ 1 by decide), bd_eq, if_pos rfl, if_neg (by decide), q_jug0n (by rw [e0]; exact j6), bd_eq, if_neg (by decide), c4, bd_eq]
        · show f_X6_drink (nI q) 0 u' = _
          unfold f_X6_drink
          rw [p_isPil_in (u := u') (by rw [e]; exact hp) hp8 hq, bd_eq, if_pos rfl, L0, L1, p_in, decide_eq_true (show (0 : Int32) ≤ 0 ∧ (0 : Int32) ≤ 1 by decide), bd_eq, if_pos rfl, if_neg (by decide), tn6, nm_eq, e, j6, if_pos (show nI 0 = 0 from rfl), m4, bd_eq]
      | succ g =>
        refine fin_s hu (good false 6 g (Or.inr rfl) (by omega)) (x := nI (watN i false w)) ?_ (fun u' e => ?_)
        · show f_X5_drink (nI q) 0 u = _
          unfold f_X5_drink
          rw [q_pilAt_in hp0 hp8 hq, bd_eq, ro_some, p_within, decide_eq_true (show (0 : Int32) ≤ 0 ∧ (0 : Int32) ≤ 1 by decide), bd_eq, if_pos rfl, if_neg (by decide), q_jug0s (g := g) (by omega) (by rw [e0]; exact j6), bd_eq, if_pos rfl, ck_pos g1, show (0 : Int32) = bI false from rfl, p_takeWater hpil, bd_eq, g2, g3, sR_same, sR_sR, sR_same, Nat.add_zero, upd_at, e0, upd_ne (by omega), upd_ne (by decide), ei', ew, wat_nat hi hw.2]
        · have hG' : GdW (u'.1 20) m p w := by rw [e]; exact hG
          show f_X6_drink (nI q) 0 u' = _
          unfold f_X6_drink
          rw [p_isPil_in (u := u') (by rw [e]; exact hp) hp8 hq, bd_eq, if_pos rfl, L0, L1, p_in, decide_eq_true (show (0 : Int32) ≤ 0 ∧ (0 : Int32) ≤ 1 by decide), bd_eq, if_pos rfl, if_neg (by decide), tn6, nm_eq, e, j6, if_neg (nI_ne0 (by omega) (by omega)), nm_eq, nm_eq, nI_pred, w1_sR, if_neg (by decide), show (0 : Int32) = bI false from rfl, p_helps hq8 hi hw.2 (by rw [sR_same, e, upd_ne (by omega)]; exact ei') (by rw [sR_same, e, upd_ne (by decide)]; exact ew), bd_eq, sR_same, sR_sR, p_isOf hq8 (show 0 < 3 by decide) (x := bI false) rfl, bd_eq, sR_same, Nat.add_zero, upd_at, e]
    · cases g5 with
      | zero =>
        refine fin_fd hu (k := 4) (by decide) (x := -1000000005) ?_ (fun u' e => ?_)
        · show f_X5_drink (nI q) 1 u = _
          unfold f_X5_drink
          rw [q_pilAt_in hp0 hp8 hq, bd_eq, ro_some, p_within, decide_eq_true (show (0 : Int32) ≤ 1 ∧ (1 : Int32) ≤ 1 by decide), bd_eq, if_pos rfl, if_pos rfl, q_jug1n (by rw [e0]; exact j5), bd_eq, if_neg (by decide), c4, bd_eq]
        · show f_X6_drink (nI q) 1 u' = _
          unfold f_X6_drink
          rw [p_isPil_in (u := u') (by rw [e]; exact hp) hp8 hq, bd_eq, if_pos rfl, L0, L1, p_in, decide_eq_true (show (0 : Int32) ≤ 1 ∧ (1 : Int32) ≤ 1 by decide), bd_eq, if_pos rfl, if_pos rfl, tn5, nm_eq, e, j5, if_pos (show nI 0 = 0 from rfl), m4, bd_eq]
      | succ g =>
        refine fin_s hu (good true 5 g (Or.inl rfl) (by omega)) (x := nI (watN i true w)) ?_ (fun u' e => ?_)
        · show f_X5_drink (nI q) 1 u = _
          unfold f_X5_drink
          rw [q_pilAt_in hp0 hp8 hq, bd_eq, ro_some, p_within, decide_eq_true (show (0 : Int32) ≤ 1 ∧ (1 : Int32) ≤ 1 by decide), bd_eq, if_pos rfl, if_pos rfl, q_jug1s (g := g) (by omega) (by rw [e0]; exact j5), bd_eq, if_pos rfl, ck_pos g1, show (1 : Int32) = bI true from rfl, p_takeWater hpil, bd_eq, g2, g3, sR_same, sR_sR, sR_same, Nat.add_zero, upd_at, e0, upd_ne (by omega), upd_ne (by decide), ei', ew, wat_nat hi hw.2]
        · have hG' : GdW (u'.1 20) m p w := by rw [e]; exact hG
          show f_X6_drink (nI q) 1 u' = _
          unfold f_X6_drink
          rw [p_isPil_in (u := u') (by rw [e]; exact hp) hp8 hq, bd_eq, if_pos rfl, L0, L1, p_in, decide_eq_true (show (0 : Int32) ≤ 1 ∧ (1 : Int32) ≤ 1 by decide), bd_eq, if_pos rfl, if_pos rfl, tn5, nm_eq, e, j5, if_neg (nI_ne0 (by omega) (by omega)), nm_eq, nm_eq, nI_pred, w1_sR, if_pos rfl, show (1 : Int32) = bI true from rfl, p_helps hq8 hi hw.2 (by rw [sR_same, e, upd_ne (by omega)]; exact ei') (by rw [sR_same, e, upd_ne (by decide)]; exact ew), bd_eq, sR_same, sR_sR, p_isOf hq8 (show 0 < 3 by decide) (x := (0 : Int32)) rfl, bd_eq, sR_same, Nat.add_zero, upd_at, e]
  · refine fin_fd hu (k := 0) (by decide) (x := -1000000001) ?_ (fun u' e => ?_)
    · show f_X5_drink (nI q) a2 u = _
      unfold f_X5_drink
      rw [q_pilAt_in hp0 hp8 hq, bd_eq, ro_some, p_within, decide_eq_false hv, bd_eq, if_neg (by decide), c0, bd_eq]
    · show f_X6_drink (nI q) a2 u' = _
      unfold f_X6_drink
      rw [p_isPil_in (u := u') (by rw [e]; exact hp) hp8 hq, bd_eq, if_pos rfl, L0, L1, p_in, decide_eq_false hv, bd_eq, if_neg (by decide), m0, bd_eq]
