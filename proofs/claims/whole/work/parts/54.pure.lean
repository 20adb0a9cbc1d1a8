/-! PURE 15: lays -/
theorem p_in64 (x lo hi : Int64) (u : Uw) : f_X6_in x lo hi u = some (decide (lo ≤ x ∧ x ≤ hi), u) := by
  unfold f_X6_in
  simp only [lg_cmp_lt, lg_cmp_gt]
  by_cases h1 : x < lo
  · rw [if_pos h1, decide_eq_false (fun q => Int64.not_lt.mpr q.1 h1)]
  · rw [if_neg h1]
    by_cases h2 : hi < x
    · rw [if_pos h2, decide_eq_false (fun q => Int64.not_lt.mpr q.2 h2)]
    · rw [if_neg h2, decide_eq_true ⟨Int64.not_lt.mp h1, Int64.not_lt.mp h2⟩]
theorem lg_99 {x : Int64} (h : 0 ≤ x ∧ x ≤ 99) : ∃ k, k ≤ 99 ∧ x.toInt32 = nI k := by
  obtain ⟨h1, h2⟩ := h
  rw [Int64.le_iff_toInt_le] at h1 h2
  have z0 : (0 : Int64).toInt = 0 := by decide
  have z9 : (99 : Int64).toInt = 99 := by decide
  rw [z0] at h1
  rw [z9] at h2
  refine ⟨x.toInt.toNat, by omega, ?_⟩
  have e : x = lN x.toInt.toNat := by
    rw [← Int64.toInt_inj, lN_toInt (by omega)]
    omega
  rw [← lN_i, ← e]
def laF (num : Nat → Int64) : Nat → Nat → Int32 → (Nat → Int32) → Int32 × (Nat → Int32)
  | 0, _, acc, s => (acc, s)
  | j + 1, i, acc, s => if 0 ≤ num i ∧ num i ≤ 99 then laF num j (i + 1) (acc + 1) (upd s (37 + 3 * i) (num i).toInt32) else laF num j (i + 1) acc s
theorem laF_step {s : Nat → Int32} {m p w i : Nat} (h : GdW s m p w) (hi : i < p) {x : Int64} (hx : 0 ≤ x ∧ x ≤ 99) : GdW (upd s (37 + 3 * i) x.toInt32) m p w := by
  obtain ⟨k, hk, e⟩ := lg_99 hx
  rw [set_ill, e]
  exact h.setT ⟨⟨k, hk, rfl⟩, (h.2.2.2.2.2.2.2.2.2 i hi).2⟩
theorem laF_ok {num : Nat → Int64} {m p w : Nat} : ∀ (j i : Nat) (acc : Int32) (s : Nat → Int32), GdW s m p w → i + j ≤ p → GdW (laF num j i acc s).2 m p w ∧ (laF num j i acc s).2 2 = s 2 ∧ (laF num j i acc s).2 4 = s 4 := by
  intro j
  induction j with
  | zero => intro i acc s h _; exact ⟨h, rfl, rfl⟩
  | succ j ih =>
    intro i acc s h hp
    rw [laF]
    split
    · rename_i hx
      obtain ⟨a, b, c⟩ := ih (i + 1) (acc + 1) _ (laF_step (i := i) h (by omega) hx) (by omega)
      exact ⟨a, b.trans (upd_ne (by omega)), c.trans (upd_ne (by omega))⟩
    · exact ih (i + 1) acc s h (by omega)
theorem laF_congr {f g : Nat → Int64} : ∀ (j i : Nat) (acc : Int32) (s : Nat → Int32), (∀ k, k < i + j → f k = g k) → laF f j i acc s = laF g j i acc s := by
  intro j
  induction j with
  | zero => intro i acc s _; rfl
  | succ j ih =>
    intro i acc s h
    rw [laF, laF, h i (by omega), ih (i + 1) _ _ (fun k hk => h k (by omega)), ih (i + 1) _ _ (fun k hk => h k (by omega))]
theorem l_laysE {a n p : Nat} (ha : a < 4) (hn : n ≤ 40) (hp8 : p ≤ 8) {acc : Int32} {u : Uw} (hs : u.1 (10 + a) 1 = nI n) (hp : u.1 0 1 = nI p) : ∀ (j i f : Nat), p ≤ i → n ≤ i + j → i ≤ 48 → j < f → lp b_X5_lays_36 f (73 + a, acc, nI i, u) = some (acc, u) := by
  intro j
  induction j with
  | zero =>
    intro i f h1 h2 h4 h3
    obtain ⟨f, rfl⟩ : ∃ k, f = k + 1 := ⟨f - 1, by omega⟩
    rw [lp_s]
    generalize lp b_X5_lays_36 f = g
    unfold b_X5_lays_36
    dsimp only
    rw [ck_pos (sh_t a ha), sh_r a ha, sh_o a ha, Nat.zero_add, hs, if_pos (nI_le (by omega) (by omega))]
  | succ j ih =>
    intro i f h1 h2 h4 h3
    obtain ⟨f, rfl⟩ : ∃ k, f = k + 1 := ⟨f - 1, by omega⟩
    by_cases hin : i < n
    · have ih2 := ih (i + 1) f (by omega) (by omega) (by omega) (by omega)
      rw [lp_s]
      generalize lp b_X5_lays_36 f = g at ih2 ⊢
      unfold b_X5_lays_36
      dsimp only
      rw [ck_pos (sh_t a ha), sh_r a ha, sh_o a ha, Nat.zero_add, hs, if_neg (nI_ge hin (by omega)), q_pilAt_out hp (Or.inr (nI_le h1 (by omega))), bd_eq, ro_none, p_numberAt ha hn hin hs, bd_eq, nI_1, ih2]
    · rw [lp_s]
      generalize lp b_X5_lays_36 f = g
      unfold b_X5_lays_36
      dsimp only
      rw [ck_pos (sh_t a ha), sh_r a ha, sh_o a ha, Nat.zero_add, hs, if_pos (nI_le (by omega) (by omega))]
theorem l_laysC {a n m p w : Nat} (ha : a < 4) (hn : n ≤ 40) : ∀ (j i f : Nat) (acc : Int32) (u : Uw), GdW (u.1 0) m p w → u.1 (10 + a) 1 = nI n → i + j = min n p → n + 1 < f + i → lp b_X5_lays_36 f (73 + a, acc, nI i, u) = some ((laF (u.2 (10 + a)) j i acc (u.1 0)).1, sR u 0 (laF (u.2 (10 + a)) j i acc (u.1 0)).2) := by
  intro j
  induction j with
  | zero =>
    intro i f acc u hG hs h1 h2
    have hp8 := hG.2.2.2.1
    rw [laF, sR_self]
    by_cases hpi : p ≤ i
    · exact l_laysE ha hn hp8 hs hG.2.2.1 (n - i) i f hpi (by omega) (by omega) (by omega)
    · obtain ⟨f, rfl⟩ : ∃ k, f = k + 1 := ⟨f - 1, by omega⟩
      rw [lp_s]
      generalize lp b_X5_lays_36 f = g
      unfold b_X5_lays_36
      dsimp only
      rw [ck_pos (sh_t a ha), sh_r a ha, sh_o a ha, Nat.zero_add, hs, if_pos (nI_le (by omega) (by omega))]
  | succ j ih =>
    intro i f acc u hG hs h1 h2
    have hp8 := hG.2.2.2.1
    have hi8 : i < 8 := by omega
    obtain ⟨g1, g2, g3⟩ := q_pil hi8
    obtain ⟨f, rfl⟩ : ∃ k, f = k + 1 := ⟨f - 1, by omega⟩
    have ih2 := ih (i + 1) f acc u hG hs (by omega) (by omega)
    have ih3 := fun (hx : 0 ≤ u.2 (10 + a) i ∧ u.2 (10 + a) i ≤ 99) => ih (i + 1) f (acc + 1) (sR u 0 (upd (u.1 0) (37 + 3 * i) (u.2 (10 + a) i).toInt32)) (by rw [sR_same]; exact laF_step hG (by omega) hx) (by rw [sR_ne (by omega)]; exact hs) (by omega) (by omega)
    rw [lp_s]
    generalize lp b_X5_lays_36 f = g at ih2 ih3 ⊢
    unfold b_X5_lays_36
    dsimp only
    rw [ck_pos (sh_t a ha), sh_r a ha, sh_o a ha, Nat.zero_add, hs, if_neg (nI_ge (by omega) (by omega)), q_pilAt_in hG.2.2.1 hp8 (by omega), bd_eq, ro_some, p_numberAt ha hn (by omega) hs, bd_eq, nI_1, laF]
    simp only [lg_cmp_lt, lg_cmp_gt]
    by_cases h0 : u.2 (10 + a) i < 0
    · rw [if_pos h0, if_neg (fun q => Int64.not_lt.mpr q.1 h0)]
      exact ih2
    · rw [if_neg h0]
      by_cases h9 : 99 < u.2 (10 + a) i
      · rw [if_pos h9, if_neg (fun q => Int64.not_lt.mpr q.2 h9)]
        exact ih2
      · have hx : 0 ≤ u.2 (10 + a) i ∧ u.2 (10 + a) i ≤ 99 := ⟨Int64.not_lt.mp h0, Int64.not_lt.mp h9⟩
        rw [if_neg h9, if_pos hx, ck_pos g1, g2, g3, nm_eq, show 37 + 3 * i + 0 = 37 + 3 * i from rfl, w1_sR, ih3 hx, sR_same, sR_sR, sR_2]
theorem l_laysM {a n m p w : Nat} (ha : a < 4) (hn : n ≤ 40) : ∀ (j i f : Nat) (acc : Int32) (u : Uw), GdW (u.1 20) m p w → u.1 28 a = nI n → i + j = min n p → j < f → lp b_X6_lays_21 f (nI a, acc, nI i, u) = some ((laF (fun k => u.2 29 (40 * a + k)) j i acc (u.1 20)).1, sR u 20 (laF (fun k => u.2 29 (40 * a + k)) j i acc (u.1 20)).2) := by
  intro j
  induction j with
  | zero =>
    intro i f acc u hG hs h1 h2
    have hp8 := hG.2.2.2.1
    obtain ⟨f, rfl⟩ : ∃ k, f = k + 1 := ⟨f - 1, by omega⟩
    rw [laF, sR_self, lp_s]
    generalize lp b_X6_lays_21 f = g
    unfold b_X6_lays_21
    dsimp only
    rw [ck_pos (inb_nI ha (by decide)), nm_eq, nI_clamp (by omega), hs]
    by_cases hni : n ≤ i
    · rw [if_pos (nI_le hni (by omega))]
    · rw [if_neg (nI_ge (by omega) (by omega)), tn1, nm_eq, hG.2.2.1, if_pos (nI_le (by omega) (by omega))]
  | succ j ih =>
    intro i f acc u hG hs h1 h2
    have hp8 := hG.2.2.2.1
    have hi8 : i < 8 := by omega
    obtain ⟨f, rfl⟩ : ∃ k, f = k + 1 := ⟨f - 1, by omega⟩
    have ih2 := ih (i + 1) f acc u hG hs (by omega) (by omega)
    have ih3 := fun (hx : 0 ≤ u.2 29 (40 * a + i) ∧ u.2 29 (40 * a + i) ≤ 99) => ih (i + 1) f (acc + 1) (sR u 20 (upd (u.1 20) (37 + 3 * i) (u.2 29 (40 * a + i)).toInt32)) (by rw [sR_same]; exact laF_step hG (by omega) hx) (by rw [sR_ne (by decide)]; exact hs) (by omega) (by omega)
    rw [lp_s]
    generalize lp b_X6_lays_21 f = g at ih2 ih3 ⊢
    unfold b_X6_lays_21
    dsimp only
    rw [ck_pos (inb_nI ha (by decide)), nm_eq, nI_clamp (show a < 2 ^ 31 by omega), hs, if_neg (nI_ge (by omega) (by omega)), tn1, nm_eq, hG.2.2.1, if_neg (nI_ge (by omega) (by omega)), ix160, ck_pos (inb_nI (by omega) (by decide)), nm_eq, nI_clamp (show 40 * a + i < 2 ^ 31 by omega), p_in64, bd_eq, p_spot hi8 (show 0 < 3 by decide) (x := (0 : Int32)) rfl, bd_eq, Nat.add_zero, laF]
    by_cases hx : 0 ≤ u.2 29 (40 * a + i) ∧ u.2 29 (40 * a + i) ≤ 99
    · rw [decide_eq_true hx, if_pos hx, if_neg (by decide), nm_eq, ck_pos (inb_nI (by omega) (by decide)), nm_eq, nI_clamp (by omega), if_neg (by decide), nm_eq, nI_1, w1_sR, ih3 hx, sR_same, sR_sR, sR_2]
    · rw [decide_eq_false hx, if_neg hx, if_pos (by decide), p_isOf hi8 (show 0 < 3 by decide) (x := (0 : Int32)) rfl, bd_eq, ck_pos (inb_nI (by omega) (by decide)), nm_eq, nI_clamp (by omega), if_pos (by decide), nm_eq, nI_1, w1_sR, show 37 + 3 * i + 0 = 37 + 3 * i from rfl, upd_self, sR_self, Int32.add_zero, ih2]
theorem st_lays (a1 : Int32) : StepT Rel (fun u => f_X5_lays a1 u) (fun u => f_X6_lays a1 u) := by
  intro u hu
  obtain ⟨e0, ⟨m, p, w, d, t, hG, h2, hd, h4, ht⟩, -, -, -, hS⟩ := id hu
  have hG0 : GdW (u.1 0) m p w := by rw [e0]; exact hG
  have out : (a1 < 0 ∨ nI 4 ≤ a1) → ∃ r u1 u2, f_X5_lays a1 u = some (r, u1) ∧ f_X6_lays a1 u1 = some (r, u2) ∧ Rel u2 := fun h => by
    refine fin_fd (f := fun u => f_X5_lays a1 u) (g := fun u => f_X6_lays a1 u) hu (k := 0) (by decide) (x := -1000000001) ?_ (fun u' e => ?_)
    · show f_X5_lays a1 u = _
      unfold f_X5_lays
      rw [p_sheetAt_out h, bd_eq, ro_none, c0, bd_eq]
    · show f_X6_lays a1 u' = _
      unfold f_X6_lays
      rw [p_wrong_out h, bd_eq, if_neg (by decide), m0, bd_eq]
  rcases pk_ix a1 (n := 4) (by omega) with h | h | ⟨a, ha, rfl⟩
  · exact out (Or.inl h)
  · exact out (Or.inr h)
  obtain ⟨s1, s2, s3, ⟨n, hn, sn⟩, s5⟩ := hS a ha
  by_cases hb : u.1 27 a = 0
  · refine ⟨-1000000006, fdC u 5, fdM (fdC u 5) 5, ?_, ?_, hu.fd (by decide)⟩
    · show f_X5_lays (nI a) u = _
      unfold f_X5_lays
      rw [p_sheetAt_in ha, bd_eq, ro_some, ck_pos (sh_t a ha), p_isMissing ha, s1, decide_eq_true hb, bd_eq, if_pos rfl, c5, bd_eq]
    · show f_X6_lays (nI a) _ = _
      unfold f_X6_lays
      rw [p_wrong_0 ha (by rw [fd_27]; exact hb), bd_eq, if_neg (by decide), m5, bd_eq]
  · obtain ⟨k1, k2, k3⟩ := laF_ok (num := u.2 (10 + a)) (min n p) 0 0 (u.1 20) hG (by omega)
    refine ⟨(laF (u.2 (10 + a)) (min n p) 0 0 (u.1 20)).1, sR u 0 (laF (u.2 (10 + a)) (min n p) 0 0 (u.1 20)).2, _, ?_, ?_, hu.both (s := (laF (u.2 (10 + a)) (min n p) 0 0 (u.1 20)).2) ⟨m, p, w, d, t, k1, k2.trans h2, hd, k3.trans h4, ht⟩⟩
    · show f_X5_lays (nI a) u = _
      unfold f_X5_lays
      rw [p_sheetAt_in ha, bd_eq, ro_some, ck_pos (sh_t a ha), p_isMissing ha, s1, decide_eq_false hb, bd_eq, if_neg (by decide)]
      have h := l_laysC ha hn (min n p) 0 2100 0 u hG0 (s2.trans sn) (by omega) (by omega)
      rw [e0] at h
      exact h
    · show f_X6_lays (nI a) _ = _
      unfold f_X6_lays
      rw [p_wrong_n ha (by rw [sR_ne (by decide)]; exact hb), bd_eq, if_pos rfl]
      have h := l_laysM (m := m) (p := p) (w := w) ha hn (min n p) 0 2100 0 (sR u 0 (laF (u.2 (10 + a)) (min n p) 0 0 (u.1 20)).2) (by rw [sR_ne (by decide)]; exact hG) (by rw [sR_ne (by decide)]; exact sn) (by omega) (by omega)
      rw [sR_ne (show 20 ≠ 0 by decide), sR_2, laF_congr (f := fun k => u.2 29 (40 * a + k)) (g := u.2 (10 + a)) (min n p) 0 0 (u.1 20) (fun k hk => (s5 k (by omega)).symm)] at h
      exact h
