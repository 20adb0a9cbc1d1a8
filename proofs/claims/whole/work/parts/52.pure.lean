/-! PURE 13: write -/
def lowF (b : Int32) (v : Int64) : Int64 := if b = 8 then v.toInt32.toInt8.toInt32.toInt64 else if b = 16 then v.toInt32.toInt16.toInt32.toInt64 else v
theorem p_narrowed (b : Int32) (v : Int64) (u : Uw) : f_X6_narrowed b v u = some (lowF b v, u) := by
  unfold f_X6_narrowed lowF
  split
  · rfl
  · split <;> rfl
theorem p_lowest {a : Nat} (ha : a < 4) (v : Int64) (u : Uw) : f_X2_lowest (73 + a) v u = some (lowF (u.1 (10 + a) 0) v, u) := by
  unfold f_X2_lowest lowF
  rw [ck_pos (sh_t a ha), sh_r a ha, sh_o a ha, Nat.zero_add]
  split
  · rfl
  · split <;> rfl
theorem p_isMissing {a : Nat} (ha : a < 4) (u : Uw) : f_X2_isMissing (73 + a) u = some (decide (u.1 (10 + a) 0 = 0), u) := by
  unfold f_X2_isMissing
  rw [ck_pos (sh_t a ha), sh_r a ha, sh_o a ha, Nat.zero_add]
  by_cases h : u.1 (10 + a) 0 = 0
  · rw [if_pos h, decide_eq_true h]
  · rw [if_neg h, decide_eq_false h]
theorem p_numberAt {a i n : Nat} (ha : a < 4) (hn : n ≤ 40) (hi : i < n) {u : Uw} (h : u.1 (10 + a) 1 = nI n) : f_X2_numberAt (73 + a) (nI i) u = some (u.2 (10 + a) i, u) := by
  unfold f_X2_numberAt
  rw [if_neg (nI_pos (by omega)), ck_pos (sh_t a ha), sh_r a ha, sh_o a ha, Nat.zero_add, h, if_neg (nI_ge hi (by omega)), ck_pos (sh_a a ha), sh_al a ha, ck_pos (inb_nI (by omega) (by decide)), sh_ar a ha, nm_eq, nI_clamp (by omega)]
theorem p_put {a i n : Nat} (ha : a < 4) (hn : n ≤ 40) (hi : i < n) {u : Uw} (h : u.1 (10 + a) 1 = nI n) (v : Int64) : f_X2_put (73 + a) (nI i) v u = some ((), sL u (10 + a) (uL (u.2 (10 + a)) i (lowF (u.1 (10 + a) 0) v))) := by
  unfold f_X2_put
  rw [if_neg (nI_pos (by omega)), ck_pos (sh_t a ha), sh_r a ha, sh_o a ha, Nat.zero_add, h, if_neg (nI_ge hi (by omega)), p_lowest ha, bd_eq, ck_pos (sh_a a ha), sh_al a ha, ck_pos (inb_nI (by omega) (by decide)), sh_ar a ha, nm_eq, nI_clamp (by omega), w2_sL]
theorem p_wrong_out {x : Int32} (hx : x < 0 ∨ nI 4 ≤ x) (u : Uw) : f_X6_wrongSheet x u = some (-1000000001, u) := by
  unfold f_X6_wrongSheet
  rw [p_isOne_out hx, bd_eq, if_neg (by decide)]
theorem p_wrong_0 {a : Nat} (ha : a < 4) {u : Uw} (h : u.1 27 a = 0) : f_X6_wrongSheet (nI a) u = some (-1000000006, u) := by
  unfold f_X6_wrongSheet
  rw [p_isOne_in ha, bd_eq, if_pos rfl, ck_pos (inb_nI ha (by decide)), nm_eq, nI_clamp (by omega), if_pos h]
theorem p_wrong_n {a : Nat} (ha : a < 4) {u : Uw} (h : ¬ u.1 27 a = 0) : f_X6_wrongSheet (nI a) u = some (0, u) := by
  unfold f_X6_wrongSheet
  rw [p_isOne_in ha, bd_eq, if_pos rfl, ck_pos (inb_nI ha (by decide)), nm_eq, nI_clamp (by omega), if_neg h]
theorem up_to {n : Nat} (hn : n ≤ 40) {x : Int32} (h : 0 ≤ x ∧ x ≤ nI n - 1) : ∃ i, i < n ∧ x = nI i := by
  cases n with
  | zero =>
    have h1 := h.1
    have h2 := h.2
    rw [fa_le] at h1 h2
    have z0 : (0 : Int32).toInt = 0 := by decide
    have z1 : (nI 0 - 1).toInt = -1 := by decide
    omega
  | succ n =>
    rw [nI_pred] at h
    obtain ⟨i, -, hi, e⟩ := nI_rng 0 n (by omega) h.1 h.2 (by omega)
    exact ⟨i, by omega, e⟩
theorem fd_27 {u : Uw} {k : Nat} : (fdC u k).1 27 = u.1 27 := sR_ne (by decide)
theorem fd_28 {u : Uw} {k : Nat} : (fdC u k).1 28 = u.1 28 := sR_ne (by decide)
theorem st_write (a1 a2 : Int32) (a3 : Int64) : StepT Rel (fun u => f_X5_write a1 a2 a3 u) (fun u => f_X6_write a1 a2 a3 u) := by
  intro u hu
  obtain ⟨-, -, -, -, -, hS⟩ := id hu
  have out : (a1 < 0 ∨ nI 4 ≤ a1) → ∃ r u1 u2, f_X5_write a1 a2 a3 u = some (r, u1) ∧ f_X6_write a1 a2 a3 u1 = some (r, u2) ∧ Rel u2 := fun h => by
    refine fin_fd (f := fun u => f_X5_write a1 a2 a3 u) (g := fun u => f_X6_write a1 a2 a3 u) hu (k := 0) (by decide) (x := (-1000000001 : Int32).toInt64) ?_ (fun u' e => ?_)
    · show f_X5_write a1 a2 a3 u = _
      unfold f_X5_write
      rw [p_sheetAt_out h, bd_eq, ro_none, c0, bd_eq]
    · show f_X6_write a1 a2 a3 u' = _
      unfold f_X6_write
      rw [p_wrong_out h, bd_eq, if_neg (by decide), m0, bd_eq]
  rcases pk_ix a1 (n := 4) (by omega) with h | h | ⟨a, ha, rfl⟩
  · exact out (Or.inl h)
  · exact out (Or.inr h)
  obtain ⟨s1, s2, s3, ⟨n, hn, sn⟩, s5⟩ := hS a ha
  by_cases hb : u.1 27 a = 0
  · refine ⟨(-1000000006 : Int32).toInt64, fdC u 5, fdM (fdC u 5) 5, ?_, ?_, hu.fd (by decide)⟩
    · show f_X5_write (nI a) a2 a3 u = _
      unfold f_X5_write
      rw [p_sheetAt_in ha, bd_eq, ro_some, ck_pos (sh_t a ha), p_isMissing ha, s1, decide_eq_true hb, bd_eq, if_pos rfl, c5, bd_eq]
    · show f_X6_write (nI a) a2 a3 _ = _
      unfold f_X6_write
      rw [p_wrong_0 ha (by rw [fd_27]; exact hb), bd_eq, if_neg (by decide), m5, bd_eq]
  · by_cases hv : 0 ≤ a2 ∧ a2 ≤ nI n - 1
    · obtain ⟨i, hi, rfl⟩ := up_to hn hv
      have e29 : ∀ z : Nat → Int64, (sL u (10 + a) z).2 29 = u.2 29 := fun z => sL_ne (by omega)
      refine ⟨u.2 (10 + a) i, sL u (10 + a) (uL (u.2 (10 + a)) i (lowF (u.1 27 a) a3)), sL (sL u (10 + a) (uL (u.2 (10 + a)) i (lowF (u.1 27 a) a3))) 29 (uL (u.2 29) (40 * a + i) (lowF (u.1 27 a) a3)), ?_, ?_, ?_⟩
      · show f_X5_write (nI a) (nI i) a3 u = _
        unfold f_X5_write
        rw [p_sheetAt_in ha, bd_eq, ro_some, ck_pos (sh_t a ha), p_isMissing ha, s1, decide_eq_false hb, bd_eq, if_neg (by decide), p_within, sh_r a ha, sh_o a ha, Nat.zero_add, s2, sn, decide_eq_true hv, bd_eq, if_pos rfl, p_numberAt ha hn hi (s2.trans sn), bd_eq, p_put ha hn hi (s2.trans sn), bd_eq, s1]
      · show f_X6_write (nI a) (nI i) a3 _ = _
        unfold f_X6_write
        rw [p_wrong_n ha (show ¬ (sL u (10 + a) _).1 27 a = 0 from hb), bd_eq, if_pos rfl, ck_pos (inb_nI ha (by decide)), nm_eq, nI_clamp (by omega), sL_1, sn, L0, p_in, decide_eq_true hv, bd_eq, if_pos rfl, ix160, ck_pos (inb_nI (by omega) (by decide)), nm_eq, nm_eq, p_narrowed, bd_eq, nm_eq, nI_clamp (by omega), w2_sL, e29, sL_1, s5 i (by omega)]
      · refine hu.sheets (fun r hr h27 h28 => rfl) (fun j hj => ?_)
        have hs := hS j hj
        unfold SheetR at hs ⊢
        simp only [sL_1, sL_same, sL_ne (show 10 + j ≠ 29 by omega)]
        refine ⟨hs.1, hs.2.1, hs.2.2.1, hs.2.2.2.1, fun k hk => ?_⟩
        by_cases e : j = a
        · subst e
          rw [sL_same]
          by_cases ek : k = i
          · subst ek
            rw [uL_at, uL_at]
          · rw [uL_ne ek, uL_ne (by omega)]
            exact hs.2.2.2.2 k hk
        · rw [sL_ne (by omega), uL_ne (by omega)]
          exact hs.2.2.2.2 k hk
    · refine ⟨(-1000000001 : Int32).toInt64, fdC u 0, fdM (fdC u 0) 0, ?_, ?_, hu.fd (by decide)⟩
      · show f_X5_write (nI a) a2 a3 u = _
        unfold f_X5_write
        rw [p_sheetAt_in ha, bd_eq, ro_some, ck_pos (sh_t a ha), p_isMissing ha, s1, decide_eq_false hb, bd_eq, if_neg (by decide), p_within, sh_r a ha, sh_o a ha, Nat.zero_add, s2, sn, decide_eq_false hv, bd_eq, if_neg (by decide), c0, bd_eq]
      · show f_X6_write (nI a) a2 a3 _ = _
        unfold f_X6_write
        rw [p_wrong_n ha (by rw [fd_27]; exact hb), bd_eq, if_pos rfl, ck_pos (inb_nI ha (by decide)), nm_eq, nI_clamp (by omega), fd_28, sn, L0, p_in, decide_eq_false hv, bd_eq, if_neg (by decide), m0, bd_eq]
