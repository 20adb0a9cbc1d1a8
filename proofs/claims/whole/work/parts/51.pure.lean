/-! PURE 12: sheet, write -/
def sL (u : Uw) (r : Nat) (s : Nat → Int64) : Uw := (u.1, fun a b => if a = r then s b else u.2 a b)
def uL (f : Nat → Int64) (k : Nat) (x : Int64) : Nat → Int64 := fun j => if j = k then x else f j
def zL (f : Nat → Int64) (i j : Nat) : Nat → Int64 := fun k => if i ≤ k ∧ k < i + j then 0 else f k
theorem sL_1 {u : Uw} {r : Nat} {s : Nat → Int64} : (sL u r s).1 = u.1 := rfl
theorem sL_same {u : Uw} {r : Nat} {s : Nat → Int64} : (sL u r s).2 r = s := by
  funext b
  exact if_pos rfl
theorem sL_ne {u : Uw} {r a : Nat} {s : Nat → Int64} (h : a ≠ r) : (sL u r s).2 a = u.2 a := by
  funext b
  exact if_neg h
theorem sL_sL {u : Uw} {r : Nat} {s s' : Nat → Int64} : sL (sL u r s) r s' = sL u r s' := by
  unfold sL
  simp only [Prod.mk.injEq, true_and]
  funext a b
  by_cases h : a = r <;> simp [h]
theorem sL_self {u : Uw} {r : Nat} : sL u r (u.2 r) = u := by
  unfold sL
  obtain ⟨f, g⟩ := u
  simp only [Prod.mk.injEq, true_and]
  funext a b
  by_cases h : a = r <;> simp [h]
theorem w2_sL {u : Uw} {r k : Nat} {x : Int64} : w2 u r k x = sL u r (uL (u.2 r) k x) := by
  unfold w2 sL uL
  simp only [Prod.mk.injEq, true_and]
  funext a b
  by_cases h : a = r <;> by_cases h2 : b = k <;> simp [h, h2]
theorem uL_at {f : Nat → Int64} {k : Nat} {x : Int64} : uL f k x k = x := if_pos rfl
theorem uL_ne {f : Nat → Int64} {k j : Nat} {x : Int64} (h : j ≠ k) : uL f k x j = f j := if_neg h
theorem zL_0 {f : Nat → Int64} {i : Nat} : zL f i 0 = f := funext fun k => if_neg (by omega)
theorem zL_step {f : Nat → Int64} {i j : Nat} : zL (uL f i 0) (i + 1) j = zL f i (j + 1) := by
  funext k
  unfold zL
  by_cases h : i + 1 ≤ k ∧ k < i + 1 + j
  · rw [if_pos h, if_pos (by omega)]
  · rw [if_neg h]
    by_cases e : k = i
    · subst e
      rw [uL_at, if_pos (by omega)]
    · rw [uL_ne e, if_neg (by omega)]
theorem sh_t : ∀ i, i < 4 → (kT (73 + i) == 2) = true := by decide +kernel
theorem sh_a : ∀ i, i < 4 → (kT (73 + i + 4) == 11) = true := by decide +kernel
theorem sh_r : ∀ i, i < 4 → kR (73 + i) = 10 + i := by decide +kernel
theorem sh_o : ∀ i, i < 4 → kO (73 + i) = 0 := by decide +kernel
theorem sh_ar : ∀ i, i < 4 → kR (73 + i + 4) = 10 + i := by decide +kernel
theorem sh_al : ∀ i, i < 4 → kL (73 + i + 4) = 40 := by decide +kernel
theorem p_sheetAt_in {a : Nat} (ha : a < 4) (u : Uw) : f_X5_sheetAt (nI a) u = some (some (73 + a), u) := by
  unfold f_X5_sheetAt
  rw [if_neg (nI_pos (by omega)), if_neg (show ¬ (4 : Int32) ≤ nI a from nI_ge (b := 4) ha (by decide)), ck_pos (inb_nI ha (by decide)), nm_eq, nI_clamp (by omega)]
theorem p_sheetAt_out {x : Int32} (hx : x < 0 ∨ nI 4 ≤ x) (u : Uw) : f_X5_sheetAt x u = some (none, u) := by
  unfold f_X5_sheetAt
  by_cases h : x < 0
  · rw [if_pos h]
  · rw [if_neg h, if_pos (show (4 : Int32) ≤ x from hx.resolve_left h)]
theorem p_isOne_in {a : Nat} (ha : a < 4) (u : Uw) : f_X6_isOne (nI a) u = some (true, u) := by
  unfold f_X6_isOne
  rw [L0, L3, p_in, bd_eq, decide_eq_true (⟨nI_pos' (by omega), show nI a ≤ (3 : Int32) from nI_le (b := 3) (by omega) (by decide)⟩ : (0 : Int32) ≤ nI a ∧ nI a ≤ 3)]
theorem p_isOne_out {x : Int32} (hx : x < 0 ∨ nI 4 ≤ x) (u : Uw) : f_X6_isOne x u = some (false, u) := by
  unfold f_X6_isOne
  have hn : ¬ ((0 : Int32) ≤ x ∧ x ≤ 3) := fun q => by
    rw [fa_le, fa_le] at q
    rw [fa_lt, fa_le] at hx
    have z0 : (0 : Int32).toInt = 0 := by decide
    have z3 : (3 : Int32).toInt = 3 := by decide
    have z4 : (nI 4).toInt = 4 := by decide
    omega
  rw [L0, L3, p_in, bd_eq, decide_eq_false hn]
theorem l_lay {a : Nat} (ha : a < 4) : ∀ (j i f : Nat) (u : Uw), i + j = 40 → j < f → lp b_X2_lay_29 f (73 + a, nI i, u) = some ((), sL u (10 + a) (zL (u.2 (10 + a)) i j)) := by
  intro j
  induction j with
  | zero =>
    intro i f u h1 h2
    obtain ⟨f, rfl⟩ : ∃ k, f = k + 1 := ⟨f - 1, by omega⟩
    rw [lp_s]
    generalize lp b_X2_lay_29 f = g
    unfold b_X2_lay_29
    dsimp only
    rw [ck_pos (sh_t a ha), ck_pos (sh_a a ha), sh_al a ha, if_pos (show Int32.ofNat 40 ≤ nI i from nI_le (a := 40) (by omega) (by omega)), zL_0, sL_self]
  | succ j ih =>
    intro i f u h1 h2
    obtain ⟨f, rfl⟩ : ∃ k, f = k + 1 := ⟨f - 1, by omega⟩
    have ih2 := ih (i + 1) f (sL u (10 + a) (uL (u.2 (10 + a)) i 0)) (by omega) (by omega)
    rw [lp_s]
    generalize lp b_X2_lay_29 f = g at ih2 ⊢
    unfold b_X2_lay_29
    dsimp only
    rw [ck_pos (sh_t a ha), ck_pos (sh_a a ha), sh_al a ha, if_neg (show ¬ Int32.ofNat 40 ≤ nI i from nI_ge (b := 40) (by omega) (by decide)), ck_pos (inb_nI (by omega) (by decide)), nm_eq, nI_clamp (by omega), sh_ar a ha, w2_sL, nI_1, ih2, sL_same, sL_sL, zL_step]
theorem clamp40 : ∀ n, n < 41 → mxI 0 (mnI 40 (nI n)) = nI n := by decide +kernel
def szF (b x : Int32) : Int32 := if b = 0 then 0 else x
theorem p_lay {a n : Nat} (ha : a < 4) (hn : n ≤ 40) (b : Int32) (u : Uw) : f_X2_lay (73 + a) b (nI n) u = some ((), sL (sR u (10 + a) (upd (upd (u.1 (10 + a)) 0 b) 1 (szF b (nI n)))) (10 + a) (zL (u.2 (10 + a)) 0 40)) := by
  unfold f_X2_lay szF
  rw [ck_pos (sh_t a ha), sh_r a ha, sh_o a ha, nm_eq, nm_eq, nm_eq, clamp40 n (by omega), Nat.zero_add, w1_sR, w1_sR, w1_sR, sR_same, sR_sR, sR_sR]
  split
  · exact l_lay ha 40 0 2100 _ (by omega) (by omega)
  · exact l_lay ha 40 0 2100 _ (by omega) (by omega)
theorem ix160 {a i : Nat} : (40 * nI a) + nI i = nI (40 * a + i) := by
  rw [show (40 : Int32) = nI 40 from rfl, pk_mul, nI_add]
theorem l_sheet {a : Nat} (ha : a < 4) : ∀ (j i f : Nat) (u : Uw), i + j = 40 → j < f → lp b_X6_sheet_86 f (nI a, nI i, u) = some (u.1 28 a, sL u 29 (zL (u.2 29) (40 * a + i) j)) := by
  intro j
  induction j with
  | zero =>
    intro i f u h1 h2
    obtain ⟨f, rfl⟩ : ∃ k, f = k + 1 := ⟨f - 1, by omega⟩
    rw [lp_s]
    generalize lp b_X6_sheet_86 f = g
    unfold b_X6_sheet_86
    dsimp only
    rw [if_pos (show (40 : Int32) ≤ nI i from nI_le (a := 40) (by omega) (by omega)), ck_pos (inb_nI ha (by decide)), nm_eq, nI_clamp (by omega), zL_0, sL_self]
  | succ j ih =>
    intro i f u h1 h2
    obtain ⟨f, rfl⟩ : ∃ k, f = k + 1 := ⟨f - 1, by omega⟩
    have ih2 := ih (i + 1) f (sL u 29 (uL (u.2 29) (40 * a + i) 0)) (by omega) (by omega)
    rw [lp_s]
    generalize lp b_X6_sheet_86 f = g at ih2 ⊢
    unfold b_X6_sheet_86
    dsimp only
    rw [if_neg (show ¬ (40 : Int32) ≤ nI i from nI_ge (b := 40) (by omega) (by decide)), ix160, ck_pos (inb_nI (by omega) (by decide)), nm_eq, nI_clamp (by omega), w2_sL, nI_1, ih2, sL_same, sL_sL, ← Nat.add_assoc, zL_step]
    rfl
theorem Rel.sheets {u u' : Uw} (hu : Rel u) (e : ∀ r, (r < 10 ∨ 14 ≤ r) → r ≠ 27 → r ≠ 28 → u'.1 r = u.1 r) (hs : ∀ i, i < 4 → SheetR u' i) : Rel u' := by
  obtain ⟨a1, a2, a3, a4, a5, -⟩ := hu
  refine ⟨?_, ?_, ?_, ?_, ?_, hs⟩
  · rw [e 0 (by decide) (by decide) (by decide), e 20 (by decide) (by decide) (by decide)]; exact a1
  · rw [e 20 (by decide) (by decide) (by decide)]; exact a2
  · rw [e 3 (by decide) (by decide) (by decide), e 24 (by decide) (by decide) (by decide)]; exact a3
  · unfold KeptR at a4 ⊢
    rw [e 9 (by decide) (by decide) (by decide), e 25 (by decide) (by decide) (by decide), e 1 (by decide) (by decide) (by decide), e 21 (by decide) (by decide) (by decide)]; exact a4
  · unfold TapeR at a5 ⊢
    rw [e 7 (by decide) (by decide) (by decide), e 25 (by decide) (by decide) (by decide), e 26 (by decide) (by decide) (by decide), e 8 (by decide) (by decide) (by decide)]; exact a5
theorem p_X2_allows (b : Int32) (u : Uw) : f_X2_allows b u = some (decide (b = 0 ∨ b = 8 ∨ b = 16 ∨ b = 64), u) := by
  unfold f_X2_allows
  by_cases h0 : b = 0
  · rw [if_pos h0, decide_eq_true (Or.inl h0)]
  · rw [if_neg h0]
    by_cases h1 : b = 8
    · rw [if_pos h1, decide_eq_true (Or.inr (Or.inl h1))]
    · rw [if_neg h1]
      by_cases h2 : b = 16
      · rw [if_pos h2, decide_eq_true (Or.inr (Or.inr (Or.inl h2)))]
      · rw [if_neg h2]
        by_cases h3 : b = 64
        · rw [if_pos h3, decide_eq_true (Or.inr (Or.inr (Or.inr h3)))]
        · rw [if_neg h3, decide_eq_false (fun q => q.elim h0 (fun q => q.elim h1 (fun q => q.elim h2 h3)))]
/-- the model's sheet, its four allowed widths in one -/
def shM (a1 a2 a3 : Int32) (u : Uw) : Option (Int32 × Uw) :=
  if 0 ≤ a3 then
    if a3 ≤ 40 then
      ck (inb a1 4) <| if a2 = 0 then lp b_X6_sheet_86 2100 (a1, 0, w1 (w1 u 27 a1.toNatClampNeg a2) 28 a1.toNatClampNeg 0) else lp b_X6_sheet_86 2100 (a1, 0, w1 (w1 u 27 a1.toNatClampNeg a2) 28 a1.toNatClampNeg a3)
    else bd (f_X6_finds (-1000000001) u) fun r v => some (r, v)
  else bd (f_X6_finds (-1000000007) u) fun r v => some (r, v)
theorem p_sheetM {a1 a2 a3 : Int32} {u : Uw} (h1 : f_X6_isOne a1 u = some (true, u)) : f_X6_sheet a1 a2 a3 u = if a2 = 0 ∨ a2 = 8 ∨ a2 = 16 ∨ a2 = 64 then shM a1 a2 a3 u else bd (f_X6_finds (-1000000001) u) fun r v => some (r, v) := by
  unfold f_X6_sheet shM
  rw [h1, bd_eq, if_pos rfl]
  by_cases h0 : a2 = 0
  · rw [if_pos h0, if_pos (Or.inl h0)]; rfl
  · rw [if_neg h0]
    by_cases h1 : a2 = 8
    · rw [if_pos h1, if_pos (Or.inr (Or.inl h1))]; rfl
    · rw [if_neg h1]
      by_cases h2 : a2 = 16
      · rw [if_pos h2, if_pos (Or.inr (Or.inr (Or.inl h2)))]; rfl
      · rw [if_neg h2]
        by_cases h3 : a2 = 64
        · rw [if_pos h3, if_pos (Or.inr (Or.inr (Or.inr h3)))]; rfl
        · rw [if_neg h3, if_neg (fun q => q.elim h0 (fun q => q.elim h1 (fun q => q.elim h2 h3)))]
theorem st_sheet (a1 a2 a3 : Int32) : StepT Rel (fun u => f_X5_sheet a1 a2 a3 u) (fun u => f_X6_sheet a1 a2 a3 u) := by
  intro u hu
  obtain ⟨-, -, -, -, -, hS⟩ := id hu
  have out : (a1 < 0 ∨ nI 4 ≤ a1) → ∃ r u1 u2, f_X5_sheet a1 a2 a3 u = some (r, u1) ∧ f_X6_sheet a1 a2 a3 u1 = some (r, u2) ∧ Rel u2 := fun h => by
    refine fin_fd (f := fun u => f_X5_sheet a1 a2 a3 u) (g := fun u => f_X6_sheet a1 a2 a3 u) hu (k := 0) (by decide) (x := -1000000001) ?_ (fun u' e => ?_)
    · show f_X5_sheet a1 a2 a3 u = _
      unfold f_X5_sheet
      rw [p_sheetAt_out h, bd_eq, ro_none, c0, bd_eq]
    · show f_X6_sheet a1 a2 a3 u' = _
      unfold f_X6_sheet
      rw [p_isOne_out h, bd_eq, if_neg (by decide), m0, bd_eq]
  rcases pk_ix a1 (n := 4) (by omega) with h | h | ⟨a, ha, rfl⟩
  · exact out (Or.inl h)
  · exact out (Or.inr h)
  by_cases hb : a2 = 0 ∨ a2 = 8 ∨ a2 = 16 ∨ a2 = 64
  · by_cases hn0 : 0 ≤ a3
    · by_cases hn : a3 ≤ 40
      · obtain ⟨n, -, hn4, rfl⟩ := nI_rng 0 40 (by decide) hn0 hn (by decide)
        refine ⟨szF a2 (nI n), sL (sR u (10 + a) (upd (upd (u.1 (10 + a)) 0 a2) 1 (szF a2 (nI n)))) (10 + a) (zL (u.2 (10 + a)) 0 40), sL (sR (sR (sL (sR u (10 + a) (upd (upd (u.1 (10 + a)) 0 a2) 1 (szF a2 (nI n)))) (10 + a) (zL (u.2 (10 + a)) 0 40)) 27 (upd (u.1 27) a a2)) 28 (upd (u.1 28) a (szF a2 (nI n)))) 29 (zL (u.2 29) (40 * a) 40), ?_, ?_, ?_⟩
        · show f_X5_sheet (nI a) a2 (nI n) u = _
          unfold f_X5_sheet
          rw [p_sheetAt_in ha, bd_eq, ro_some, p_X2_allows, decide_eq_true hb, bd_eq, if_pos rfl, if_pos hn0, if_pos hn, ck_pos (sh_t a ha), p_lay ha hn4, bd_eq, sh_r a ha, sh_o a ha, sL_1, sR_same, Nat.zero_add, upd_at]
        · show f_X6_sheet (nI a) a2 (nI n) _ = _
          rw [p_sheetM (p_isOne_in ha _), if_pos hb]
          unfold shM
          rw [if_pos hn0, if_pos hn, ck_pos (inb_nI ha (by decide)), nI_clamp (by omega)]
          have e27 : ∀ z : Nat → Int64, (sL (sR u (10 + a) (upd (upd (u.1 (10 + a)) 0 a2) 1 (szF a2 (nI n)))) (10 + a) z).1 27 = u.1 27 := fun z => by rw [sL_1, sR_ne (by omega)]
          have e28 : ∀ z : Nat → Int64, (sL (sR u (10 + a) (upd (upd (u.1 (10 + a)) 0 a2) 1 (szF a2 (nI n)))) (10 + a) z).1 28 = u.1 28 := fun z => by rw [sL_1, sR_ne (by omega)]
          have e29 : ∀ z : Nat → Int64, (sL (sR u (10 + a) (upd (upd (u.1 (10 + a)) 0 a2) 1 (szF a2 (nI n)))) (10 + a) z).2 29 = u.2 29 := fun z => by rw [sL_ne (by omega)]; rfl
          have go : ∀ x : Int32, lp b_X6_sheet_86 2100 (nI a, 0, w1 (w1 (sL (sR u (10 + a) (upd (upd (u.1 (10 + a)) 0 a2) 1 (szF a2 (nI n)))) (10 + a) (zL (u.2 (10 + a)) 0 40)) 27 a a2) 28 a x) = some (x, sL (sR (sR (sL (sR u (10 + a) (upd (upd (u.1 (10 + a)) 0 a2) 1 (szF a2 (nI n)))) (10 + a) (zL (u.2 (10 + a)) 0 40)) 27 (upd (u.1 27) a a2)) 28 (upd (u.1 28) a x)) 29 (zL (u.2 29) (40 * a) 40)) := fun x => by
            rw [w1_sR, w1_sR, sR_ne (show 28 ≠ 27 by decide), e27, e28, show (0 : Int32) = nI 0 from rfl, l_sheet ha 40 0 2100 _ (by omega) (by omega), sR_same, upd_at, sR_2, sR_2, e29, Nat.add_zero]
          rw [go, go]
          unfold szF
          split <;> rfl
        · refine hu.sheets (fun r hr h27 h28 => ?_) (fun i hi => ?_)
          · rw [sL_1, sR_ne h28, sR_ne h27, sL_1, sR_ne (by omega)]
          · have hs := hS i hi
            unfold SheetR at hs ⊢
            simp only [sL_1, sR_ne (show 10 + i ≠ 28 by omega), sR_ne (show 10 + i ≠ 27 by omega), sR_ne (show (27 : Nat) ≠ 28 by decide), sR_same, sL_same, sL_ne (show 10 + i ≠ 29 by omega), sR_2]
            by_cases e : i = a
            · subst e
              simp only [sR_same, upd_at, sL_same, upd_ne (show (0 : Nat) ≠ 1 by decide)]
              refine ⟨trivial, trivial, hb, ?_, fun k hk => ?_⟩
              · unfold szF
                split
                · exact ⟨0, by decide, rfl⟩
                · exact ⟨n, hn4, rfl⟩
              · unfold zL
                rw [if_pos (by omega), if_pos (by omega)]
            · simp only [sR_ne (show 10 + i ≠ 10 + a by omega), sL_ne (show 10 + i ≠ 10 + a by omega), upd_ne e, sR_2]
              refine ⟨hs.1, hs.2.1, hs.2.2.1, hs.2.2.2.1, fun k hk => ?_⟩
              unfold zL
              rw [if_neg (by omega)]
              exact hs.2.2.2.2 k hk
      · refine fin_fd hu (k := 0) (by decide) (x := -1000000001) ?_ (fun u' e => ?_)
        · show f_X5_sheet (nI a) a2 a3 u = _
          unfold f_X5_sheet
          rw [p_sheetAt_in ha, bd_eq, ro_some, p_X2_allows, decide_eq_true hb, bd_eq, if_pos rfl, if_pos hn0, if_neg hn, c0, bd_eq]
        · show f_X6_sheet (nI a) a2 a3 u' = _
          rw [p_sheetM (p_isOne_in ha _), if_pos hb]
          unfold shM
          rw [if_pos hn0, if_neg hn, m0, bd_eq]
    · refine fin_fd hu (k := 6) (by decide) (x := -1000000007) ?_ (fun u' e => ?_)
      · show f_X5_sheet (nI a) a2 a3 u = _
        unfold f_X5_sheet
        rw [p_sheetAt_in ha, bd_eq, ro_some, p_X2_allows, decide_eq_true hb, bd_eq, if_pos rfl, if_neg hn0, c6, bd_eq]
      · show f_X6_sheet (nI a) a2 a3 u' = _
        rw [p_sheetM (p_isOne_in ha _), if_pos hb]
        unfold shM
        rw [if_neg hn0, m6, bd_eq]
  · refine fin_fd hu (k := 0) (by decide) (x := -1000000001) ?_ (fun u' e => ?_)
    · show f_X5_sheet (nI a) a2 a3 u = _
      unfold f_X5_sheet
      rw [p_sheetAt_in ha, bd_eq, ro_some, p_X2_allows, decide_eq_false hb, bd_eq, if_neg (by decide), c0, bd_eq]
    · show f_X6_sheet (nI a) a2 a3 u' = _
      rw [p_sheetM (p_isOne_in ha _), if_neg hb, m0, bd_eq]
