/-! PURE 27: copy -/
def rgB (n : Nat) (x y : Int32) : Bool := decide (0 ≤ x.toInt ∧ 0 ≤ y.toInt ∧ x.toInt + y.toInt ≤ (n : Int))
theorem rg_iff {n : Nat} {x y : Int32} : rgB n x y = true ↔ (0 ≤ x.toInt ∧ 0 ≤ y.toInt ∧ x.toInt + y.toInt ≤ (n : Int)) := ⟨of_decide_eq_true, decide_eq_true⟩
theorem lt_z {x : Int32} : x < 0 ↔ x.toInt < 0 := fa_lt x 0
theorem sub_toI {n i : Nat} (hn : n ≤ 40) (hi : i < 2 ^ 31) : (nI n - nI i).toInt = (n : Int) - i := by
  rw [Int32.toInt_sub, nI_toInt (by omega), nI_toInt (by omega)]
  exact Int.bmod_eq_of_le (by omega) (by omega)
theorem sub_toX {n : Nat} {x : Int32} (hn : n ≤ 40) (hx : ¬ x < 0) : (nI n - x).toInt = (n : Int) - x.toInt := by
  obtain ⟨i, hi, rfl⟩ := nI_of hx
  rw [sub_toI hn hi, nI_toInt hi]
theorem rg_in {n : Nat} {x y : Int32} (h : rgB n x y = true) : ∃ i l : Nat, x = nI i ∧ y = nI l ∧ i + l ≤ n := by
  obtain ⟨h1, h2, h3⟩ := rg_iff.mp h
  obtain ⟨i, hi, ei⟩ := nI_of (x := x) (by rw [lt_z]; omega)
  obtain ⟨l, hl, el⟩ := nI_of (x := y) (by rw [lt_z]; omega)
  refine ⟨i, l, ei, el, ?_⟩
  rw [ei, el, nI_toInt hi, nI_toInt hl] at h3
  omega
theorem p_hasRange {a n : Nat} (ha : a < 4) (hn : n ≤ 40) {u : Uw} (h : u.1 (10 + a) 1 = nI n) (x y : Int32) : f_X2_hasRange (73 + a) x y u = some (rgB n x y, u) := by
  have no : ¬ (0 ≤ x.toInt ∧ 0 ≤ y.toInt ∧ x.toInt + y.toInt ≤ (n : Int)) → rgB n x y = false := fun q => decide_eq_false q
  unfold f_X2_hasRange
  by_cases hx : x < 0
  · rw [if_pos hx, no (by rw [lt_z] at hx; omega)]
  · rw [if_neg hx]
    by_cases hy : y < 0
    · rw [if_pos hy, no (by rw [lt_z] at hy; omega)]
    · rw [if_neg hy, ck_pos (sh_t a ha), sh_r a ha, sh_o a ha, Nat.zero_add, h]
      have hs := sub_toX hn hx
      have en : (nI n).toInt = (n : Int) := nI_toInt (by omega)
      have hx' := hx
      have hy' := hy
      rw [lt_z] at hx' hy'
      by_cases h1 : nI n < x
      · rw [if_pos h1, no (by rw [fa_lt, en] at h1; omega)]
      · rw [if_neg h1]
        by_cases h2 : nI n - x < y
        · rw [if_pos h2, no (by rw [fa_lt, hs] at h2; omega)]
        · rw [if_neg h2, show rgB n x y = true from rg_iff.mpr (by rw [fa_lt, hs] at h2; omega)]
theorem mcT {α : Type} {n1 n2 : Nat} (hn1 : n1 ≤ 40) (hn2 : n2 ≤ 40) (x y z : Int32) (A B : α) : (if x < 0 then B else if y < 0 then B else if z < 0 then B else if (nI n1 - x) < z then B else if z ≤ (nI n2 - y) then A else B) = if rgB n1 x z = true ∧ rgB n2 y z = true then A else B := by
  by_cases hx : x < 0
  · rw [if_pos hx, if_neg (fun q => by have := (rg_iff.mp q.1).1; rw [lt_z] at hx; omega)]
  · rw [if_neg hx]
    by_cases hy : y < 0
    · rw [if_pos hy, if_neg (fun q => by have := (rg_iff.mp q.2).1; rw [lt_z] at hy; omega)]
    · rw [if_neg hy]
      by_cases hz : z < 0
      · rw [if_pos hz, if_neg (fun q => by have := (rg_iff.mp q.1).2.1; rw [lt_z] at hz; omega)]
      · rw [if_neg hz]
        have s1 := sub_toX hn1 hx
        have s2 := sub_toX hn2 hy
        by_cases h1 : nI n1 - x < z
        · rw [if_pos h1, if_neg (fun q => by have := (rg_iff.mp q.1).2.2; rw [fa_lt, s1] at h1; omega)]
        · rw [if_neg h1]
          by_cases h2 : z ≤ nI n2 - y
          · rw [if_pos h2, if_pos]
            rw [fa_lt, s1] at h1
            rw [fa_le, s2] at h2
            rw [lt_z] at hx hy hz
            exact ⟨rg_iff.mpr (by omega), rg_iff.mpr (by omega)⟩
          · rw [if_neg h2, if_neg (fun q => by have := (rg_iff.mp q.2).2.2; rw [fa_le, s2] at h2; omega)]
def cpL (f g : Nat → Int64) (i j : Nat) : Nat → Int64 := fun k => if i ≤ k ∧ k < i + j then g k else f k
theorem cpL_0 {f g : Nat → Int64} {i : Nat} : cpL f g i 0 = f := funext fun k => if_neg (by omega)
theorem cpL_step {f g : Nat → Int64} {i j : Nat} : cpL (uL f i (g i)) g (i + 1) j = cpL f g i (j + 1) := by
  funext k
  unfold cpL
  by_cases h : i + 1 ≤ k ∧ k < i + 1 + j
  · rw [if_pos h, if_pos (by omega)]
  · rw [if_neg h]
    by_cases e : k = i
    · subst e
      rw [uL_at, if_pos (by omega)]
    · rw [uL_ne e, if_neg (by omega)]
theorem cp2_sL {u : Uw} {f : Nat → Int64} {r k n : Nat} : cp2 u f r k n = sL u r (fun b => if k ≤ b ∧ b < k + n then f (b - k) else u.2 r b) := by
  unfold cp2 sL
  simp only [Prod.mk.injEq, true_and]
  funext a b
  by_cases h : a = r
  · subst h; simp
  · simp [h]
theorem ix161 {a x i : Nat} : ((40 * nI a) + nI x) + nI i = nI (40 * a + x + i) := by
  rw [ix160, nI_add]
theorem l_cpB {t y l : Nat} (ht : t < 4) (hy : y + l ≤ 40) : ∀ (j i f : Nat) (u : Uw), i + j = l → j < f → lp b_X6_copy_157 f (nI t, nI y, nI l, nI i, u) = some (nI l, sL u 29 (cpL (u.2 29) (fun k => u.2 30 (k - (40 * t + y))) (40 * t + y + i) j)) := by
  intro j
  induction j with
  | zero =>
    intro i f u h1 h3
    obtain ⟨f, rfl⟩ : ∃ k, f = k + 1 := ⟨f - 1, by omega⟩
    rw [lp_s]
    generalize lp b_X6_copy_157 f = g
    unfold b_X6_copy_157
    dsimp only
    rw [if_pos (nI_le (by omega) (by omega)), cpL_0, sL_self]
  | succ j ih =>
    intro i f u h1 h3
    obtain ⟨f, rfl⟩ : ∃ k, f = k + 1 := ⟨f - 1, by omega⟩
    have ih2 := ih (i + 1) f (sL u 29 (uL (u.2 29) (40 * t + y + i) (u.2 30 i))) (by omega) (by omega)
    have eg : u.2 30 i = (fun k => u.2 30 (k - (40 * t + y))) (40 * t + y + i) := congrArg (u.2 30) (by omega)
    rw [lp_s]
    generalize lp b_X6_copy_157 f = g at ih2 ⊢
    unfold b_X6_copy_157
    dsimp only
    rw [if_neg (nI_ge (by omega) (by omega)), ck_pos (inb_nI (show i < 40 by omega) (by decide)), nm_eq, nI_clamp (show i < 2 ^ 31 by omega), ix161, ck_pos (inb_nI (show 40 * t + y + i < 160 by omega) (by decide)), nm_eq, nI_clamp (show 40 * t + y + i < 2 ^ 31 by omega), w2_sL, nI_1, ih2, sL_same, sL_ne (show 30 ≠ 29 by decide), sL_sL, eg, ← Nat.add_assoc]
    exact congrArg (fun z => some (nI l, sL u 29 z)) cpL_step
theorem l_cpA {a x t y l : Nat} (ha : a < 4) (hx : x + l ≤ 40) : ∀ (j i f : Nat) (u : Uw), i + j = l → j < f → lp b_X6_copy_120 f (nI a, nI x, nI t, nI y, nI l, nI i, u) = lp b_X6_copy_157 2100 (nI t, nI y, nI l, 0, sL u 30 (cpL (u.2 30) (fun k => u.2 29 (40 * a + x + k)) i j)) := by
  intro j
  induction j with
  | zero =>
    intro i f u h1 h3
    obtain ⟨f, rfl⟩ : ∃ k, f = k + 1 := ⟨f - 1, by omega⟩
    rw [lp_s]
    generalize lp b_X6_copy_120 f = g
    unfold b_X6_copy_120
    dsimp only
    rw [if_pos (nI_le (by omega) (by omega)), cpL_0, sL_self]
  | succ j ih =>
    intro i f u h1 h3
    obtain ⟨f, rfl⟩ : ∃ k, f = k + 1 := ⟨f - 1, by omega⟩
    have ih2 := ih (i + 1) f (sL u 30 (uL (u.2 30) i (u.2 29 (40 * a + x + i)))) (by omega) (by omega)
    rw [lp_s]
    generalize lp b_X6_copy_120 f = g at ih2 ⊢
    unfold b_X6_copy_120
    dsimp only
    rw [if_neg (nI_ge (by omega) (by omega)), ix161, ck_pos (inb_nI (show 40 * a + x + i < 160 by omega) (by decide)), nm_eq, nI_clamp (show 40 * a + x + i < 2 ^ 31 by omega), ck_pos (inb_nI (show i < 40 by omega) (by decide)), nm_eq, nI_clamp (show i < 2 ^ 31 by omega), w2_sL, nI_1, ih2, sL_same, sL_ne (show 29 ≠ 30 by decide), sL_sL]
    have e := cpL_step (f := u.2 30) (g := fun k => u.2 29 (40 * a + x + k)) (i := i) (j := j)
    rw [← e]
theorem p_copyM {a t n1 n2 : Nat} (ha : a < 4) (ht : t < 4) (hn1 : n1 ≤ 40) (hn2 : n2 ≤ 40) {u : Uw} (b1 : u.1 28 a = nI n1) (b2 : u.1 28 t = nI n2) (a2 a4 a5 : Int32) : f_X6_copy (nI a) a2 (nI t) a4 a5 u = if u.1 27 a = 0 then some (-1000000006, fdM u 5) else if u.1 27 t = 0 then some (-1000000006, fdM u 5) else if u.1 27 a = u.1 27 t then (if rgB n1 a2 a5 = true ∧ rgB n2 a4 a5 = true then lp b_X6_copy_120 2100 (nI a, a2, nI t, a4, a5, 0, u) else some (-1000000001, fdM u 0)) else some (-1000000003, fdM u 2) := by
  unfold f_X6_copy
  rw [p_isOne_in ha, bd_eq, if_pos rfl, p_isOne_in ht, bd_eq, if_pos rfl, ck_pos (inb_nI ha (by decide)), ck_pos (inb_nI ht (by decide)), nm_eq, nm_eq, nm_eq, nm_eq, nm_eq, nm_eq, nI_clamp (show a < 2 ^ 31 by omega), nI_clamp (show t < 2 ^ 31 by omega), m5, m0, m2, bd_eq, bd_eq, bd_eq, b1, b2, mcT hn1 hn2]
theorem st_copy (a1 a2 a3 a4 a5 : Int32) : StepT Rel (fun u => f_X5_copy a1 a2 a3 a4 a5 u) (fun u => f_X6_copy a1 a2 a3 a4 a5 u) := by
  intro u hu
  obtain ⟨-, -, -, -, -, hS⟩ := id hu
  have out1 : (a1 < 0 ∨ nI 4 ≤ a1) → ∃ r u1 u2, f_X5_copy a1 a2 a3 a4 a5 u = some (r, u1) ∧ f_X6_copy a1 a2 a3 a4 a5 u1 = some (r, u2) ∧ Rel u2 := fun h => by
    refine fin_fd (f := fun u => f_X5_copy a1 a2 a3 a4 a5 u) (g := fun u => f_X6_copy a1 a2 a3 a4 a5 u) hu (k := 0) (by decide) (x := -1000000001) ?_ (fun u' e => ?_)
    · show f_X5_copy a1 a2 a3 a4 a5 u = _
      unfold f_X5_copy
      rw [p_sheetAt_out h, bd_eq, ro_none]
      rcases pk_ix a3 (n := 4) (by omega) with q | q | ⟨t, ht, rfl⟩
      · rw [p_sheetAt_out (Or.inl q), bd_eq, ro_none, c0, bd_eq]
      · rw [p_sheetAt_out (Or.inr q), bd_eq, ro_none, c0, bd_eq]
      · rw [p_sheetAt_in ht, bd_eq, ro_some, c0, bd_eq]
    · show f_X6_copy a1 a2 a3 a4 a5 u' = _
      unfold f_X6_copy
      rw [p_isOne_out h, bd_eq, if_neg (by decide), m0, bd_eq]
  rcases pk_ix a1 (n := 4) (by omega) with h | h | ⟨a, ha, rfl⟩
  · exact out1 (Or.inl h)
  · exact out1 (Or.inr h)
  have out2 : (a3 < 0 ∨ nI 4 ≤ a3) → ∃ r u1 u2, f_X5_copy (nI a) a2 a3 a4 a5 u = some (r, u1) ∧ f_X6_copy (nI a) a2 a3 a4 a5 u1 = some (r, u2) ∧ Rel u2 := fun h => by
    refine fin_fd (f := fun u => f_X5_copy (nI a) a2 a3 a4 a5 u) (g := fun u => f_X6_copy (nI a) a2 a3 a4 a5 u) hu (k := 0) (by decide) (x := -1000000001) ?_ (fun u' e => ?_)
    · show f_X5_copy (nI a) a2 a3 a4 a5 u = _
      unfold f_X5_copy
      rw [p_sheetAt_in ha, bd_eq, ro_some, p_sheetAt_out h, bd_eq, ro_none, c0, bd_eq]
    · show f_X6_copy (nI a) a2 a3 a4 a5 u' = _
      unfold f_X6_copy
      rw [p_isOne_in ha, bd_eq, if_pos rfl, p_isOne_out h, bd_eq, if_neg (by decide), m0, bd_eq]
  rcases pk_ix a3 (n := 4) (by omega) with h | h | ⟨t, ht, rfl⟩
  · exact out2 (Or.inl h)
  · exact out2 (Or.inr h)
  obtain ⟨s1, s2, s3, ⟨n1, hn1, sn1⟩, s5⟩ := hS a ha
  obtain ⟨t1, t2, t3, ⟨n2, hn2, sn2⟩, t5⟩ := hS t ht
  have hM := fun k => p_copyM ha ht hn1 hn2 (u := fdC u k) (by rw [fd_28]; exact sn1) (by rw [fd_28]; exact sn2) a2 a4 a5
  simp only [fd_27] at hM
  by_cases hb : u.1 27 a = 0
  · refine ⟨-1000000006, fdC u 5, fdM (fdC u 5) 5, ?_, ?_, hu.fd (by decide)⟩
    · show f_X5_copy (nI a) a2 (nI t) a4 a5 u = _
      unfold f_X5_copy
      rw [p_sheetAt_in ha, bd_eq, ro_some, p_sheetAt_in ht, bd_eq, ro_some, ck_pos (sh_t a ha), p_isMissing ha, s1, decide_eq_true hb, bd_eq, if_pos rfl, c5, bd_eq]
    · show f_X6_copy (nI a) a2 (nI t) a4 a5 _ = _
      rw [hM, if_pos hb]
  by_cases hb2 : u.1 27 t = 0
  · refine ⟨-1000000006, fdC u 5, fdM (fdC u 5) 5, ?_, ?_, hu.fd (by decide)⟩
    · show f_X5_copy (nI a) a2 (nI t) a4 a5 u = _
      unfold f_X5_copy
      rw [p_sheetAt_in ha, bd_eq, ro_some, p_sheetAt_in ht, bd_eq, ro_some, ck_pos (sh_t a ha), p_isMissing ha, s1, decide_eq_false hb, bd_eq, if_neg (by decide), ck_pos (sh_t t ht), p_isMissing ht, t1, decide_eq_true hb2, bd_eq, if_pos rfl, c5, bd_eq]
    · show f_X6_copy (nI a) a2 (nI t) a4 a5 _ = _
      rw [hM, if_neg hb, if_pos hb2]
  have hC : f_X5_copy (nI a) a2 (nI t) a4 a5 u = if u.1 27 a = u.1 27 t then (bd (f_X2_hasRange (73 + a) a2 a5 u) fun r24 u25 => if r24 = true then (bd (f_X2_hasRange (73 + t) a4 a5 u25) fun r28 u29 => if r28 = true then (ck (kT (73 + t + 4) == 11) <| ck (kT (73 + a + 4) == 11) <| ck (cpok a2 a4 a5 (kL (73 + a + 4)) (kL (73 + t + 4))) <| nm (cp2 u29 (fun i => u29.2 (kR (73 + a + 4)) (a2.toNatClampNeg + i)) (kR (73 + t + 4)) a4.toNatClampNeg a5.toNatClampNeg) fun u33 => some (a5, u33)) else (bd (f_X5_found (-1000000001 : Int32) u29) fun r34 u35 => some (r34, u35))) else (bd (f_X5_found (-1000000001 : Int32) u25) fun r26 u27 => some (r26, u27))) else some (-1000000003, fdC u 2) := by
    unfold f_X5_copy
    rw [p_sheetAt_in ha, bd_eq, ro_some, p_sheetAt_in ht, bd_eq, ro_some, ck_pos (sh_t a ha), p_isMissing ha, s1, decide_eq_false hb, bd_eq, if_neg (by decide), ck_pos (sh_t t ht), p_isMissing ht, t1, decide_eq_false hb2, bd_eq, if_neg (by decide), sh_r a ha, sh_o a ha, sh_r t ht, sh_o t ht, Nat.zero_add, s1, t1, c2, bd_eq]
  by_cases hk : u.1 27 a = u.1 27 t
  · rw [if_pos hk, p_hasRange ha hn1 (s2.trans sn1), bd_eq] at hC
    by_cases r1 : rgB n1 a2 a5 = true
    · rw [if_pos r1, p_hasRange ht hn2 (t2.trans sn2), bd_eq] at hC
      by_cases r2 : rgB n2 a4 a5 = true
      · obtain ⟨x, l, rfl, rfl, hxl⟩ := rg_in r1
        obtain ⟨y, l', rfl, el, hyl⟩ := rg_in r2
        have e1 := rg_iff.mp r1
        have hl31 : l < 2 ^ 31 := by
          have := (rg_iff.mp r1)
          omega
        have ell : l = l' := by
          have := congrArg Int32.toInt el
          rw [nI_toInt hl31, nI_toInt (by omega)] at this
          omega
        subst ell
        rw [if_pos r2, ck_pos (sh_a t ht), ck_pos (sh_a a ha), sh_al a ha, sh_al t ht, sh_ar a ha, sh_ar t ht, ck_pos (show cpok (nI x) (nI y) (nI l) 40 40 = true by
          unfold cpok
          rw [nI_clamp (by omega), nI_clamp (by omega), nI_clamp (by omega), decide_eq_false (nI_pos (by omega)), decide_eq_false (nI_pos (by omega)), decide_eq_false (nI_pos (by omega)), decide_eq_true (show x + l ≤ 40 by omega), decide_eq_true (show y + l ≤ 40 by omega)]
          rfl), nm_eq, cp2_sL, nI_clamp (show x < 2 ^ 31 by omega), nI_clamp (show y < 2 ^ 31 by omega), nI_clamp (show l < 2 ^ 31 by omega)] at hC
        have e29 : ∀ z : Nat → Int64, (sL u (10 + t) z).2 29 = u.2 29 := fun z => sL_ne (by omega)
        have hMM : ∀ z : Nat → Int64, f_X6_copy (nI a) (nI x) (nI t) (nI y) (nI l) (sL u (10 + t) z) = some (nI l, sL (sL (sL u (10 + t) z) 30 (cpL (u.2 30) (fun k => u.2 29 (40 * a + x + k)) 0 l)) 29 (cpL (u.2 29) (fun k => cpL (u.2 30) (fun k => u.2 29 (40 * a + x + k)) 0 l (k - (40 * t + y))) (40 * t + y) l)) := fun z => by
          rw [p_copyM ha ht hn1 hn2 (u := sL u (10 + t) z) sn1 sn2, sL_1, if_neg hb, if_neg hb2, if_pos hk, if_pos ⟨r1, r2⟩]
          have hA := l_cpA (a := a) (x := x) (t := t) (y := y) (l := l) ha (by omega) l 0 2100 (sL u (10 + t) z) (by omega) (by omega)
          refine (show _ = _ from hA).trans ?_
          rw [e29, sL_ne (show 30 ≠ 10 + t by omega)]
          have hB := l_cpB (t := t) (y := y) (l := l) ht (by omega) l 0 2100 (sL (sL u (10 + t) z) 30 (cpL (u.2 30) (fun k => u.2 29 (40 * a + x + k)) 0 l)) (by omega) (by omega)
          refine (show _ = _ from hB).trans ?_
          rw [sL_same, sL_ne (show 29 ≠ 30 by decide), e29, Nat.add_zero]
        refine ⟨nI l, _, _, hC, hMM _, ?_⟩
        refine hu.sheets (fun r hr h27 h28 => rfl) (fun j hj => ?_)
        have hs := hS j hj
        unfold SheetR at hs ⊢
        simp only [sL_1, sL_same, sL_ne (show 10 + j ≠ 29 by omega), sL_ne (show 10 + j ≠ 30 by omega)]
        refine ⟨hs.1, hs.2.1, hs.2.2.1, hs.2.2.2.1, fun k hk4 => ?_⟩
        by_cases e : j = t
        · subst e
          rw [sL_same]
          unfold cpL
          by_cases ek : y ≤ k ∧ k < y + l
          · rw [if_pos ek, if_pos (by omega)]
            dsimp only
            rw [if_pos (by omega), s5 _ (by omega)]
            exact congrArg (u.2 29) (show 40 * a + (x + (k - y)) = 40 * a + x + (40 * j + k - (40 * j + y)) by omega)
          · rw [if_neg ek, if_neg (by omega)]
            exact hs.2.2.2.2 k hk4
        · rw [sL_ne (by omega)]
          unfold cpL
          rw [if_neg (by omega)]
          exact hs.2.2.2.2 k hk4
      · rw [if_neg r2, c0, bd_eq] at hC
        refine ⟨-1000000001, fdC u 0, fdM (fdC u 0) 0, hC, ?_, hu.fd (by decide)⟩
        show f_X6_copy (nI a) a2 (nI t) a4 a5 _ = _
        rw [hM, if_neg hb, if_neg hb2, if_pos hk, if_neg (fun q => r2 q.2)]
    · rw [if_neg r1, c0, bd_eq] at hC
      refine ⟨-1000000001, fdC u 0, fdM (fdC u 0) 0, hC, ?_, hu.fd (by decide)⟩
      show f_X6_copy (nI a) a2 (nI t) a4 a5 _ = _
      rw [hM, if_neg hb, if_neg hb2, if_pos hk, if_neg (fun q => r1 q.1)]
  · rw [if_neg hk] at hC
    refine ⟨-1000000003, fdC u 2, fdM (fdC u 2) 2, hC, ?_, hu.fd (by decide)⟩
    show f_X6_copy (nI a) a2 (nI t) a4 a5 _ = _
    rw [hM, if_neg hb, if_neg hb2, if_neg hk]
