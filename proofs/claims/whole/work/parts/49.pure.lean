/-! PURE 10: copies; image, undo, tear, wipe, status, drink -/
def cpF (s s' : Nat → Int32) (i j : Nat) : Nat → Int32 := fun k => if i ≤ k ∧ k < i + j then s' k else s k
theorem cpF_0 {s s' : Nat → Int32} {i : Nat} : cpF s s' i 0 = s := funext fun k => if_neg (by omega)
theorem cpF_step {s s' : Nat → Int32} {i j : Nat} : cpF (upd s i (s' i)) s' (i + 1) j = cpF s s' i (j + 1) := by
  funext k
  unfold cpF
  by_cases h : i + 1 ≤ k ∧ k < i + 1 + j
  · rw [if_pos h, if_pos (by omega)]
  · rw [if_neg h]
    by_cases e : k = i
    · subst e
      rw [upd_at, if_pos (by omega)]
    · rw [upd_ne e, if_neg (by omega)]
theorem cpF_cpF {s s' : Nat → Int32} {i j k : Nat} : cpF (cpF s s' i j) s' (i + j) k = cpF s s' i (j + k) := by
  funext n
  unfold cpF
  by_cases h : i + j ≤ n ∧ n < i + j + k
  · rw [if_pos h, if_pos (by omega)]
  · rw [if_neg h]
    by_cases h2 : i ≤ n ∧ n < i + j
    · rw [if_pos h2, if_pos (by omega)]
    · rw [if_neg h2, if_neg (by omega)]
theorem cpF_in {s s' : Nat → Int32} {n k : Nat} (h : k < n) : cpF s s' 0 n k = s' k := if_pos (by omega)
theorem cpF_out {s s' : Nat → Int32} {n k : Nat} (h : n ≤ k) : cpF s s' 0 n k = s k := if_neg (by omega)
theorem GdW.cp {s s' : Nat → Int32} {m p w : Nat} (h : GdW s m p w) (e : ∀ k, k < 61 → s' k = s k) : GdW s' m p w := by
  obtain ⟨a1, a2, a3, a4, a5, a6, a7, a8, a9, a10⟩ := h
  refine ⟨by rw [e 0 (by decide)]; exact a1, a2, by rw [e 1 (by decide)]; exact a3, a4, by rw [e 3 (by decide)]; exact a5, a6, by rw [e 5 (by decide)]; exact a7, by rw [e 6 (by decide)]; exact a8, fun c hc => ?_, fun q hq => ?_⟩
  · have h9 := a9 c hc
    unfold CalOk row5 at h9 ⊢
    rw [e _ (by omega), e _ (by omega), e _ (by omega), e _ (by omega), e _ (by omega)]
    exact h9
  · have h10 := a10 q hq
    unfold getT at h10 ⊢
    rw [e _ (by omega), e _ (by omega), e _ (by omega)]
    exact h10
theorem Good.cp {s s' : Nat → Int32} (h : Good s) (e : ∀ k, k < 61 → s' k = s k) : Good s' := by
  obtain ⟨m, p, w, d, t, hG, h2, hd, h4, ht⟩ := h
  exact ⟨m, p, w, d, t, hG.cp e, by rw [e 2 (by decide)]; exact h2, hd, by rw [e 4 (by decide)]; exact h4, ht⟩
theorem l_saves : ∀ (j i f : Nat) (u : Uw), i + j = 61 → j < f → lp b_X6_saves_2 f (nI i, u) = some ((), (sR u 22 (cpF (u.1 22) (u.1 20) i j))) := by
  intro j
  induction j with
  | zero =>
    intro i f u h1 h2
    obtain ⟨f, rfl⟩ : ∃ k, f = k + 1 := ⟨f - 1, by omega⟩
    rw [lp_s]
    generalize lp b_X6_saves_2 f = g
    unfold b_X6_saves_2
    dsimp only
    rw [if_pos (show (61 : Int32) ≤ nI i from nI_le (a := 61) (by omega) (by omega)), cpF_0, sR_self]
  | succ j ih =>
    intro i f u h1 h2
    obtain ⟨f, rfl⟩ : ∃ k, f = k + 1 := ⟨f - 1, by omega⟩
    have ih2 := ih (i + 1) f (sR u 22 (upd (u.1 22) i (u.1 20 i))) (by omega) (by omega)
    rw [lp_s]
    generalize lp b_X6_saves_2 f = g at ih2 ⊢
    unfold b_X6_saves_2
    dsimp only
    rw [if_neg (show ¬ (61 : Int32) ≤ nI i from nI_ge (b := 61) (by omega) (by decide)), ck_pos (inb_nI (by omega) (by decide)), nm_eq, nm_eq, nI_clamp (by omega), w1_sR, nI_1, ih2, sR_same, sR_ne (show 20 ≠ 22 by decide), sR_sR, cpF_step]
theorem l_putsBack : ∀ (j i f : Nat) (u : Uw), i + j = 61 → j < f → lp b_X6_putsBack_2 f (nI i, u) = some ((), (sR u 20 (cpF (u.1 20) (u.1 22) i j))) := by
  intro j
  induction j with
  | zero =>
    intro i f u h1 h2
    obtain ⟨f, rfl⟩ : ∃ k, f = k + 1 := ⟨f - 1, by omega⟩
    rw [lp_s]
    generalize lp b_X6_putsBack_2 f = g
    unfold b_X6_putsBack_2
    dsimp only
    rw [if_pos (show (61 : Int32) ≤ nI i from nI_le (a := 61) (by omega) (by omega)), cpF_0, sR_self]
  | succ j ih =>
    intro i f u h1 h2
    obtain ⟨f, rfl⟩ : ∃ k, f = k + 1 := ⟨f - 1, by omega⟩
    have ih2 := ih (i + 1) f (sR u 20 (upd (u.1 20) i (u.1 22 i))) (by omega) (by omega)
    rw [lp_s]
    generalize lp b_X6_putsBack_2 f = g at ih2 ⊢
    unfold b_X6_putsBack_2
    dsimp only
    rw [if_neg (show ¬ (61 : Int32) ≤ nI i from nI_ge (b := 61) (by omega) (by decide)), ck_pos (inb_nI (by omega) (by decide)), nm_eq, nm_eq, nI_clamp (by omega), w1_sR, nI_1, ih2, sR_same, sR_ne (show 22 ≠ 20 by decide), sR_sR, cpF_step]
theorem l_laysAside : ∀ (j i f : Nat) (u : Uw), i + j = 61 → j < f → lp b_X6_laysAside_2 f (nI i, u) = some ((), (sR u 23 (cpF (u.1 23) (u.1 20) i j))) := by
  intro j
  induction j with
  | zero =>
    intro i f u h1 h2
    obtain ⟨f, rfl⟩ : ∃ k, f = k + 1 := ⟨f - 1, by omega⟩
    rw [lp_s]
    generalize lp b_X6_laysAside_2 f = g
    unfold b_X6_laysAside_2
    dsimp only
    rw [if_pos (show (61 : Int32) ≤ nI i from nI_le (a := 61) (by omega) (by omega)), cpF_0, sR_self]
  | succ j ih =>
    intro i f u h1 h2
    obtain ⟨f, rfl⟩ : ∃ k, f = k + 1 := ⟨f - 1, by omega⟩
    have ih2 := ih (i + 1) f (sR u 23 (upd (u.1 23) i (u.1 20 i))) (by omega) (by omega)
    rw [lp_s]
    generalize lp b_X6_laysAside_2 f = g at ih2 ⊢
    unfold b_X6_laysAside_2
    dsimp only
    rw [if_neg (show ¬ (61 : Int32) ≤ nI i from nI_ge (b := 61) (by omega) (by decide)), ck_pos (inb_nI (by omega) (by decide)), nm_eq, nm_eq, nI_clamp (by omega), w1_sR, nI_1, ih2, sR_same, sR_ne (show 20 ≠ 23 by decide), sR_sR, cpF_step]
theorem l_takesBack (v : Int32) : ∀ (j i f : Nat) (u : Uw), i + j = 61 → j < f → lp b_X6_takesBack_2 f (v, nI i, u) = some (v, (sR u 20 (cpF (u.1 20) (u.1 23) i j))) := by
  intro j
  induction j with
  | zero =>
    intro i f u h1 h2
    obtain ⟨f, rfl⟩ : ∃ k, f = k + 1 := ⟨f - 1, by omega⟩
    rw [lp_s]
    generalize lp b_X6_takesBack_2 f = g
    unfold b_X6_takesBack_2
    dsimp only
    rw [if_pos (show (61 : Int32) ≤ nI i from nI_le (a := 61) (by omega) (by omega)), cpF_0, sR_self]
  | succ j ih =>
    intro i f u h1 h2
    obtain ⟨f, rfl⟩ : ∃ k, f = k + 1 := ⟨f - 1, by omega⟩
    have ih2 := ih (i + 1) f (sR u 20 (upd (u.1 20) i (u.1 23 i))) (by omega) (by omega)
    rw [lp_s]
    generalize lp b_X6_takesBack_2 f = g at ih2 ⊢
    unfold b_X6_takesBack_2
    dsimp only
    rw [if_neg (show ¬ (61 : Int32) ≤ nI i from nI_ge (b := 61) (by omega) (by decide)), ck_pos (inb_nI (by omega) (by decide)), nm_eq, nm_eq, nI_clamp (by omega), w1_sR, nI_1, ih2, sR_same, sR_ne (show 23 ≠ 20 by decide), sR_sR, cpF_step]
theorem l_image : ∀ (j i f : Nat) (u : Uw), i + j = 61 → j < f → lp b_X6_image_2 f (nI i, u) = (fun v : Uw => some ((1 : Int32), sR v 25 (upd (v.1 25) 0 1))) (sR u 21 (cpF (u.1 21) (u.1 20) i j)) := by
  intro j
  induction j with
  | zero =>
    intro i f u h1 h2
    obtain ⟨f, rfl⟩ : ∃ k, f = k + 1 := ⟨f - 1, by omega⟩
    rw [lp_s]
    generalize lp b_X6_image_2 f = g
    unfold b_X6_image_2
    dsimp only
    rw [if_pos (show (61 : Int32) ≤ nI i from nI_le (a := 61) (by omega) (by omega)), cpF_0, sR_self, nm_eq, w1_sR]
  | succ j ih =>
    intro i f u h1 h2
    obtain ⟨f, rfl⟩ : ∃ k, f = k + 1 := ⟨f - 1, by omega⟩
    have ih2 := ih (i + 1) f (sR u 21 (upd (u.1 21) i (u.1 20 i))) (by omega) (by omega)
    rw [lp_s]
    generalize lp b_X6_image_2 f = g at ih2 ⊢
    unfold b_X6_image_2
    dsimp only
    rw [if_neg (show ¬ (61 : Int32) ≤ nI i from nI_ge (b := 61) (by omega) (by decide)), ck_pos (inb_nI (by omega) (by decide)), nm_eq, nm_eq, nI_clamp (by omega), w1_sR, nI_1, ih2, sR_same, sR_ne (show 20 ≠ 21 by decide), sR_sR, cpF_step]
theorem l_undo : ∀ (j i f : Nat) (u : Uw), i + j = 61 → j < f → lp b_X6_undo_16 f (nI i, u) = (fun v : Uw => some (v.1 20 0, v)) (sR u 20 (cpF (u.1 20) (u.1 21) i j)) := by
  intro j
  induction j with
  | zero =>
    intro i f u h1 h2
    obtain ⟨f, rfl⟩ : ∃ k, f = k + 1 := ⟨f - 1, by omega⟩
    rw [lp_s]
    generalize lp b_X6_undo_16 f = g
    unfold b_X6_undo_16
    dsimp only
    rw [if_pos (show (61 : Int32) ≤ nI i from nI_le (a := 61) (by omega) (by omega)), cpF_0, sR_self, tn0, nm_eq]
  | succ j ih =>
    intro i f u h1 h2
    obtain ⟨f, rfl⟩ : ∃ k, f = k + 1 := ⟨f - 1, by omega⟩
    have ih2 := ih (i + 1) f (sR u 20 (upd (u.1 20) i (u.1 21 i))) (by omega) (by omega)
    rw [lp_s]
    generalize lp b_X6_undo_16 f = g at ih2 ⊢
    unfold b_X6_undo_16
    dsimp only
    rw [if_neg (show ¬ (61 : Int32) ≤ nI i from nI_ge (b := 61) (by omega) (by decide)), ck_pos (inb_nI (by omega) (by decide)), nm_eq, nm_eq, nI_clamp (by omega), w1_sR, nI_1, ih2, sR_same, sR_ne (show 21 ≠ 20 by decide), sR_sR, cpF_step]
theorem p_saves (u : Uw) : f_X6_saves u = some ((), sR u 22 (cpF (u.1 22) (u.1 20) 0 61)) := by
  unfold f_X6_saves
  exact l_saves 61 0 2100 u (by omega) (by omega)
theorem p_putsBack (u : Uw) : f_X6_putsBack u = some ((), sR u 20 (cpF (u.1 20) (u.1 22) 0 61)) := by
  unfold f_X6_putsBack
  exact l_putsBack 61 0 2100 u (by omega) (by omega)
theorem p_laysAside (u : Uw) : f_X6_laysAside u = some ((), sR u 23 (cpF (u.1 23) (u.1 20) 0 61)) := by
  unfold f_X6_laysAside
  exact l_laysAside 61 0 2100 u (by omega) (by omega)
theorem p_takesBack (v : Int32) (u : Uw) : f_X6_takesBack v u = some (v, sR u 20 (cpF (u.1 20) (u.1 23) 0 61)) := by
  unfold f_X6_takesBack
  exact l_takesBack v 61 0 2100 u (by omega) (by omega)
theorem p_image (u : Uw) : f_X6_image u = some (1, sR (sR u 21 (cpF (u.1 21) (u.1 20) 0 61)) 25 (upd (u.1 25) 0 1)) := by
  unfold f_X6_image
  have h := l_image 61 0 2100 u (by omega) (by omega)
  dsimp only at h
  rw [sR_ne (show 25 ≠ 21 by decide)] at h
  exact h
theorem p_X0_become {e e' r r' o : Nat} (h : CalAt e r o) (h' : CalAt e' r' o) (u : Uw) : f_X0_become e e' u = some ((), sR u r (cpF (u.1 r) (u.1 r') o 5)) := by
  obtain ⟨h1, h2, h3, h4, h5⟩ := h
  obtain ⟨g1, g2, g3, g4, g5⟩ := h'
  unfold f_X0_become
  rw [ck_pos g1, ck_pos h1, ck_pos h2, ck_pos g2, h5, g5, ck_pos (show cpok 0 0 5 5 5 = true by decide), h3, h4, g3, g4, nm_eq, tn0, tn5, cp1_sR]
  congr 3
  funext b
  unfold cpF
  rw [Nat.add_zero]
  by_cases hb : o ≤ b ∧ b < o + 5
  · rw [if_pos hb, if_pos hb, show o + (0 + (b - o)) = b by omega]
  · rw [if_neg hb, if_neg hb]
theorem p_X1_become {e e' r r' o : Nat} (h : PilAt e r o) (h' : PilAt e' r' o) (hne : r' ≠ r) (u : Uw) : f_X1_become e e' u = some ((), sR u r (cpF (u.1 r) (u.1 r') o 3)) := by
  obtain ⟨h1, h2, h3⟩ := h
  obtain ⟨g1, g2, g3⟩ := h'
  unfold f_X1_become
  rw [ck_pos g1, ck_pos h1, h2, h3, g2, g3, nm_eq, nm_eq, nm_eq]
  simp only [w1_sR, sR_sR, sR_same, sR_ne hne, Nat.add_zero]
  congr 3
  rw [← cpF_step, ← cpF_step, ← cpF_step, cpF_0]
theorem l_beP {r r' : Nat} (hr : r < 3) (hr' : r' < 3) (hne : r' ≠ r) : ∀ (j i f : Nat) (u : Uw), i + j = 8 → j < f → lp b_X3_become_90 f (23 * r, 23 * r', nI i, u) = some ((), sR u r (cpF (u.1 r) (u.1 r') (37 + 3 * i) (3 * j))) := by
  intro j
  induction j with
  | zero =>
    intro i f u h1 h2
    obtain ⟨f, rfl⟩ : ∃ k, f = k + 1 := ⟨f - 1, by omega⟩
    rw [lp_s]
    generalize lp b_X3_become_90 f = g
    unfold b_X3_become_90
    dsimp only
    rw [ck_pos (sp_t r hr), ck_pos (sp_2 r hr), if_pos (show (8 : Int32) ≤ nI i from nI_le (a := 8) (by omega) (by omega)), Nat.mul_zero, cpF_0, sR_self]
  | succ j ih =>
    intro i f u h1 h2
    obtain ⟨f, rfl⟩ : ∃ k, f = k + 1 := ⟨f - 1, by omega⟩
    have hi : i < 8 := by omega
    have ih2 := ih (i + 1) f (sR u r (cpF (u.1 r) (u.1 r') (37 + 3 * i) 3)) (by omega) (by omega)
    rw [lp_s]
    generalize lp b_X3_become_90 f = g at ih2 ⊢
    unfold b_X3_become_90
    dsimp only
    rw [ck_pos (sp_t r hr), ck_pos (sp_2 r hr), if_neg (show ¬ (8 : Int32) ≤ nI i from nI_ge (b := 8) (by omega) (by decide)), ck_pos (inb_nI (by omega) (by decide)), nm_eq, ck_pos (sp_t r' hr'), ck_pos (sp_2 r' hr'), nm_eq, nI_clamp (by omega), pp_eq, pp_eq, ck_pos (pil_at hr hi).1, p_X1_become (pil_at hr hi) (pil_at hr' hi) hne, bd_eq, nI_1, ih2, sR_same, sR_ne hne, sR_sR, show 37 + 3 * (i + 1) = 37 + 3 * i + 3 by omega, cpF_cpF, show 3 + 3 * j = 3 * (j + 1) by omega]
theorem l_beC {r r' : Nat} (hr : r < 3) (hr' : r' < 3) (hne : r' ≠ r) : ∀ (j i f : Nat) (u : Uw), i + j = 6 → j < f → lp b_X3_become_58 f (23 * r, 23 * r', nI i, u) = some ((), sR u r (cpF (u.1 r) (u.1 r') (7 + 5 * i) (5 * j + 24))) := by
  intro j
  induction j with
  | zero =>
    intro i f u h1 h2
    obtain ⟨f, rfl⟩ : ∃ k, f = k + 1 := ⟨f - 1, by omega⟩
    rw [lp_s]
    generalize lp b_X3_become_58 f = g
    unfold b_X3_become_58
    dsimp only
    rw [ck_pos (sp_t r hr), ck_pos (sp_1 r hr), if_pos (show (6 : Int32) ≤ nI i from nI_le (a := 6) (by omega) (by omega)), show (0 : Int32) = nI 0 from rfl, l_beP hr hr' hne 8 0 2100 u (by omega) (by omega), show i = 6 by omega]
  | succ j ih =>
    intro i f u h1 h2
    obtain ⟨f, rfl⟩ : ∃ k, f = k + 1 := ⟨f - 1, by omega⟩
    have hi : i < 6 := by omega
    have ih2 := ih (i + 1) f (sR u r (cpF (u.1 r) (u.1 r') (7 + 5 * i) 5)) (by omega) (by omega)
    rw [lp_s]
    generalize lp b_X3_become_58 f = g at ih2 ⊢
    unfold b_X3_become_58
    dsimp only
    rw [ck_pos (sp_t r hr), ck_pos (sp_1 r hr), if_neg (show ¬ (6 : Int32) ≤ nI i from nI_ge (b := 6) (by omega) (by decide)), ck_pos (inb_nI (by omega) (by decide)), nm_eq, ck_pos (sp_t r' hr'), ck_pos (sp_1 r' hr'), nm_eq, nI_clamp (by omega), cc_eq, cc_eq, ck_pos (cal_at hr hi).1, p_X0_become (cal_at hr hi) (cal_at hr' hi), bd_eq, nI_1, ih2, sR_same, sR_ne hne, sR_sR, show 7 + 5 * (i + 1) = 7 + 5 * i + 5 by omega, cpF_cpF, show 5 + (5 * j + 24) = 5 * (j + 1) + 24 by omega]
theorem be7 {s s' : Nat → Int32} : upd (upd (upd (upd (upd (upd (upd s 2 (s' 2)) 3 (s' 3)) 4 (s' 4)) 5 (s' 5)) 6 (s' 6)) 0 (s' 0)) 1 (s' 1) = cpF s s' 0 7 := by
  funext k
  by_cases hk : k < 7
  · rcases (show k = 0 ∨ k = 1 ∨ k = 2 ∨ k = 3 ∨ k = 4 ∨ k = 5 ∨ k = 6 by omega) with rfl | rfl | rfl | rfl | rfl | rfl | rfl <;> rfl
  · rw [upd_ne (by omega), upd_ne (by omega), upd_ne (by omega), upd_ne (by omega), upd_ne (by omega), upd_ne (by omega), upd_ne (by omega), cpF_out (by omega)]
theorem p_become {r r' : Nat} (hr : r < 3) (hr' : r' < 3) (hne : r' ≠ r) (u : Uw) : f_X3_become (23 * r) (23 * r') u = some ((), sR u r (cpF (u.1 r) (u.1 r') 0 61)) := by
  unfold f_X3_become
  rw [ck_pos (sp_t r' hr'), ck_pos (sp_t r hr), sp_r r hr, sp_o r hr, sp_r r' hr', sp_o r' hr']
  simp only [nm_eq, w1_sR, sR_sR, sR_same, sR_ne hne, Nat.zero_add, be7]
  rw [show (0 : Int32) = nI 0 from rfl, l_beC hr hr' hne 6 0 2100 _ (by omega) (by omega), sR_same, sR_ne hne, sR_sR]
  exact congrArg (fun z => some ((), sR u r z)) (cpF_cpF (i := 0) (j := 7) (k := 54))
theorem q_become10 (u : Uw) : f_X3_become 23 0 u = some ((), sR u 1 (cpF (u.1 1) (u.1 0) 0 61)) := p_become (r := 1) (r' := 0) (by decide) (by decide) (by decide) u
theorem q_become01 (u : Uw) : f_X3_become 0 23 u = some ((), sR u 0 (cpF (u.1 0) (u.1 1) 0 61)) := p_become (r := 0) (r' := 1) (by decide) (by decide) (by decide) u
theorem Rel.tape {u u' : Uw} (hu : Rel u) (e : ∀ r, r ≠ 7 → r ≠ 8 → r ≠ 25 → r ≠ 26 → u'.1 r = u.1 r) (e2 : u'.2 = u.2) (ek : u'.1 25 0 = u.1 25 0) (ht : TapeR u') : Rel u' := by
  obtain ⟨a1, a2, a3, a4, -, a6⟩ := hu
  refine ⟨?_, ?_, ?_, ?_, ht, ?_⟩
  · rw [e 0 (by decide) (by decide) (by decide) (by decide), e 20 (by decide) (by decide) (by decide) (by decide)]; exact a1
  · rw [e 20 (by decide) (by decide) (by decide) (by decide)]; exact a2
  · rw [e 3 (by decide) (by decide) (by decide) (by decide), e 24 (by decide) (by decide) (by decide) (by decide)]; exact a3
  · unfold KeptR at a4 ⊢
    rw [e 9 (by decide) (by decide) (by decide) (by decide), e 1 (by decide) (by decide) (by decide) (by decide), e 21 (by decide) (by decide) (by decide) (by decide), ek]; exact a4
  · intro i hi
    have := a6 i hi
    unfold SheetR at this ⊢
    rw [e (10 + i) (by omega) (by omega) (by omega) (by omega), e 27 (by decide) (by decide) (by decide) (by decide), e 28 (by decide) (by decide) (by decide) (by decide), e2]; exact this
theorem Rel.keep {u u' : Uw} (hu : Rel u) (e : ∀ r, r ≠ 1 → r ≠ 9 → r ≠ 25 → r ≠ 21 → u'.1 r = u.1 r) (e2 : u'.2 = u.2) (et : u'.1 25 1 = u.1 25 1) (hk : KeptR u') : Rel u' := by
  obtain ⟨a1, a2, a3, -, a5, a6⟩ := hu
  refine ⟨?_, ?_, ?_, hk, ?_, ?_⟩
  · rw [e 0 (by decide) (by decide) (by decide) (by decide), e 20 (by decide) (by decide) (by decide) (by decide)]; exact a1
  · rw [e 20 (by decide) (by decide) (by decide) (by decide)]; exact a2
  · rw [e 3 (by decide) (by decide) (by decide) (by decide), e 24 (by decide) (by decide) (by decide) (by decide)]; exact a3
  · unfold TapeR at a5 ⊢
    rw [e 7 (by decide) (by decide) (by decide) (by decide), e 26 (by decide) (by decide) (by decide) (by decide), e 8 (by decide) (by decide) (by decide) (by decide), et]; exact a5
  · intro i hi
    have := a6 i hi
    unfold SheetR at this ⊢
    rw [e (10 + i) (by omega) (by omega) (by omega) (by omega), e 27 (by decide) (by decide) (by decide) (by decide), e 28 (by decide) (by decide) (by decide) (by decide), e2]; exact this
theorem st_image : StepT Rel (fun u => f_X5_image u) (fun u => f_X6_image u) := by
  intro u hu
  obtain ⟨e0, hg, -⟩ := id hu
  refine ⟨1, sR (sR u 1 (cpF (u.1 1) (u.1 0) 0 61)) 9 (upd (u.1 9) 0 1), _, ?_, p_image _, ?_⟩
  · show f_X5_image u = _
    unfold f_X5_image
    rw [q_become10, bd_eq, nm_eq, w1_sR, sR_ne (show 9 ≠ 1 by decide)]
  · simp only [sR_ne (show 21 ≠ 9 by decide), sR_ne (show 21 ≠ 1 by decide), sR_ne (show 20 ≠ 9 by decide), sR_ne (show 20 ≠ 1 by decide), sR_ne (show 25 ≠ 9 by decide), sR_ne (show 25 ≠ 1 by decide)]
    refine hu.keep (fun r h1 h9 h25 h21 => ?_) rfl ?_ (Or.inr ⟨?_, ?_, fun k hk => ?_, ?_⟩)
    · rw [sR_ne h25, sR_ne h21, sR_ne h9, sR_ne h1]
    · rw [sR_same, upd_ne (by decide)]
    · rw [sR_ne (by decide), sR_ne (by decide), sR_same, upd_at]
    · rw [sR_same, upd_at]
    · rw [sR_ne (by decide), sR_ne (by decide), sR_ne (by decide), sR_same, sR_ne (by decide), sR_same, cpF_in hk, cpF_in hk, e0]
    · rw [sR_ne (by decide), sR_same]
      exact hg.cp (fun k hk => cpF_in hk)
theorem st_undo : StepT Rel (fun u => f_X5_undo u) (fun u => f_X6_undo u) := by
  intro u hu
  obtain ⟨e0, hg, -, hk, -⟩ := id hu
  rcases hk with ⟨k1, k2⟩ | ⟨k1, k2, k3, k4⟩
  · refine ⟨-1000000004, fdC u 3, fdM (fdC u 3) 3, ?_, ?_, hu.fd (by decide)⟩
    · show f_X5_undo u = _
      unfold f_X5_undo
      rw [if_pos k1, c3, bd_eq]
    · show f_X6_undo _ = _
      unfold f_X6_undo
      rw [if_pos (show (fdC u 3).1 25 0 = 0 by unfold fdC; rw [sR_ne (by decide)]; exact k2), m3, bd_eq]
  · have es : cpF (u.1 20) (u.1 21) 0 61 = cpF (u.1 0) (u.1 1) 0 61 := by
      funext k
      by_cases hk : k < 61
      · rw [cpF_in hk, cpF_in hk, k3 k hk]
      · rw [cpF_out (by omega), cpF_out (by omega), e0]
    refine ⟨u.1 1 0, sR u 0 (cpF (u.1 0) (u.1 1) 0 61), _, ?_, ?_, hu.both (s := cpF (u.1 0) (u.1 1) 0 61) (k4.cp (fun k hk => (cpF_in hk).trans (k3 k hk)))⟩
    · show f_X5_undo u = _
      unfold f_X5_undo
      rw [if_neg (by rw [k1]; decide), q_become01, bd_eq, sR_same, cpF_in (by decide)]
    · show f_X6_undo _ = _
      unfold f_X6_undo
      rw [if_neg (by rw [sR_ne (by decide), k2]; decide), show (0 : Int32) = nI 0 from rfl, l_undo 61 0 2100 _ (by omega) (by omega)]
      dsimp only
      rw [sR_same, sR_ne (show 20 ≠ 0 by decide), sR_ne (show 21 ≠ 0 by decide), es, cpF_in (by decide)]
theorem st_tear : StepT Rel (fun u => f_X5_tear u) (fun u => f_X6_tear u) := by
  intro u hu
  obtain ⟨e0, hg, -, hk, -⟩ := id hu
  have fin : Rel (sR (sR u 9 (upd (u.1 9) 0 0)) 25 (upd (u.1 25) 0 0)) := by
    refine hu.keep (fun r h1 h9 h25 h21 => ?_) rfl ?_ (Or.inl ⟨?_, ?_⟩)
    · rw [sR_ne h25, sR_ne h9]
    · rw [sR_same, upd_ne (by decide)]
    · rw [sR_ne (by decide), sR_same, upd_at]
    · rw [sR_same, upd_at]
  rcases hk with ⟨k1, k2⟩ | ⟨k1, k2, -⟩
  · refine ⟨0, sR u 9 (upd (u.1 9) 0 0), _, ?_, ?_, fin⟩
    · show f_X5_tear u = _
      unfold f_X5_tear
      rw [if_pos k1, nm_eq, w1_sR]
    · show f_X6_tear _ = _
      unfold f_X6_tear
      rw [if_pos (by rw [sR_ne (by decide)]; exact k2), nm_eq, w1_sR, sR_ne (by decide)]
  · refine ⟨1, sR u 9 (upd (u.1 9) 0 0), _, ?_, ?_, fin⟩
    · show f_X5_tear u = _
      unfold f_X5_tear
      rw [if_neg (by rw [k1]; decide), nm_eq, w1_sR]
    · show f_X6_tear _ = _
      unfold f_X6_tear
      rw [if_neg (by rw [sR_ne (by decide), k2]; decide), nm_eq, w1_sR, sR_ne (by decide)]
theorem st_wipe : StepT Rel (fun u => f_X5_wipe u) (fun u => f_X6_wipe u) := by
  intro u hu
  obtain ⟨-, -, -, -, ⟨n, hn, t1, t2, -⟩, -⟩ := id hu
  refine ⟨nI n, sR u 7 (upd (u.1 7) 0 0), sR (sR u 7 (upd (u.1 7) 0 0)) 25 (upd (u.1 25) 1 0), ?_, ?_, ?_⟩
  · show f_X5_wipe u = _
    unfold f_X5_wipe
    rw [nm_eq, nm_eq, w1_sR, t1]
  · show f_X6_wipe _ = _
    unfold f_X6_wipe
    rw [nm_eq, nm_eq, w1_sR, sR_ne (show 25 ≠ 7 by decide), t2]
  · refine hu.tape (fun r h7 h8 h25 h26 => by rw [sR_ne h25, sR_ne h7]) rfl ?_ ⟨0, by decide, ?_, ?_, fun k hk => absurd hk (by omega)⟩
    · rw [sR_same, upd_ne (by decide)]
    · rw [sR_ne (by decide), sR_same, upd_at]; rfl
    · rw [sR_same, upd_at]; rfl
