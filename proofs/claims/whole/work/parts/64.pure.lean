/-! PURE 25: power -/
def cntG (f : Nat → Bool) : Nat → Nat → Int32 → Int32
  | _, 0, acc => acc
  | q, j + 1, acc => cntG f (q + 1) j (if f q = true then acc + 1 else acc + 0)
theorem cntG_congr {f g : Nat → Bool} : ∀ (j c : Nat) (acc : Int32), (∀ k, k < c + j → f k = g k) → cntG f c j acc = cntG g c j acc := by
  intro j
  induction j with
  | zero => intro c acc _; rfl
  | succ j ih =>
    intro c acc h
    rw [cntG, cntG, h c (by omega), ih (c + 1) _ (fun k hk => h k (by omega))]
theorem cnt8 : ∀ b0 b1 b2 b3 b4 b5 b6 b7 : Bool, ∀ p, p < 9 → bcI (hsG (bL8 b0 b1 b2 b3 b4 b5 b6 b7) 0 p 0) = cntG (bL8 b0 b1 b2 b3 b4 b5 b6 b7) 0 p 0 ∧ ¬ bcI (hsG (bL8 b0 b1 b2 b3 b4 b5 b6 b7) 0 p 0) ≤ -1 := by decide +kernel
theorem cnt_bc {f : Nat → Bool} {p : Nat} (hp : p ≤ 8) : bcI (hsG f 0 p 0) = cntG f 0 p 0 ∧ ¬ bcI (hsG f 0 p 0) ≤ -1 := by
  have ek : ∀ k, k < 0 + p → f k = bL8 (f 0) (f 1) (f 2) (f 3) (f 4) (f 5) (f 6) (f 7) k := fun k hk => by
    rcases (show k = 0 ∨ k = 1 ∨ k = 2 ∨ k = 3 ∨ k = 4 ∨ k = 5 ∨ k = 6 ∨ k = 7 by omega) with rfl | rfl | rfl | rfl | rfl | rfl | rfl | rfl <;> rfl
  rw [hsG_congr p 0 0 ek, cntG_congr p 0 0 ek]
  exact cnt8 (f 0) (f 1) (f 2) (f 3) (f 4) (f 5) (f 6) (f 7) p (by omega)
theorem l_wellAh {m p w n d x : Nat} {s : Nat → Int32} (hn : n ≤ 400) (hG : GdW s m p w) (h2 : s 2 = nI d) (hx : 1 ≤ x ∧ x ≤ 50) : ∀ (j q f : Nat) (acc : Int32) (u : Uw), u.1 0 = s → (∀ k, k < n → u.1 4 k = hset s (nI (d + k))) → q + j = p → j < f → ∃ u', lp b_X5_wellAhead_5 f (nI n, nI x, acc, nI q, u) = some (cntG (fun q => decide (itS n (upd s 3 (nI x)) (37 + 3 * q) = 0)) q j acc, u') ∧ Fr [5] u u' := by
  obtain ⟨hm, hm6, hp, hp8, -⟩ := id hG
  intro j
  induction j with
  | zero =>
    intro q f acc u hs h4 h1 h3
    obtain ⟨f, rfl⟩ : ∃ k, f = k + 1 := ⟨f - 1, by omega⟩
    refine ⟨u, ?_, Fr.rf⟩
    rw [lp_s]
    generalize lp b_X5_wellAhead_5 f = g
    unfold b_X5_wellAhead_5
    dsimp only
    rw [hs, hp, if_pos (nI_le (by omega) (by omega)), cntG]
  | succ j ih =>
    intro q f acc u hs h4 h1 h3
    obtain ⟨f, rfl⟩ : ∃ k, f = k + 1 := ⟨f - 1, by omega⟩
    have hq8 : q < 8 := by omega
    have hT := p_try (d := d) (tr := s 4) (pw := nI x) hn hm6 hm hq8 hs h4
    have eI : (trF (HF s d) (s 4) (nI x) 0 n (getT s (37 + 3 * q))).1 = itS n (upd s 3 (nI x)) (37 + 3 * q) := (congrArg Prod.fst (it_pw (n := n) (show q < p by omega) hG h2 hx)).symm
    have ih2 := fun acc' => ih (q + 1) f acc' (sR u 5 (setT (u.1 5) 0 (trF (HF s d) (s 4) (nI x) 0 n (getT s (37 + 3 * q))))) (by rw [sR_ne (by decide)]; exact hs) (fun k hk => by rw [sR_ne (by decide)]; exact h4 k hk) (by omega) (by omega)
    rw [lp_s]
    generalize lp b_X5_wellAhead_5 f = g at ih2 ⊢
    unfold b_X5_wellAhead_5
    dsimp only
    rw [hs, hp, if_neg (nI_ge (by omega) (by omega)), q_pilAt_in (m := p) (by rw [hs]; exact hp) hp8 (by omega), bd_eq, ro_some, hs, hT, bd_eq, nm_eq, nm_eq, sR_same, setT_0, eI, nI_1, cntG]
    by_cases hz : itS n (upd s 3 (nI x)) (37 + 3 * q) = 0
    · rw [if_pos hz, if_pos (decide_eq_true hz)]
      obtain ⟨u', a, b⟩ := ih2 (acc + 1)
      exact ⟨u', a, (Fr.sR (by decide)).tr b⟩
    · rw [if_neg hz, if_neg (by rw [decide_eq_false hz]; decide)]
      obtain ⟨u', a, b⟩ := ih2 (acc + 0)
      exact ⟨u', a, (Fr.sR (by decide)).tr b⟩
theorem well_hsG {m p w n : Nat} {s : Nat → Int32} (hG : GdW s m p w) : wellS (itS n s) = hsG (fun q => decide (itS n s (37 + 3 * q) = 0)) 0 p 0 := by
  unfold wellS
  rw [(GdW.it n hG).2.2.1, nI_clamp (by have := hG.2.2.2.1; omega)]
theorem p_wellAh {m p w n d x : Nat} {s : Nat → Int32} (hn : n ≤ 400) (hG : GdW s m p w) (h2 : s 2 = nI d) (hx : 1 ≤ x ∧ x ≤ 50) {u : Uw} (hs : u.1 0 = s) (h4 : ∀ k, k < n → u.1 4 k = hset s (nI (d + k))) : ∃ u', f_X5_wellAhead (nI n) (nI x) u = some (bcI (wellS (itS n (upd s 3 (nI x)))), u') ∧ Fr [5] u u' := by
  have hp8 := hG.2.2.2.1
  obtain ⟨u', k1, k2⟩ := l_wellAh hn hG h2 hx p 0 2100 0 u hs h4 (by omega) (by omega)
  refine ⟨u', ?_, k2⟩
  unfold f_X5_wellAhead
  rw [well_hsG (hG.pw hx), (cnt_bc hp8).1]
  exact k1
def pwF (V : Nat → Int32) : Nat → Nat → Int32 → Int32 → Int32
  | 0, _, best, _ => best
  | j + 1, x, best, most => if V x ≤ most then pwF V j (x + 1) best most else pwF V j (x + 1) (nI x) (V x)
theorem l_pwC {m p w n d : Nat} {s : Nat → Int32} (hn : n ≤ 400) (hG : GdW s m p w) (h2 : s 2 = nI d) : ∀ (j x f : Nat) (best most : Int32) (u : Uw), u.1 0 = s → (∀ k, k < n → u.1 4 k = hset s (nI (d + k))) → 1 ≤ x → x + j = 51 → j < f → ∃ u', lp b_X5_power_29 f (nI n, best, most, nI x, u) = some (pwF (fun x => bcI (wellS (itS n (upd s 3 (nI x))))) j x best most, u') ∧ Fr [5] u u' := by
  intro j
  induction j with
  | zero =>
    intro x f best most u hs h4 x1 h1 h3
    obtain ⟨f, rfl⟩ : ∃ k, f = k + 1 := ⟨f - 1, by omega⟩
    refine ⟨u, ?_, Fr.rf⟩
    rw [lp_s]
    generalize lp b_X5_power_29 f = g
    unfold b_X5_power_29
    dsimp only
    rw [if_pos (show (50 : Int32) < nI x from nI_lt (a := 50) (by omega) (by omega)), pwF]
  | succ j ih =>
    intro x f best most u hs h4 x1 h1 h3
    obtain ⟨f, rfl⟩ : ∃ k, f = k + 1 := ⟨f - 1, by omega⟩
    obtain ⟨v, k1, k2⟩ := p_wellAh (x := x) hn hG h2 (by omega) hs h4
    have ih2 := fun b y => ih (x + 1) f b y v ((k2.1 0 (by decide)).trans hs) (fun k hk => by rw [k2.1 4 (by decide)]; exact h4 k hk) (by omega) (by omega) (by omega)
    rw [lp_s]
    generalize lp b_X5_power_29 f = g at ih2 ⊢
    unfold b_X5_power_29
    dsimp only
    rw [if_neg (show ¬ (50 : Int32) < nI x from nI_nlt (a := 50) (by omega) (by decide)), k1, bd_eq, nm_eq, nI_1, pwF]
    split
    · obtain ⟨u', a, b⟩ := ih2 best most
      exact ⟨u', a, k2.tr b⟩
    · obtain ⟨u', a, b⟩ := ih2 (nI x) (bcI (wellS (itS n (upd s 3 (nI x)))))
      exact ⟨u', a, k2.tr b⟩
theorem p_asWell {m p w n : Nat} {u v : Uw} (hG : GdW (u.1 20) m p w) : f_X6_wellOnes (sR v 20 (itS n (u.1 20))) = some (wellS (itS n (u.1 20)), sR v 20 (itS n (u.1 20))) := by
  have h := p_wo (u := sR v 20 (itS n (u.1 20))) (p := p) (by rw [sR_same]; exact (GdW.it n hG).2.2.1) hG.2.2.2.1
  rw [sR_same] at h
  exact h
theorem p_asOnes {m p w n : Nat} {u v : Uw} (hG : GdW (u.1 20) m p w) : f_X6_ones (wellS (itS n (u.1 20))) v = some (bcI (wellS (itS n (u.1 20))), v) := p_ones_well (GdW.it n hG).2.2.1 hG.2.2.2.1 v
theorem l_pwM {m p w n : Nat} {v : Uw} {s : Nat → Int32} (hn : n ≤ 400) (hv : v.1 20 = s) (hG : GdW s m p w) : ∀ (j x f : Nat) (z : Nat → Int32) (y best most : Int32), 1 ≤ x → x + j = 51 → j < f → ∃ z', lp b_X6_power_34 f (nI n, s 3, best, most, nI x, sR (sR v 23 z) 20 (upd s 3 y)) = some (pwF (fun x => bcI (wellS (itS n (upd s 3 (nI x))))) j x best most, sR v 23 z') := by
  intro j
  induction j with
  | zero =>
    intro x f z y best most x1 h1 h3
    obtain ⟨f, rfl⟩ : ∃ k, f = k + 1 := ⟨f - 1, by omega⟩
    refine ⟨z, ?_⟩
    have er : sR (sR v 23 z) 20 s = sR v 23 z := (congrArg (sR (sR v 23 z) 20) (show s = (sR v 23 z).1 20 by rw [sR_ne (by decide)]; exact hv.symm)).trans sR_self
    rw [lp_s]
    generalize lp b_X6_power_34 f = g
    unfold b_X6_power_34
    dsimp only
    rw [if_pos (show (50 : Int32) < nI x from nI_lt (a := 50) (by omega) (by omega)), nm_eq, tn3, w1_sR, sR_same, sR_sR, upd_upd, upd_self, er, pwF]
  | succ j ih =>
    intro x f z y best most x1 h1 h3
    obtain ⟨f, rfl⟩ : ∃ k, f = k + 1 := ⟨f - 1, by omega⟩
    have hG' : GdW ((sR (sR v 23 z) 20 (upd s 3 (nI x))).1 20) m p x := by rw [sR_same]; exact hG.pw (by omega)
    have ih2 := fun b y' => ih (x + 1) f (cpF z (upd s 3 (nI x)) 0 61) (nI x) b y' (by omega) (by omega) (by omega)
    have key : ∀ g : Int32 × Int32 × Int32 × Int32 × Int32 × Uw → Option (Int32 × Uw), b_X6_power_34 g (nI n, s 3, best, most, nI x, sR (sR v 23 z) 20 (upd s 3 y)) = if bcI (wellS (itS n (upd s 3 (nI x)))) ≤ most then g (nI n, s 3, best, most, nI (x + 1), sR (sR v 23 (cpF z (upd s 3 (nI x)) 0 61)) 20 (upd s 3 (nI x))) else g (nI n, s 3, nI x, bcI (wellS (itS n (upd s 3 (nI x)))), nI (x + 1), sR (sR v 23 (cpF z (upd s 3 (nI x)) 0 61)) 20 (upd s 3 (nI x))) := fun g => by
      unfold b_X6_power_34
      dsimp only
      rw [if_neg (show ¬ (50 : Int32) < nI x from nI_nlt (a := 50) (by omega) (by decide)), nm_eq, tn3, w1_sR, sR_same, sR_sR, upd_upd, p_aside, bd_eq, p_asOn hn hG', bd_eq, p_asWell hG', bd_eq, p_asOnes hG', bd_eq, p_asBack hG', bd_eq, nm_eq, nm_eq, nm_eq, nI_1, asU_sR, sR_same]
      split
      · rfl
      · rfl
    rw [lp_s, key, pwF]
    split
    · exact ih2 best most
    · exact ih2 _ _
theorem pwF_first {V : Nat → Int32} {j x : Nat} {b b' most : Int32} (h : ¬ V x ≤ most) : pwF V (j + 1) x b most = pwF V (j + 1) x b' most := by
  show (if V x ≤ most then _ else _) = (if V x ≤ most then _ else _)
  rw [if_neg h, if_neg h]
theorem st_power (a1 : Int32) : StepT Rel (fun u => f_X5_power a1 u) (fun u => f_X6_power a1 u) := by
  intro u hu
  obtain ⟨e0, ⟨m, p, w, d, t, hG, h2, hd, h4, ht⟩, -⟩ := id hu
  obtain ⟨hm, hm6, hp, hp8, ew, hw, -, -, -, hps⟩ := id hG
  have hm0 : u.1 0 0 = nI m := by rw [e0]; exact hm
  have h20 : u.1 0 2 = nI d := by rw [e0]; exact h2
  by_cases hv : 1 ≤ a1 ∧ a1 ≤ 100
  · obtain ⟨n, n1, hn, rfl⟩ := nI_rng 1 100 (by decide) hv.1 hv.2 (by decide)
    obtain ⟨v1, b1, b2⟩ := l_pwC (by omega : n ≤ 400) hG h2 50 1 2100 1 (-1) (sR u 4 (cpF (u.1 4) (ahF (u.1 0) d) 0 n)) (by rw [sR_ne (by decide)]; exact e0) (fun k hk => by rw [sR_same, cpF_in hk, e0]; rfl) (by omega) (by omega) (by omega)
    have kF : Fr [2, 4, 5, 6] u v1 := Fr.tr (Fr.sR (by decide)) ⟨fun r hr => b2.1 r (fun z => hr (by simp at z; subst z; decide)), b2.2⟩
    refine fin_q hu (x := pwF (fun x => bcI (wellS (itS n (upd (u.1 20) 3 (nI x))))) 50 1 1 (-1)) ?_ kF (fun u' e => ?_)
    · show f_X5_power (nI n) u = _
      unfold f_X5_power
      rw [p_within, decide_eq_true hv, bd_eq, if_pos rfl, p_look (by omega) hd hm6 hm0 h20, bd_eq]
      exact b1
    · obtain ⟨z, h⟩ := l_pwM (v := u') (by omega : n ≤ 400) e hG 50 1 2100 (u'.1 23) (u.1 20 3) 0 (-1) (by omega) (by omega) (by omega)
      refine ⟨sR u' 23 z, ?_, Fr.sR (by decide)⟩
      have hfirst : ¬ bcI (wellS (itS n (upd (u.1 20) 3 (nI 1)))) ≤ -1 := by
        rw [well_hsG (hG.pw (show 1 ≤ 1 ∧ 1 ≤ 50 by omega))]
        exact (cnt_bc hp8).2
      have eb : pwF (fun x => bcI (wellS (itS n (upd (u.1 20) 3 (nI x))))) 50 1 0 (-1) = pwF (fun x => bcI (wellS (itS n (upd (u.1 20) 3 (nI x))))) 50 1 1 (-1) := by
        exact pwF_first (j := 49) hfirst
      rw [upd_self, sR_self, ← e, sR_self, e, eb] at h
      show f_X6_power (nI n) u' = _
      unfold f_X6_power
      rw [L1, L100, p_in, decide_eq_true hv, bd_eq, if_pos rfl, tn3, nm_eq, e]
      exact h
  · refine fin_fd hu (k := 0) (by decide) (x := -1000000001) ?_ (fun u' e => ?_)
    · show f_X5_power a1 u = _
      unfold f_X5_power
      rw [p_within, decide_eq_false hv, bd_eq, if_neg (by decide), c0, bd_eq]
    · show f_X6_power a1 u' = _
      unfold f_X6_power
      rw [L1, L100, p_in, decide_eq_false hv, bd_eq, if_neg (by decide), m0, bd_eq]
