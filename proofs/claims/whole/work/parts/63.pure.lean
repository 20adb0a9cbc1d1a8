/-! PURE 24: all ahead; truth -/
theorem p_try {m n d q : Nat} {s : Nat → Int32} {tr pw : Int32} (hn : n ≤ 400) (hm6 : m ≤ 6) (hm : s 0 = nI m) (hq : q < 8) {u : Uw} (hs : u.1 0 = s) (h4 : ∀ k, k < n → u.1 4 k = hset s (nI (d + k))) : f_X5_tryDays (pp 0 q) (nI n) tr pw u = some ((), sR u 5 (setT (u.1 5) 0 (trF (HF s d) tr pw 0 n (getT s (37 + 3 * q))))) := by
  unfold f_X5_tryDays
  rw [p_X1_copy pil_83 (q_pil hq) (by decide), bd_eq]
  have h := l_try (d := d) (tr := tr) (pw := pw) hn hm6 hm n 0 2100 (sR u 5 (setT (u.1 5) 0 (getT (u.1 0) (37 + 3 * q)))) (fun k hk => by rw [sR_ne (by decide)]; exact h4 k hk) (by omega) (by omega)
  rw [sR_same, getT_set, setT_setT, sR_sR, hs] at h
  rw [hs]
  exact h
theorem HF_upd {s : Nat → Int32} {m p w d k : Nat} (hG : GdW s m p w) (hk : k = 3 ∨ k = 4) (y : Int32) : HF (upd s k y) d = HF s d := by
  unfold HF
  funext i x
  exact hb_cal (s := s) (s' := upd s k y) (fun j hj => upd_ne (by omega)) hG.1 hG.2.1 x _
theorem get_upd {s : Nat → Int32} {k o : Nat} {y : Int32} (h : k < o) : getT (upd s k y) o = getT s o := by
  unfold getT
  rw [upd_ne (by omega), upd_ne (by omega), upd_ne (by omega)]
theorem it_tr {m p w q n d : Nat} {s : Nat → Int32} (hq : q < p) (hG : GdW s m p w) (h2 : s 2 = nI d) (y : Int32) : getT (itS n (upd s 4 y)) (37 + 3 * q) = trF (HF s d) y (s 3) 0 n (getT s (37 + 3 * q)) := by
  rw [it_get hq n (upd s 4 y) d (hG.sc (Or.inr rfl) y) (by rw [upd_ne (by decide)]; exact h2), upd_at, upd_ne (show 3 ≠ 4 by decide), HF_upd hG (Or.inr rfl), get_upd (by omega)]
theorem it_pw {m p w q n d v : Nat} {s : Nat → Int32} (hq : q < p) (hG : GdW s m p w) (h2 : s 2 = nI d) (hv : 1 ≤ v ∧ v ≤ 50) : getT (itS n (upd s 3 (nI v))) (37 + 3 * q) = trF (HF s d) (s 4) (nI v) 0 n (getT s (37 + 3 * q)) := by
  rw [it_get hq n (upd s 3 (nI v)) d (hG.pw hv) (by rw [upd_ne (by decide)]; exact h2), upd_at, upd_ne (show 4 ≠ 3 by decide), HF_upd hG (Or.inl rfl), get_upd (by omega)]
theorem l_illAh {m p w n d : Nat} {s : Nat → Int32} (hn : n ≤ 400) (hG : GdW s m p w) (h2 : s 2 = nI d) {y : Int32} : ∀ (j q f : Nat) (acc : Int32) (u : Uw), u.1 0 = s → (∀ k, k < n → u.1 4 k = hset s (nI (d + k))) → q + j = p → j < f → ∃ u', lp b_X5_illOfAllAhead_5 f (nI n, y, acc, nI q, u) = some (sumG (itS n (upd s 4 y)) 0 q j acc, u') ∧ Fr [5] u u' := by
  obtain ⟨hm, hm6, hp, hp8, -⟩ := id hG
  intro j
  induction j with
  | zero =>
    intro q f acc u hs h4 h1 h3
    obtain ⟨f, rfl⟩ : ∃ k, f = k + 1 := ⟨f - 1, by omega⟩
    refine ⟨u, ?_, Fr.rf⟩
    rw [lp_s]
    generalize lp b_X5_illOfAllAhead_5 f = g
    unfold b_X5_illOfAllAhead_5
    dsimp only
    rw [hs, hp, if_pos (nI_le (by omega) (by omega)), sumG]
  | succ j ih =>
    intro q f acc u hs h4 h1 h3
    obtain ⟨f, rfl⟩ : ∃ k, f = k + 1 := ⟨f - 1, by omega⟩
    have hq8 : q < 8 := by omega
    have hT := p_try (d := d) (tr := y) (pw := s 3) hn hm6 hm hq8 hs h4
    have eI : (trF (HF s d) y (s 3) 0 n (getT s (37 + 3 * q))).1 = itS n (upd s 4 y) (37 + 3 * q + 0) := (congrArg Prod.fst (it_tr (n := n) (show q < p by omega) hG h2 y)).symm
    obtain ⟨u', k1, k2⟩ := ih (q + 1) f (acc + itS n (upd s 4 y) (37 + 3 * q + 0)) (sR u 5 (setT (u.1 5) 0 (trF (HF s d) y (s 3) 0 n (getT s (37 + 3 * q))))) (by rw [sR_ne (by decide)]; exact hs) (fun k hk => by rw [sR_ne (by decide)]; exact h4 k hk) (by omega) (by omega)
    refine ⟨u', ?_, (Fr.sR (by decide)).tr k2⟩
    rw [lp_s]
    generalize lp b_X5_illOfAllAhead_5 f = g at k1 ⊢
    unfold b_X5_illOfAllAhead_5
    dsimp only
    rw [hs, hp, if_neg (nI_ge (by omega) (by omega)), q_pilAt_in (m := p) (by rw [hs]; exact hp) hp8 (by omega), bd_eq, ro_some, hs, hT, bd_eq, nm_eq, sR_same, setT_0, eI, nI_1, k1, sumG]
theorem p_illAh {m p w n d : Nat} {s : Nat → Int32} (hn : n ≤ 400) (hG : GdW s m p w) (h2 : s 2 = nI d) {y : Int32} {u : Uw} (hs : u.1 0 = s) (h4 : ∀ k, k < n → u.1 4 k = hset s (nI (d + k))) : ∃ u', f_X5_illOfAllAhead (nI n) y u = some (sumS (itS n (upd s 4 y)) 0, u') ∧ Fr [5] u u' := by
  have hp8 := hG.2.2.2.1
  obtain ⟨u', k1, k2⟩ := l_illAh (y := y) hn hG h2 p 0 2100 0 u hs h4 (by omega) (by omega)
  refine ⟨u', ?_, k2⟩
  unfold f_X5_illOfAllAhead sumS
  rw [(GdW.it n (hG.sc (Or.inr rfl) y)).2.2.1, nI_clamp (by omega)]
  exact k1
def trB (V : Nat → Int32) : Nat → Nat → Int32 → Int32 → Int32
  | 0, _, best, _ => best
  | j + 1, c, best, val => if val ≤ V c then trB V j (c + 1) best val else trB V j (c + 1) (nI c) (V c)
theorem l_trC {m p w n d : Nat} {s : Nat → Int32} (hn : n ≤ 400) (hG : GdW s m p w) (h2 : s 2 = nI d) : ∀ (j c f : Nat) (best val : Int32) (u : Uw), u.1 0 = s → (∀ k, k < n → u.1 4 k = hset s (nI (d + k))) → c + j = m → j < f → ∃ u', lp b_X5_truth_51 f (nI n, best, val, nI c, u) = some (trB (fun c => sumS (itS n (upd s 4 (nI c))) 0) j c best val, u') ∧ Fr [5] u u' := by
  obtain ⟨hm, hm6, hp, hp8, -⟩ := id hG
  intro j
  induction j with
  | zero =>
    intro c f best val u hs h4 h1 h3
    obtain ⟨f, rfl⟩ : ∃ k, f = k + 1 := ⟨f - 1, by omega⟩
    refine ⟨u, ?_, Fr.rf⟩
    rw [lp_s]
    generalize lp b_X5_truth_51 f = g
    unfold b_X5_truth_51
    dsimp only
    rw [hs, hm, if_pos (nI_le (by omega) (by omega)), trB]
  | succ j ih =>
    intro c f best val u hs h4 h1 h3
    obtain ⟨f, rfl⟩ : ∃ k, f = k + 1 := ⟨f - 1, by omega⟩
    obtain ⟨v, k1, k2⟩ := p_illAh (y := nI c) hn hG h2 hs h4
    have ih2 := fun b x => ih (c + 1) f b x v ((k2.1 0 (by decide)).trans hs) (fun k hk => by rw [k2.1 4 (by decide)]; exact h4 k hk) (by omega) (by omega)
    rw [lp_s]
    generalize lp b_X5_truth_51 f = g at ih2 ⊢
    unfold b_X5_truth_51
    dsimp only
    rw [hs, hm, if_neg (nI_ge (by omega) (by omega)), k1, bd_eq, nm_eq, nI_1, trB]
    split
    · obtain ⟨u', a, b⟩ := ih2 best val
      exact ⟨u', a, k2.tr b⟩
    · obtain ⟨u', a, b⟩ := ih2 (nI c) (sumS (itS n (upd s 4 (nI c))) 0)
      exact ⟨u', a, k2.tr b⟩
/-! the model's: aside, on, back -/
def asU (u : Uw) : Uw := sR u 23 (cpF (u.1 23) (u.1 20) 0 61)
theorem asU_20 {u : Uw} : (asU u).1 20 = u.1 20 := sR_ne (by decide)
theorem p_aside (u : Uw) : f_X6_laysAside u = some ((), asU u) := p_laysAside u
theorem p_asOn {m p w n : Nat} (hn : n ≤ 400) {u : Uw} (hG : GdW (u.1 20) m p w) : f_X6_goesOn (nI n) (asU u) = some ((), sR (asU u) 20 (itS n (u.1 20))) := by
  rw [p_goesOn (m := m) (p := p) (w := w) (by omega) (by rw [asU_20]; exact hG), asU_20]
theorem p_asTog {m p w n : Nat} {u v : Uw} (hG : GdW (u.1 20) m p w) : f_X6_together 0 (sR v 20 (itS n (u.1 20))) = some (sumS (itS n (u.1 20)) 0, sR v 20 (itS n (u.1 20))) := by
  have h := p_tog (u := sR v 20 (itS n (u.1 20))) (p := p) (by rw [sR_same]; exact (GdW.it n hG).2.2.1) hG.2.2.2.1 (k := 0) (by decide) (x := 0) rfl
  rw [sR_same] at h
  exact h
theorem p_asBack {m p w n : Nat} {u : Uw} (hG : GdW (u.1 20) m p w) (x : Int32) : f_X6_takesBack x (sR (asU u) 20 (itS n (u.1 20))) = some (x, asU u) := p_back (it_hi n _ hG) x
theorem asU_sR {v : Uw} {z s : Nat → Int32} : asU (sR (sR v 23 z) 20 s) = sR (sR v 23 (cpF z s 0 61)) 20 s := by
  unfold asU
  rw [sR_same, sR_ne (show 23 ≠ 20 by decide), sR_same, sR_comm (show 20 ≠ 23 by decide), sR_sR]
theorem l_trM {m p w n : Nat} {v : Uw} {s : Nat → Int32} (hn : n ≤ 400) (hv : v.1 20 = s) (hG : GdW s m p w) : ∀ (j c f b : Nat) (z : Nat → Int32) (y val : Int32), b < c → c + j = m → j < f → ∃ z', lp b_X6_truth_34 f (nI n, s 4, nI b, val, nI c, sR (sR v 23 z) 20 (upd s 4 y)) = some (trB (fun c => sumS (itS n (upd s 4 (nI c))) 0) j c (nI b) val, sR v 23 z') := by
  have hm6 := hG.2.1
  intro j
  induction j with
  | zero =>
    intro c f b z y val hb h1 h3
    obtain ⟨f, rfl⟩ : ∃ k, f = k + 1 := ⟨f - 1, by omega⟩
    refine ⟨z, ?_⟩
    have er : sR (sR v 23 z) 20 s = sR v 23 z := (congrArg (sR (sR v 23 z) 20) (show s = (sR v 23 z).1 20 by rw [sR_ne (by decide)]; exact hv.symm)).trans sR_self
    rw [lp_s]
    generalize lp b_X6_truth_34 f = g
    unfold b_X6_truth_34
    dsimp only
    rw [tn0, tn4, nm_eq, sR_same, upd_ne (show 0 ≠ 4 by decide), hG.1, if_pos (nI_le (by omega) (by omega)), nm_eq, if_pos (nI_pos' (by omega)), w1_sR, sR_same, sR_sR, upd_upd, upd_self, er, trB]
  | succ j ih =>
    intro c f b z y val hb h1 h3
    obtain ⟨f, rfl⟩ : ∃ k, f = k + 1 := ⟨f - 1, by omega⟩
    have hG' : GdW ((sR (sR v 23 z) 20 (upd s 4 (nI c))).1 20) m p w := by rw [sR_same]; exact hG.sc (Or.inr rfl) _
    have ih2 := fun b' x hb' => ih (c + 1) f b' (cpF z (upd s 4 (nI c)) 0 61) (nI c) x hb' (by omega) (by omega)
    have key : ∀ g : Int32 × Int32 × Int32 × Int32 × Int32 × Uw → Option (Int32 × Uw), b_X6_truth_34 g (nI n, s 4, nI b, val, nI c, sR (sR v 23 z) 20 (upd s 4 y)) = if val ≤ sumS (itS n (upd s 4 (nI c))) 0 then g (nI n, s 4, nI b, val, nI (c + 1), sR (sR v 23 (cpF z (upd s 4 (nI c)) 0 61)) 20 (upd s 4 (nI c))) else g (nI n, s 4, nI c, sumS (itS n (upd s 4 (nI c))) 0, nI (c + 1), sR (sR v 23 (cpF z (upd s 4 (nI c)) 0 61)) 20 (upd s 4 (nI c))) := fun g => by
      unfold b_X6_truth_34
      dsimp only
      rw [tn0, tn4, nm_eq, sR_same, upd_ne (show 0 ≠ 4 by decide), hG.1, if_neg (nI_ge (by omega) (by omega)), nm_eq, w1_sR, sR_same, sR_sR, upd_upd, p_aside, bd_eq, p_asOn hn hG', bd_eq, p_asTog hG', bd_eq, p_asBack hG', bd_eq, if_neg (nI_pos (by omega)), if_neg (show ¬ nI b = nI c from fun q => by have := (nI_eq (by omega) (by omega)).mp q; omega), nm_eq, nm_eq, if_pos rfl, nI_1, asU_sR, sR_same]
    rw [lp_s, key, trB]
    split
    · exact ih2 b val (by omega)
    · exact ih2 c _ (by omega)
theorem st_truth (a1 : Int32) : StepT Rel (fun u => f_X5_truth a1 u) (fun u => f_X6_truth a1 u) := by
  intro u hu
  obtain ⟨e0, ⟨m, p, w, d, t, hG, h2, hd, h4, ht⟩, -⟩ := id hu
  obtain ⟨hm, hm6, hp, hp8, ew, hw, -, -, -, hps⟩ := id hG
  have hm0 : u.1 0 0 = nI m := by rw [e0]; exact hm
  have h20 : u.1 0 2 = nI d := by rw [e0]; exact h2
  by_cases hv : 1 ≤ a1 ∧ a1 ≤ 100
  · obtain ⟨n, n1, hn, rfl⟩ := nI_rng 1 100 (by decide) hv.1 hv.2 (by decide)
    by_cases hz : m = 0
    · refine fin_fd hu (k := 3) (by decide) (x := -1000000004) ?_ (fun u' e => ?_)
      · show f_X5_truth (nI n) u = _
        unfold f_X5_truth
        rw [p_within, decide_eq_true hv, bd_eq, if_pos rfl, hm0, if_pos (show nI m = 0 by rw [hz]; rfl), c3, bd_eq]
      · show f_X6_truth (nI n) u' = _
        unfold f_X6_truth
        rw [L1, L100, p_in, decide_eq_true hv, bd_eq, if_pos rfl, nm_eq]
        show lp b_X6_truth_34 (2099 + 1) _ = _
        rw [lp_s]
        generalize lp b_X6_truth_34 2099 = g
        unfold b_X6_truth_34
        dsimp only
        rw [tn0, tn4, nm_eq, e, hm, if_pos (show nI m ≤ 0 by rw [hz]; decide), nm_eq, if_neg (show ¬ (0 : Int32) ≤ -1 by decide), w1_sR, e, upd_self, ← e, sR_self, m3, bd_eq]
    · obtain ⟨v0, a1', a2'⟩ := p_illAh (y := 0) (u := sR u 4 (cpF (u.1 4) (ahF (u.1 0) d) 0 n)) (by omega : n ≤ 400) hG h2 (by rw [sR_ne (by decide)]; exact e0) (fun k hk => by rw [sR_same, cpF_in hk, e0]; rfl)
      have v00 : v0.1 0 = u.1 20 := (a2'.1 0 (by decide)).trans ((show (sR u 4 (cpF (u.1 4) (ahF (u.1 0) d) 0 n)).1 0 = u.1 0 from sR_ne (by decide)).trans e0)
      have v04 : ∀ k, k < n → v0.1 4 k = hset (u.1 20) (nI (d + k)) := fun k hk => by rw [a2'.1 4 (by decide), sR_same, cpF_in hk, e0]; rfl
      obtain ⟨v1, b1, b2⟩ := l_trC (by omega : n ≤ 400) hG h2 (m - 1) 1 2100 0 (sumS (itS n (upd (u.1 20) 4 0)) 0) v0 v00 v04 (by omega) (by omega)
      have kF : Fr [2, 4, 5, 6] u v1 := Fr.tr (Fr.sR (by decide)) (Fr.tr ⟨fun r hr => a2'.1 r (fun z => hr (by simp at z; subst z; decide)), a2'.2⟩ ⟨fun r hr => b2.1 r (fun z => hr (by simp at z; subst z; decide)), b2.2⟩)
      refine fin_q hu (x := trB (fun c => sumS (itS n (upd (u.1 20) 4 (nI c))) 0) (m - 1) 1 0 (sumS (itS n (upd (u.1 20) 4 0)) 0)) ?_ kF (fun u' e => ?_)
      · show f_X5_truth (nI n) u = _
        unfold f_X5_truth
        rw [p_within, decide_eq_true hv, bd_eq, if_pos rfl, hm0, if_neg (show ¬ nI m = 0 from nI_ne0 (by omega) (by omega)), p_look (by omega) hd hm6 hm0 h20, bd_eq, a1', bd_eq]
        exact b1
      · have hG' : GdW ((sR u' 20 (upd (u.1 20) 4 0)).1 20) m p w := by rw [sR_same]; exact hG.sc (Or.inr rfl) _
        obtain ⟨z, h⟩ := l_trM (v := u') (by omega : n ≤ 400) e hG (m - 1) 1 2099 0 (cpF (u'.1 23) (upd (u.1 20) 4 0) 0 61) 0 (sumS (itS n (upd (u.1 20) 4 0)) 0) (by omega) (by omega) (by omega)
        refine ⟨sR u' 23 z, ?_, Fr.sR (by decide)⟩
        show f_X6_truth (nI n) u' = _
        unfold f_X6_truth
        rw [L1, L100, p_in, decide_eq_true hv, bd_eq, if_pos rfl, nm_eq]
        show lp b_X6_truth_34 (2099 + 1) _ = _
        rw [lp_s]
        generalize lp b_X6_truth_34 2099 = g at h ⊢
        unfold b_X6_truth_34
        dsimp only
        have ea : asU (sR u' 20 (upd (u.1 20) 4 0)) = sR (sR u' 23 (cpF (u'.1 23) (upd (u.1 20) 4 0) 0 61)) 20 (upd (u.1 20) 4 0) := by
          have := asU_sR (v := u') (z := u'.1 23) (s := upd (u.1 20) 4 0)
          rw [sR_self] at this
          exact this
        rw [tn0, tn4, nm_eq, e, hm, if_neg (show ¬ nI m ≤ 0 from nI_nle (by omega) (by omega)), nm_eq, w1_sR, e, p_aside, bd_eq, p_asOn (by omega) hG', bd_eq, p_asTog hG', bd_eq, p_asBack hG', bd_eq, if_pos (show (-1 : Int32) < 0 by decide), nm_eq, if_pos rfl, sR_same, ea]
        exact h
  · refine fin_fd hu (k := 0) (by decide) (x := -1000000001) ?_ (fun u' e => ?_)
    · show f_X5_truth a1 u = _
      unfold f_X5_truth
      rw [p_within, decide_eq_false hv, bd_eq, if_neg (by decide), c0, bd_eq]
    · show f_X6_truth a1 u' = _
      unfold f_X6_truth
      rw [L1, L100, p_in, decide_eq_false hv, bd_eq, if_neg (by decide), m0, bd_eq]
