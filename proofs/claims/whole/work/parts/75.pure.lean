/-! PURE 36: spring -/
theorem tK_3 {B : Nat → Nat} {n e : Nat} (he : e ≤ n) : tK B n e = 3 ↔ tS B n e < n ∧ B (tS B n e) = 59 := by
  have hs := tS_le (B := B) he
  unfold tK
  by_cases h : n ≤ tS B n e
  · rw [if_pos h]
    exact ⟨fun z => by omega, fun z => by omega⟩
  · rw [if_neg h]
    by_cases h59 : B (tS B n e) = 59
    · rw [h59, if_neg (by decide), if_neg (by decide), if_pos rfl]
      exact ⟨fun _ => ⟨by omega, rfl⟩, fun _ => rfl⟩
    · refine ⟨fun z => ?_, fun z => absurd z.2 h59⟩
      rw [if_neg h59] at z
      split at z
      · omega
      · split at z <;> omega
theorem neg_tab : ∀ s, s < 121 → (-1 - nI s) < 0 := by decide +kernel
def PreC (B : Nat → Nat) (n : Nat) (y : Nat → Int32) (vC : Uw) (e : Nat) (X : Nat → Int32) (u : Uw) : Prop := Fr [2, 7] vC u ∧ TpC B n u ∧ u.1 7 3 = nI e ∧ u.1 2 = cpF y X 0 61
def FinM (k0 : Int32) (vM : Uw) (u : Uw) : Prop := Fr [20, 25] vM u ∧ u.1 25 0 = k0 ∧ u.1 25 1 = 0
section Spr
variable {B : Nat → Nat} {n : Nat} {y s0 : Nat → Int32} {vC vM : Uw} {k0 : Int32}
theorem end_bad {u : Uw} {e : Nat} (h1 : Fr [20, 25] vM u) (h2 : u.1 25 2 = nI (tS B n e)) (h5 : u.1 25 5 = 1) (h0 : u.1 25 0 = k0) (h61 : ∀ k, 61 ≤ k → u.1 20 k = s0 k) (i : Int32) : ∃ uM, (bd (f_X6_putsBack u) fun _ u34 => nm (w1 u34 25 1 (0 : Int32)) fun u35 => if (u35.1 25 5) = 0 then (some (i, u35)) else (some (((-1 : Int32) - (u35.1 25 2)), u35))) = some (-1 - nI (tS B n e), uM) ∧ FinM k0 vM uM ∧ (∀ k, k < 61 → uM.1 20 k = vM.1 22 k) ∧ ∀ k, 61 ≤ k → uM.1 20 k = s0 k := by
  have e22 : u.1 22 = vM.1 22 := h1.1 22 (by decide)
  refine ⟨sR (sR u 20 (cpF (u.1 20) (u.1 22) 0 61)) 25 (upd (u.1 25) 1 0), ?_, ⟨h1.tr ((Fr.sR (by decide)).tr (Fr.sR (by decide))), ?_, ?_⟩, fun k hk => ?_, fun k hk => ?_⟩
  · rw [p_putsBack, bd_eq, nm_eq, w1_sR, sR_same, sR_ne (show 25 ≠ 20 by decide), upd_ne (show (5 : Nat) ≠ 1 by decide), h5, if_neg (by decide), upd_ne (show (2 : Nat) ≠ 1 by decide), h2]
  · rw [sR_same, upd_ne (by decide)]; exact h0
  · rw [sR_same, upd_at]
  · rw [sR_ne (by decide), sR_same, cpF_in hk, e22]
  · rw [sR_ne (by decide), sR_same, cpF_out hk]; exact h61 k hk
theorem l_spring (hn : n ≤ 120) (hB : ∀ k, B k < 256) : ∀ (j e i fC fM : Nat) (X : Nat → Int32) (uC uM : Uw), 1 ≤ i → 2 * i ≤ e + 2 → e ≤ n → n + 1 ≤ e + j → j ≤ fC → j ≤ fM → PreC B n y vC e X uC → OkM B n k0 vM e X uM → XOk s0 X → ∃ r uC' uM', lp b_X4_tell_15 fC (nI i, uC) = some (r, uC') ∧ (bd (f_X6_item uM) fun _ v => lp b_X6_spring_24 fM (nI i, v)) = some (r, uM') ∧ Fr [2, 7] vC uC' ∧ FinM k0 vM uM' ∧ ((¬ r < 0 ∧ ∃ X', XOk s0 X' ∧ uC'.1 2 = cpF y X' 0 61 ∧ uM'.1 20 = X') ∨ (r < 0 ∧ (∀ k, k < 61 → uM'.1 20 k = vM.1 22 k) ∧ ∀ k, 61 ≤ k → uM'.1 20 k = s0 k)) := by
  intro j
  induction j with
  | zero => intro e i fC fM X uC uM _ _ _ _ _ _; omega
  | succ j ih =>
    intro e i fC fM X uC uM i1 i2 he hj hfC hfM hP hM hX
    obtain ⟨fC, rfl⟩ : ∃ k, fC = k + 1 := ⟨fC - 1, by omega⟩
    obtain ⟨fM, rfl⟩ : ∃ k, fM = k + 1 := ⟨fM - 1, by omega⟩
    obtain ⟨p1, p2, p3, p4⟩ := hP
    obtain ⟨R, hR, hRC⟩ := p_rt hn hB he p2 p3
    have hC : OkC B n y vC e X (sR uC 7 R) := ⟨p1.tr (Fr.sR (by decide)), p2.up (by rw [hRC.1, p2.1]), by rw [sR_same]; exact hRC, by rw [sR_ne (by decide)]; exact p4⟩
    have hC0 : lp b_X4_tell_15 (fC + 1) (nI i, uC) = bd (f_X4_tellItem (sR uC 7 R)) fun r6 u7 => if r6 = true then (if (u7.1 7 1) = 0 then (some (nI i, u7)) else (if (u7.1 7 1) = (3 : Int32) then (lp b_X4_tell_15 fC (nI (i + 1), u7)) else (some (((-1 : Int32) - (u7.1 7 2)), u7)))) else (some (((-1 : Int32) - (u7.1 7 2)), u7)) := by
      rw [lp_s]
      generalize lp b_X4_tell_15 fC = g
      unfold b_X4_tell_15
      dsimp only
      rw [if_neg (show ¬ (120 : Int32) < nI i from nI_nlt (a := 120) (by omega) (by decide)), hR, bd_eq, nI_1]
    rw [hC0]
    rcases sim_item hn hB he hC hM hX with ⟨e', X', uC1, uM1, h1, h2, h3, h4, h5, h6, h7, -⟩ | ⟨e', uC1, uM1, h1, h2, h4, h5, h6⟩
    · have hS := tS_le (B := B) h4
      rw [h1, bd_eq, if_pos rfl, h5.2.2.1.2.1, h5.2.2.1.2.2.1, h2, bd_eq]
      have hk4 : tK B n e' ≤ 4 := by
        unfold tK
        repeat' split
        all_goals omega
      obtain ⟨q1, q2, q3, q4, q5, q6⟩ := id h6
      by_cases k0' : tK B n e' = 0
      · have hge : n ≤ tS B n e' := tK_0.mp k0'
        refine ⟨nI i, uC1, sR uM1 25 (upd (uM1.1 25) 1 0), ?_, ?_, h5.1, ⟨q1.tr (Fr.sR (by decide)), ?_, ?_⟩, Or.inl ⟨nI_pos (by omega), X', h7, h5.2.2.2, ?_⟩⟩
        · rw [if_pos (show nI (tK B n e') = 0 by rw [k0']; rfl)]
        · rw [lp_s]
          generalize lp b_X6_spring_24 fM = g
          unfold b_X6_spring_24
          dsimp only
          rw [if_pos q4, q3.2.1, p_byteE q2 hge (by omega), bd_eq, if_neg (show ¬ (-1 : Int32) = 59 by decide), if_pos q4, q2.1, q3.2.1, if_pos (nI_le hge (by omega)), nm_eq, w5_0 q4, if_pos q4, nm_eq, w1_sR, sR_same, upd_ne (show (5 : Nat) ≠ 1 by decide), if_pos q4]
        · rw [sR_same, upd_ne (by decide)]; exact q5
        · rw [sR_same, upd_at]
        · rw [sR_ne (by decide)]; exact q6
      · have hlt : tS B n e' < n := by
          have := mt tK_0.mpr k0'
          omega
        rw [if_neg (show ¬ nI (tK B n e') = 0 from nI_ne0 (by omega) (by omega))]
        by_cases k3 : tK B n e' = 3
        · have h59 := ((tK_3 h4).mp k3).2
          have hgt := tE_gt' (B := B) (n := n) (e := e') (by omega)
          obtain ⟨uM2, m2, hM2, -⟩ := h6.tk hn hB h4
          obtain ⟨r, uC', uM', a1, a2, a3⟩ := ih (tE B n e') (i + 1) fC fM X' uC1 uM2 (by omega) (by omega) (tE_le h4) (by omega) (by omega) (by omega) ⟨h5.1, h5.2.1, h5.2.2.1.2.2.2.1, h5.2.2.2⟩ hM2 h7
          refine ⟨r, uC', uM', ?_, ?_, a3⟩
          · rw [if_pos (show nI (tK B n e') = 3 by rw [k3]; rfl)]
            exact a1
          · rw [lp_s]
            generalize lp b_X6_spring_24 fM = g at a2 ⊢
            unfold b_X6_spring_24
            dsimp only
            rw [if_pos q4, q3.2.1, p_byte hn q2 hlt, bd_eq, h59, if_pos (show nI 59 = 59 from rfl), m2, bd_eq, nI_1]
            exact a2
        · rw [if_neg (show ¬ nI (tK B n e') = 3 from fun z => k3 ((nI_eq (b := 3) (by omega) (by omega)).mp z))]
          have h59 : ¬ nI (B (tS B n e')) = 59 := fun z => k3 ((tK_3 h4).mpr ⟨hlt, (nI_eq (b := 59) (by have := hB (tS B n e'); omega) (by omega)).mp z⟩)
          obtain ⟨uM', b1, b2, b3, b4⟩ := end_bad (B := B) (n := n) (e := e') (s0 := s0) (k0 := k0) (vM := vM) (u := sR uM1 25 (upd (uM1.1 25) 5 1)) (q1.tr (Fr.sR (by decide))) (by rw [sR_same, upd_ne (by decide)]; exact q3.2.1) (by rw [sR_same, upd_at]) (by rw [sR_same, upd_ne (by decide)]; exact q5) (fun k hk => by rw [sR_ne (by decide), q6]; exact h7.2 k hk) (nI i)
          refine ⟨-1 - nI (tS B n e'), uC1, uM', rfl, ?_, h5.1, b2, Or.inr ⟨neg_tab _ (by omega), b3, b4⟩⟩
          rw [lp_s]
          generalize lp b_X6_spring_24 fM = g
          unfold b_X6_spring_24
          dsimp only
          rw [if_pos q4, q3.2.1, p_byte hn q2 hlt, bd_eq, if_neg h59, if_pos q4, q2.1, q3.2.1, if_neg (nI_ge hlt (by omega)), nm_eq, w1_sR, sR_same, upd_at, if_neg (show ¬ (1 : Int32) = 0 by decide)]
          exact b1
    · have hS := tS_le (B := B) h4
      obtain ⟨q1, q2, q3, q4, q5, q6⟩ := id h6
      rw [h1, bd_eq, if_neg (by decide), h5.2.2.2.2.1, h2, bd_eq]
      obtain ⟨uM', b1, b2, b3, b4⟩ := end_bad (B := B) (n := n) (e := e') (s0 := s0) (k0 := k0) (vM := vM) (u := uM1) q1 q3.2.1 q4 q5 q6 (nI i)
      refine ⟨-1 - nI (tS B n e'), uC1, uM', rfl, ?_, h5.1, b2, Or.inr ⟨neg_tab _ (by omega), b3, b4⟩⟩
      have n5 : ¬ uM1.1 25 5 = 0 := by rw [q4]; decide
      rw [lp_s]
      generalize lp b_X6_spring_24 fM = g
      unfold b_X6_spring_24
      dsimp only
      rw [if_neg n5, if_neg n5, nm_eq, w5_1 q4, if_neg n5]
      exact b1
end Spr
theorem Rel.sp {u u' : Uw} (hu : Rel u) (e : ∀ r, r ≠ 0 → r ≠ 2 → r ≠ 7 → r ≠ 20 → r ≠ 22 → r ≠ 25 → u'.1 r = u.1 r) (e2 : u'.2 = u.2) (h0 : u'.1 0 = u'.1 20) (hg : Good (u'.1 20)) (hk : u'.1 25 0 = u.1 25 0) (h7 : u'.1 7 0 = 0) (h25 : u'.1 25 1 = 0) : Rel u' := by
  obtain ⟨a1, a2, a3, a4, a5, a6⟩ := hu
  have E := fun r (h : r ≠ 0 ∧ r ≠ 2 ∧ r ≠ 7 ∧ r ≠ 20 ∧ r ≠ 22 ∧ r ≠ 25) => e r h.1 h.2.1 h.2.2.1 h.2.2.2.1 h.2.2.2.2.1 h.2.2.2.2.2
  refine ⟨h0, hg, ?_, ?_, ⟨0, by omega, h7, h25, fun k hk => by omega⟩, fun i hi => ?_⟩
  · rw [E 3 (by decide), E 24 (by decide)]; exact a3
  · unfold KeptR at a4 ⊢
    rw [E 9 (by decide), hk, E 1 (by decide), E 21 (by decide)]; exact a4
  · have := a6 i hi
    unfold SheetR at this ⊢
    rw [E (10 + i) (by omega), E 27 (by decide), E 28 (by decide), e2]; exact this
theorem st_spring : StepT Rel (fun u => f_X5_spring u) (fun u => f_X6_spring u) := by
  intro u hu
  obtain ⟨e0, hGood, -, -, ⟨n, hn, h70, h251, htape⟩, -⟩ := id hu
  have hB : ∀ k, (fun k => (u.1 26 k).toNatClampNeg % 256) k < 256 := fun k => Nat.mod_lt _ (by decide)
  have hTB : ∀ k, k < n → u.1 8 k = cb ((fun k => (u.1 26 k).toNatClampNeg % 256) k) ∧ u.1 26 k = nI ((fun k => (u.1 26 k).toNatClampNeg % 256) k) := fun k hk => by
    obtain ⟨b, hb, h1, h2⟩ := htape k hk
    have e : (fun k => (u.1 26 k).toNatClampNeg % 256) k = b := by
      show (u.1 26 k).toNatClampNeg % 256 = b
      rw [h1, nI_clamp (by omega)]
      exact Nat.mod_eq_of_lt hb
    rw [e]
    exact ⟨h2, h1⟩
  generalize (fun k => (u.1 26 k).toNatClampNeg % 256) = B at hB hTB
  have hX : XOk (u.1 20) (u.1 20) := ⟨hGood, fun _ _ => rfl⟩
  have hbec : f_X3_become 46 0 u = some ((), sR u 2 (cpF (u.1 2) (u.1 0) 0 61)) := p_become (r := 2) (r' := 0) (by decide) (by decide) (by decide) u
  have hP : PreC B n (u.1 2) u 0 (u.1 20) (sR (sR u 2 (cpF (u.1 2) (u.1 20) 0 61)) 7 (upd (u.1 7) 3 0)) := by
    refine ⟨(Fr.sR (by decide)).tr (Fr.sR (by decide)), ⟨?_, fun k hk => ?_⟩, ?_, ?_⟩
    · rw [sR_same, upd_ne (by decide)]; exact h70
    · rw [sR_ne (by decide), sR_ne (by decide)]; exact (hTB k hk).1
    · rw [sR_same, upd_at]; rfl
    · rw [sR_ne (by decide), sR_same]
  have hCt : f_X4_tell 0 u = lp b_X4_tell_15 2100 (nI 1, sR (sR u 2 (cpF (u.1 2) (u.1 20) 0 61)) 7 (upd (u.1 7) 3 0)) := by
    unfold f_X4_tell
    rw [hbec, bd_eq, nm_eq, w1_sR, sR_ne (show 7 ≠ 2 by decide), e0]
    rfl
  -- the model, over any world with these rows
  have main : ∀ v : Uw, v.1 20 = u.1 20 → v.1 25 = u.1 25 → v.1 26 = u.1 26 → ∃ r uC' uM', f_X4_tell 0 u = some (r, uC') ∧ f_X6_spring v = some (r, uM') ∧ Fr [2, 7] u uC' ∧ FinM (u.1 25 0) (sR v 22 (cpF (v.1 22) (v.1 20) 0 61)) uM' ∧ ((¬ r < 0 ∧ ∃ X', XOk (u.1 20) X' ∧ uC'.1 2 = cpF (u.1 2) X' 0 61 ∧ uM'.1 20 = X') ∨ (r < 0 ∧ (∀ k, k < 61 → uM'.1 20 k = (sR v 22 (cpF (v.1 22) (v.1 20) 0 61)).1 22 k) ∧ ∀ k, 61 ≤ k → uM'.1 20 k = u.1 20 k)) := fun v v20 v25 v26 => by
    have hT : TpM B n (sR (sR v 22 (cpF (v.1 22) (v.1 20) 0 61)) 25 (upd (upd (u.1 25) 5 0) 3 0)) := by
      refine ⟨?_, fun k hk => ?_⟩
      · rw [sR_same, upd_ne (by decide), upd_ne (by decide)]; exact h251
      · rw [sR_ne (by decide), sR_ne (by decide), v26]; exact (hTB k hk).2
    have hk := p_tk (e := 0) hn hB (Nat.zero_le n) hT (by rw [sR_same, upd_at]; rfl)
    rw [sR_same, sR_sR] at hk
    have hM : OkM B n (u.1 25 0) (sR v 22 (cpF (v.1 22) (v.1 20) 0 61)) 0 (u.1 20) (sR (sR v 22 (cpF (v.1 22) (v.1 20) 0 61)) 25 (upd (upd (upd (upd (u.1 25) 5 0) 3 0) 2 (nI (tS B n 0))) 3 (nI (tE B n 0)))) := by
      refine ⟨Fr.sR (by decide), ⟨?_, fun k hk => ?_⟩, ⟨?_, ?_, ?_⟩, ?_, ?_, ?_⟩
      · rw [sR_same, upd_ne (by decide), upd_ne (by decide), upd_ne (by decide), upd_ne (by decide)]; exact h251
      · rw [sR_ne (by decide), sR_ne (by decide), v26]; exact (hTB k hk).2
      · rw [sR_same, upd_ne (by decide), upd_ne (by decide), upd_ne (by decide), upd_ne (by decide)]; exact h251
      · rw [sR_same, upd_ne (by decide), upd_at]
      · rw [sR_same, upd_at]
      · rw [sR_same, upd_ne (by decide), upd_ne (by decide), upd_ne (by decide), upd_at]
      · rw [sR_same, upd_ne (by decide), upd_ne (by decide), upd_ne (by decide), upd_ne (by decide)]
      · rw [sR_ne (by decide), sR_ne (by decide)]; exact v20
    obtain ⟨r, uC', uM', a1, a2, a3⟩ := l_spring (s0 := u.1 20) hn hB (n + 1) 0 1 2100 2100 (u.1 20) _ _ (by omega) (by omega) (by omega) (by omega) (by omega) (by omega) hP hM hX
    refine ⟨r, uC', uM', hCt.trans a1, ?_, a3⟩
    unfold f_X6_spring
    rw [p_saves, bd_eq, nm_eq, nm_eq, w1_sR, w1_sR, sR_same, sR_sR, sR_ne (show 25 ≠ 22 by decide), v25, hk, bd_eq]
    exact a2
  obtain ⟨r, uC', -, hc, -⟩ := main u rfl rfl rfl
  -- the class's end
  have fin : ∀ (z0 : Nat → Int32), (∀ v : Uw, v = sR (sR uC' 0 z0) 7 (upd (uC'.1 7) 0 0) → ∃ uM', f_X6_spring v = some (r, uM') ∧ Fr [2, 7] u uC' ∧ FinM (u.1 25 0) (sR v 22 (cpF (v.1 22) (v.1 20) 0 61)) uM' ∧ ((¬ r < 0 ∧ ∃ X', XOk (u.1 20) X' ∧ uC'.1 2 = cpF (u.1 2) X' 0 61 ∧ uM'.1 20 = X') ∨ (r < 0 ∧ (∀ k, k < 61 → uM'.1 20 k = (sR v 22 (cpF (v.1 22) (v.1 20) 0 61)).1 22 k) ∧ ∀ k, 61 ≤ k → uM'.1 20 k = u.1 20 k))) := fun z0 v ev => by
    obtain ⟨rr, uC0, uM0, hc0, -, hFr0, -⟩ := main u rfl rfl rfl
    have hFr : Fr [2, 7] u uC' := by
      rw [hc] at hc0
      have := (Prod.mk.inj (Option.some.inj hc0)).2
      rw [this]
      exact hFr0
    have g20 : v.1 20 = u.1 20 := by rw [ev, sR_ne (by decide), sR_ne (by decide)]; exact hFr.1 20 (by decide)
    have g25 : v.1 25 = u.1 25 := by rw [ev, sR_ne (by decide), sR_ne (by decide)]; exact hFr.1 25 (by decide)
    have g26 : v.1 26 = u.1 26 := by rw [ev, sR_ne (by decide), sR_ne (by decide)]; exact hFr.1 26 (by decide)
    obtain ⟨r2, uC2, uM2, b1, b2, b3, b4, b5⟩ := main v g20 g25 g26
    rw [hc] at b1
    have ei := Prod.mk.inj (Option.some.inj b1)
    rw [← ei.1, ← ei.2] at b5
    rw [← ei.1] at b2
    exact ⟨uM2, b2, hFr, b4, b5⟩
  by_cases hr : r < 0
  · obtain ⟨uM', b2, hFr, b4, b5⟩ := fin (uC'.1 0) _ rfl
    rw [sR_self] at b2 b4 b5
    refine ⟨r, sR uC' 7 (upd (uC'.1 7) 0 0), uM', ?_, b2, ?_⟩
    · show f_X5_spring u = _
      unfold f_X5_spring
      rw [hc, bd_eq, if_pos hr, nm_eq, w1_sR]
    · rcases b5 with ⟨q, -⟩ | ⟨-, b6, b7⟩
      · exact absurd hr q
      · obtain ⟨f1, f2, f3⟩ := b4
        have e20 : uM'.1 20 = u.1 20 := by
          funext k
          by_cases hk : k < 61
          · rw [b6 k hk, sR_same, cpF_in hk, sR_ne (by decide), hFr.1 20 (by decide)]
          · exact b7 k (by omega)
        have e00 : uM'.1 0 = u.1 0 := by rw [f1.1 0 (by decide), sR_ne (by decide), sR_ne (by decide), hFr.1 0 (by decide)]
        refine hu.sp (fun k h0 h2 h7 h20 h22 h25 => ?_) ?_ (by rw [e00, e20]; exact e0) (by rw [e20]; exact hGood) f2 ?_ f3
        · rw [f1.1 k (by simp; omega), sR_ne h22, sR_ne h7, hFr.1 k (by simp; omega)]
        · rw [f1.2, sR_2, sR_2, hFr.2]
        · rw [f1.1 7 (by decide), sR_ne (by decide), sR_same, upd_at]
  · obtain ⟨uM', b2, hFr, b4, b5⟩ := fin (cpF (uC'.1 0) (uC'.1 2) 0 61) _ rfl
    have hbec2 : f_X3_become 0 46 uC' = some ((), sR uC' 0 (cpF (uC'.1 0) (uC'.1 2) 0 61)) := p_become (r := 0) (r' := 2) (by decide) (by decide) (by decide) uC'
    refine ⟨r, sR (sR uC' 0 (cpF (uC'.1 0) (uC'.1 2) 0 61)) 7 (upd (uC'.1 7) 0 0), uM', ?_, b2, ?_⟩
    · show f_X5_spring u = _
      unfold f_X5_spring
      rw [hc, bd_eq, if_neg hr, hbec2, bd_eq, nm_eq, w1_sR, sR_ne (show 7 ≠ 0 by decide)]
    · rcases b5 with ⟨-, X', hX', c2', b6⟩ | ⟨q, -⟩
      · obtain ⟨f1, f2, f3⟩ := b4
        have e00 : uM'.1 0 = X' := by
          rw [f1.1 0 (by decide), sR_ne (by decide), sR_ne (by decide), sR_same, c2', hFr.1 0 (by decide)]
          funext k
          by_cases hk : k < 61
          · rw [cpF_in hk, cpF_in hk]
          · rw [cpF_out (by omega), hX'.2 k (by omega), e0]
        refine hu.sp (fun k h0 h2 h7 h20 h22 h25 => ?_) ?_ (by rw [e00, b6]) (by rw [b6]; exact hX'.1) f2 ?_ f3
        · rw [f1.1 k (by simp; omega), sR_ne h22, sR_ne h7, sR_ne h0, hFr.1 k (by simp; omega)]
        · rw [f1.2, sR_2, sR_2, sR_2, hFr.2]
        · rw [f1.1 7 (by decide), sR_ne (by decide), sR_same, upd_at]
      · exact absurd q hr
