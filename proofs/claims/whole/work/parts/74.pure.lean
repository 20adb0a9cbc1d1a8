/-! PURE 35: calendars and items -/
section Items
variable {B : Nat → Nat} {n e : Nat} {y X s0 : Nat → Int32} {vC vM uC uM : Uw} {k0 : Int32}
theorem Sim.mono {P Q : (Nat → Int32) → Prop} {f : Option (Bool × Uw)} {g : Option (Unit × Uw)} {e1 e2 : Nat} (h : Sim B n y s0 k0 vC vM P f g e2) (he : e1 ≤ e2) (hPQ : ∀ X, P X → Q X) : Sim B n y s0 k0 vC vM Q f g e1 := by
  rcases h with ⟨e', X', a, b, h1, h2, h3, h4, h5, h6, h7, h8⟩ | h
  · exact Or.inl ⟨e', X', a, b, h1, h2, by omega, h4, h5, h6, h7, hPQ _ h8⟩
  · exact Or.inr h
theorem Sim.andThen {P Q : (Nat → Int32) → Prop} {f : Option (Bool × Uw)} {g : Option (Unit × Uw)} {F : Uw → Option (Bool × Uw)} {G : Uw → Option (Unit × Uw)} (h : Sim B n y s0 k0 vC vM P f g e) (hF : ∀ e' X' uC uM, e ≤ e' → e' ≤ n → OkC B n y vC e' X' uC → OkM B n k0 vM e' X' uM → XOk s0 X' → P X' → Sim B n y s0 k0 vC vM Q (F uC) (G uM) e') (hG : ∀ e' uM, e' ≤ n → BadM B n k0 vM s0 e' uM → G uM = some ((), uM)) : Sim B n y s0 k0 vC vM Q (bd f fun r u => if r = true then F u else some (false, u)) (bd g fun _ u => G u) e := by
  rcases h with ⟨e', X', a, b, h1, h2, h3, h4, h5, h6, h7, h8⟩ | ⟨e', a, b, h1, h2, h3, h4, h5⟩
  · have := (hF e' X' a b h3 h4 h5 h6 h7 h8).mono h3 (fun _ z => z)
    rw [h1, h2, bd_eq, bd_eq, if_pos rfl]
    exact this
  · refine Or.inr ⟨e', a, b, ?_, ?_, h3, h4, h5⟩
    · rw [h1, bd_eq, if_neg (by decide)]
    · rw [h2, bd_eq, hG e' b h3 h5]
theorem kd_cases : kdI B n e = -1 ∨ ((∃ j, j < 6 ∧ kdI B n e = nI j) ∧ tK B n e = 1) := by
  unfold kdI
  by_cases h8 : isW B n 8 e = true
  · rw [if_pos h8]; exact Or.inr ⟨⟨0, by omega, rfl⟩, isW_K h8⟩
  rw [if_neg h8]
  by_cases h9 : isW B n 9 e = true
  · rw [if_pos h9]; exact Or.inr ⟨⟨1, by omega, rfl⟩, isW_K h9⟩
  rw [if_neg h9]
  by_cases h10 : isW B n 10 e = true
  · rw [if_pos h10]; exact Or.inr ⟨⟨2, by omega, rfl⟩, isW_K h10⟩
  rw [if_neg h10]
  by_cases h11 : isW B n 11 e = true
  · rw [if_pos h11]; exact Or.inr ⟨⟨3, by omega, rfl⟩, isW_K h11⟩
  rw [if_neg h11]
  by_cases h12 : isW B n 12 e = true
  · rw [if_pos h12]; exact Or.inr ⟨⟨4, by omega, rfl⟩, isW_K h12⟩
  rw [if_neg h12]
  by_cases h13 : isW B n 13 e = true
  · rw [if_pos h13]; exact Or.inr ⟨⟨5, by omega, rfl⟩, isW_K h13⟩
  rw [if_neg h13]
  exact Or.inl rfl
theorem kd_none {w : Nat} (hw : w < 8) (h : isW B n w e = true) : kdI B n e = -1 := by
  unfold kdI
  rw [isW_one (by omega) (show 8 < 14 by decide) h (by omega), isW_one (by omega) (show 9 < 14 by decide) h (by omega), isW_one (by omega) (show 10 < 14 by decide) h (by omega), isW_one (by omega) (show 11 < 14 by decide) h (by omega), isW_one (by omega) (show 12 < 14 by decide) h (by omega), isW_one (by omega) (show 13 < 14 by decide) h (by omega)]
  rfl
theorem sim_cal {j : Nat} (hj : j < 6) (hkd : kdI B n e = nI j) (hn : n ≤ 120) (hB : ∀ k, B k < 256) (he : e ≤ n) (hC : OkC B n y vC e X uC) (hM : OkM B n k0 vM e X uM) (hX : XOk s0 X) : Sim B n y s0 k0 vC vM (fun _ => True) (f_X4_tellCalendar uC) (f_X6_calendarItem (nI j) uM) (tE B n e) := by
  obtain ⟨⟨m, p, wp, d, t, hG, g2, gd, g4, gt⟩, hX61⟩ := id hX
  obtain ⟨-, -, -, t3, t4, t5, t6, -⟩ := kc_tab
  have hm6 := hG.2.1
  have he1 := tE_le (B := B) he
  have hC2 := hC.gd hG
  unfold f_X4_tellCalendar f_X6_calendarItem
  rw [p_kn hn hC.2.1 hC.2.2.1 he, bd_eq, hkd, if_neg (nI_pos (by omega)), tn0, nm_eq, hM.2.2.2.2.2, hC2.1, hG.1]
  by_cases hm : m < 6
  · obtain ⟨uM1, m1, hM1, -⟩ := hM.tk hn hB he
    have hadd : f_X3_addCalendar 46 (nI j) uC = some ((), sR uC 2 (addS (uC.1 2) m (nI j))) := p_addCal (r := 2) (by decide) hC2.1 hm _
    rw [hC.2.2.2, addS_cp hm] at hadd
    have hC1 := hC.w2 (X' := addS X m (nI j))
    obtain ⟨uC2, c2', hC2'⟩ := hC1.rt hn hB he
    have hads := p_adds (u := uM1) (m := m) (by rw [hM1.2.2.2.2.2]; exact hG.1) hm (nI j)
    rw [hM1.2.2.2.2.2] at hads
    have hM2 := hM1.w20 (X' := addS X m (nI j))
    have hjk : (0 : Int32) ≤ nI j ∧ nI j ≤ 5 := ⟨nI_pos' (by omega), nI_le (b := 5) (by omega) (by decide)⟩
    have e2 : addS X m (nI j) 2 = X 2 := by unfold addS; rw [upd_ne (by omega), upd_ne (by omega), upd_ne (by omega), upd_ne (by omega), upd_ne (by omega), upd_ne (by omega)]
    have e4 : addS X m (nI j) 4 = X 4 := by unfold addS; rw [upd_ne (by omega), upd_ne (by omega), upd_ne (by omega), upd_ne (by omega), upd_ne (by omega), upd_ne (by omega)]
    have hX' : XOk s0 (addS X m (nI j)) := ⟨⟨m + 1, p, wp, d, t, hG.add hm hjk, by rw [e2]; exact g2, gd, by rw [e4]; exact g4, gt⟩, fun k hk => by
      unfold addS
      rw [upd_ne (by omega), upd_ne (by omega), upd_ne (by omega), upd_ne (by omega), upd_ne (by omega), upd_ne (by omega)]
      exact hX61 k hk⟩
    have h00 : addS X m (nI j) 0 ≠ 0 := by
      have : addS X m (nI j) 0 = nI (m + 1) := upd_at
      rw [this]
      exact nI_ne0 (by omega) (by omega)
    rw [if_pos (show nI m < (6 : Int32) from nI_lt (b := 6) hm (by decide)), if_neg (show ¬ (6 : Int32) ≤ nI m from nI_ge (b := 6) hm (by decide)), hadd, bd_eq, c2', bd_eq, m1, bd_eq, if_pos hM1.2.2.2.1, hads, bd_eq]
    have s3 := sim_field (w := 3) (k := 1) (by decide) (by decide) t3 hn hB he1 hC2' hM2 hX' h00
    refine Sim.andThen (P := fun X' => X' 0 = addS X m (nI j) 0) s3 (fun e3 X3 uC3 uM3 l3 n3 oC3 oM3 x3 p3 => ?_) (fun e' u' hn' hb => by rw [part_W (w := 4) (by decide) t4 hn hB hn' hb, bd_eq, part_W (w := 5) (by decide) t5 hn hB hn' hb, bd_eq, part_W (w := 6) (by decide) t6 hn hB hn' hb, bd_eq])
    have s4 := sim_field (w := 4) (k := 2) (by decide) (by decide) t4 hn hB n3 oC3 oM3 x3 (by rw [p3]; exact h00)
    refine Sim.andThen (P := fun X' => X' 0 = X3 0) s4 (fun e4 X4 uC4 uM4 l4 n4 oC4 oM4 x4 p4 => ?_) (fun e' u' hn' hb => by rw [part_W (w := 5) (by decide) t5 hn hB hn' hb, bd_eq, part_W (w := 6) (by decide) t6 hn hB hn' hb, bd_eq])
    have s5 := sim_field (w := 5) (k := 3) (by decide) (by decide) t5 hn hB n4 oC4 oM4 x4 (by rw [p4, p3]; exact h00)
    refine Sim.andThen (P := fun X' => X' 0 = X4 0) s5 (fun e5 X5 uC5 uM5 l5 n5 oC5 oM5 x5 p5 => ?_) (fun e' u' hn' hb => by rw [part_W (w := 6) (by decide) t6 hn hB hn' hb, bd_eq])
    have s6 := sim_field (w := 6) (k := 4) (by decide) (by decide) t6 hn hB n5 oC5 oM5 x5 (by rw [p5, p4, p3]; exact h00)
    refine Sim.andThen (P := fun X' => X' 0 = X5 0) (F := fun u => some (true, u)) (G := fun u => some ((), u)) s6 (fun e6 X6 uC6 uM6 l6 n6 oC6 oM6 x6 p6 => ?_) (fun e' u' hn' hb => rfl)
    exact Or.inl ⟨e6, X6, uC6, uM6, rfl, rfl, Nat.le_refl _, n6, oC6, oM6, x6, trivial⟩
  · rw [if_neg (show ¬ nI m < (6 : Int32) from nI_nlt (b := 6) (by omega) (by omega)), if_pos (show (6 : Int32) ≤ nI m from nI_le (a := 6) (by omega) (by omega))]
    obtain ⟨uM1, m1, hM1, e20⟩ := hM.m0 hX
    refine Or.inr ⟨e, uC, uM1, rfl, ?_, he, hC.bad, hM1⟩
    rw [m1, bd_eq, if_neg (show ¬ uM1.1 25 5 = 0 by rw [hM1.2.2.2.1]; decide)]
theorem sim_item (hn : n ≤ 120) (hB : ∀ k, B k < 256) (he : e ≤ n) (hC : OkC B n y vC e X uC) (hM : OkM B n k0 vM e X uM) (hX : XOk s0 X) : Sim B n y s0 k0 vC vM (fun _ => True) (f_X4_tellItem uC) (f_X6_item uM) (e + 1) := by
  obtain ⟨⟨m, p, wp, d, t, hG, g2, gd, g4, gt⟩, hX61⟩ := id hX
  obtain ⟨t0, t1, t2, -⟩ := kc_tab
  have w0 := p_isW (w := 0) (by decide) hn hC.2.1 hC.2.2.1 he
  have w1' := p_isW (w := 1) (by decide) hn hC.2.1 hC.2.2.1 he
  have w2' := p_isW (w := 2) (by decide) hn hC.2.1 hC.2.2.1 he
  have hwd := p_word hn hB he hM.2.1 hM.2.2.1 hM.2.2.2.1
  have hkh := p_kh hn hB he hM.2.1 hM.2.2.1 hM.2.2.2.1
  have up : tK B n e = 1 → e + 1 ≤ tE B n e := fun h => tE_gt' (by omega)
  unfold f_X4_tellItem f_X6_item
  rw [show f_X4_isWord 110 uC = _ from w0, bd_eq, show f_X4_isWord 111 uC = _ from w1', bd_eq, show f_X4_isWord 112 uC = _ from w2', bd_eq, hkh, bd_eq, hwd, bd_eq, bd_id, bd_id, bd_id, bd_id, bd_u, bd_u]
  by_cases h0 : isW B n 0 e = true
  · rw [if_pos h0, kd_none (by decide) h0, if_pos (show (-1 : Int32) < 0 by decide), if_pos ((wv_iff (w := 0) (by decide) he t0).mpr h0)]
    exact (sim_pil hn hB he hC hM hX).mono (up (isW_K h0)) (fun _ z => z)
  rw [if_neg h0]
  by_cases h1 : isW B n 1 e = true
  · rw [if_pos h1, kd_none (by decide) h1, if_pos (show (-1 : Int32) < 0 by decide), if_neg (fun z => h0 ((wv_iff (w := 0) (by decide) he t0).mp z)), if_pos ((wv_iff (w := 1) (by decide) he t1).mpr h1)]
    refine (show Sim B n y s0 k0 vC vM (fun _ => True) (fNum 4 0 5 uC) (gNum 4 0 5 uM) (tE B n e) from ?_).mono (up (isW_K h1)) (fun _ z => z)
    refine sim_num (by decide) (by decide) hn hB he hC hM hX (fun v hv1 hv2 => ?_)
    obtain ⟨t', -, ht', et'⟩ := nI_rng 0 5 (by decide) hv1 hv2 (by decide)
    exact ⟨⟨m, p, wp, d, t', hG.sc (Or.inr rfl) _, by rw [upd_ne (by decide)]; exact g2, gd, by rw [upd_at]; exact et', ht'⟩, fun k hk => by rw [upd_ne (by omega)]; exact hX61 k hk⟩
  rw [if_neg h1]
  by_cases h2 : isW B n 2 e = true
  · rw [if_pos h2, kd_none (by decide) h2, if_pos (show (-1 : Int32) < 0 by decide), if_neg (fun z => h0 ((wv_iff (w := 0) (by decide) he t0).mp z)), if_neg (fun z => h1 ((wv_iff (w := 1) (by decide) he t1).mp z)), if_pos ((wv_iff (w := 2) (by decide) he t2).mpr h2)]
    refine (show Sim B n y s0 k0 vC vM (fun _ => True) (fNum 3 1 50 uC) (gNum 3 1 50 uM) (tE B n e) from ?_).mono (up (isW_K h2)) (fun _ z => z)
    refine sim_num (by decide) (by decide) hn hB he hC hM hX (fun v hv1 hv2 => ?_)
    obtain ⟨v', hv1', hv2', ev'⟩ := nI_rng 1 50 (by decide) hv1 hv2 (by decide)
    rw [ev']
    exact ⟨⟨m, p, v', d, t, hG.pw ⟨hv1', hv2'⟩, by rw [upd_ne (by decide)]; exact g2, gd, by rw [upd_ne (by decide)]; exact g4, gt⟩, fun k hk => by rw [upd_ne (by omega)]; exact hX61 k hk⟩
  rw [if_neg h2]
  rcases kd_cases (B := B) (n := n) (e := e) with hk | ⟨⟨j, hj, hk⟩, hK⟩
  · obtain ⟨uM1, m1, hM1, e20⟩ := hM.m0 hX
    rw [hk, if_pos (show (-1 : Int32) < 0 by decide), if_neg (fun z => h0 ((wv_iff (w := 0) (by decide) he t0).mp z)), if_neg (fun z => h1 ((wv_iff (w := 1) (by decide) he t1).mp z)), if_neg (fun z => h2 ((wv_iff (w := 2) (by decide) he t2).mp z))]
    refine Or.inr ⟨e, uC, uM1, ?_, ?_, he, hC.bad, hM1⟩
    · unfold f_X4_tellCalendar
      rw [p_kn hn hC.2.1 hC.2.2.1 he, bd_eq, hk, if_pos (by decide)]
    · rw [m1, bd_eq, p_numberW hM1.2.2.2.1, bd_eq, if_neg (show ¬ uM1.1 25 5 = 0 by rw [hM1.2.2.2.1]; decide), nm_eq, nm_eq, w1_self]
  · rw [hk, if_neg (nI_pos (by omega))]
    exact (sim_cal hj hk hn hB he hC hM hX).mono (up hK) (fun _ z => z)
end Items
