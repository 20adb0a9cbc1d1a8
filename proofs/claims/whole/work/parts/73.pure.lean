/-! PURE 34: fields, numbers, pilgrims, calendars, items -/
theorem num_iff {B : Nat → Nat} {n e : Nat} {lo hi : Int32} {u : Uw} (he : e ≤ n) (hR : RC B n e (u.1 7)) (hhi : hi.toInt ≤ 9999) : nOk B n e lo hi = true ↔ (u.1 7 1 = 2 ∧ lo ≤ u.1 7 4 ∧ u.1 7 4 ≤ hi) := by
  have h := (p_isNum (lo := lo) he hR hhi).1
  unfold f_X4_isNumber at h
  by_cases h1 : u.1 7 1 = 2
  · rw [if_pos h1, p_within, bd_eq, ite_bool] at h
    have h2 := (Prod.mk.inj (Option.some.inj h)).1
    rw [← h2, decide_eq_true_iff]
    exact ⟨fun z => ⟨h1, z⟩, fun z => z.2⟩
  · rw [if_neg h1] at h
    have h2 := (Prod.mk.inj (Option.some.inj h)).1
    rw [← h2]
    exact ⟨fun z => (by cases z), fun z => absurd z.1 h1⟩
theorem isW_K {B : Nat → Nat} {n w e : Nat} (h : isW B n w e = true) : tK B n e = 1 := (of_decide_eq_true h).1
theorem kw_tab : ∀ w, w < 14 → ∀ w', w' < 14 → w ≠ w' → ¬ (kl w = kl w' ∧ ∀ i, i < kl w → kb w i = kb w' i) := by decide +kernel
theorem isW_one {B : Nat → Nat} {n w w' e : Nat} (hw : w < 14) (hw' : w' < 14) (h : isW B n w e = true) (hne : w ≠ w') : isW B n w' e = false := by
  refine decide_eq_false (fun q => ?_)
  have h1 := of_decide_eq_true h
  refine kw_tab w hw w' hw' hne ⟨by rw [← h1.2.1, q.2.1], fun i hi => ?_⟩
  rw [← h1.2.2 i hi, q.2.2 i (by rw [← q.2.1, h1.2.1]; exact hi)]
theorem w1_self {u : Uw} {r k : Nat} : w1 u r k (u.1 r k) = u := by rw [w1_sR, upd_self, sR_self]
theorem tb_le : ∀ k, k < 5 → (tbv 1 k).toInt ≤ 9999 := by decide +kernel
section Parts
variable {B : Nat → Nat} {n e : Nat} {y X s0 : Nat → Int32} {vC vM uC uM : Uw} {k0 : Int32}
theorem cp_0 : ∀ {k : Nat}, k < 61 → cpF y X 0 61 k = X k := fun h => cpF_in h
theorem OkC.gd {m p w : Nat} {u : Uw} (h : OkC B n y vC e X u) (hG : GdW X m p w) : GdW (u.1 2) m p w := by
  rw [h.2.2.2]
  exact hG.cp (fun k hk => cpF_in hk)
theorem part_W {c : Int64} {k lo hi : Int32} {w : Nat} (hw : w < 14) (hc : c = lN (cF (kb w) (kl w))) (hn : n ≤ 120) (hB : ∀ k, B k < 256) (he : e ≤ n) (h : BadM B n k0 vM s0 e uM) : f_X6_partItem c k lo hi uM = some ((), uM) := by
  unfold f_X6_partItem
  have h0 := kc_pos w hw
  have h1 := kc_le w hw
  rw [h.word hn hB he, bd_eq, if_neg]
  intro z
  rw [lg_cmp_eq, hc] at z
  have := (pk_lEQ (a := 0) (by decide) (by omega)).mp (show lN 0 = _ from z)
  omega
theorem sim_field {w k : Nat} (hw : w < 14) (hk : k < 5) {c : Int64} (hc : c = lN (cF (kb w) (kl w))) (hn : n ≤ 120) (hB : ∀ k, B k < 256) (he : e ≤ n) (hC : OkC B n y vC e X uC) (hM : OkM B n k0 vM e X uM) (hX : XOk s0 X) (h0 : X 0 ≠ 0) : Sim B n y s0 k0 vC vM (fun X' => X' 0 = X 0) (f_X4_tellField (110 + w) (nI k) uC) (f_X6_partItem c (nI k) (tbv 0 k) (tbv 1 k) uM) e := by
  obtain ⟨⟨m, p, wp, d, t, hG, g2, gd, g4, gt⟩, hX61⟩ := id hX
  have hm6 := hG.2.1
  have hm1 : 1 ≤ m := by
    cases m with
    | zero => exact absurd hG.1 h0
    | succ m => omega
  have hC2 := hC.gd hG
  have hcal : f_X3_calendarAt 46 (nI (m - 1)) uC = some (some (cc 2 (m - 1)), uC) := p_calAt_in (r := 2) (m := m) (by decide) hC2.1 hm6 (by omega)
  have em1 : nI m - 1 = nI (m - 1) := by
    obtain ⟨m', rfl⟩ : ∃ k, m = k + 1 := ⟨m - 1, by omega⟩
    exact nI_pred m'
  have hW := p_isW hw hn hC.2.1 hC.2.2.1 he
  have hwd := p_word hn hB he hM.2.1 hM.2.2.1 hM.2.2.2.1
  unfold f_X4_tellField f_X6_partItem
  rw [hC2.1, em1, hcal, bd_eq, ro_some, hW, bd_eq, hwd, bd_eq]
  by_cases hq : isW B n w e = true
  · have he1 := tE_le (B := B) he
    obtain ⟨uC1, c1, hC1⟩ := hC.rt hn hB he
    obtain ⟨uM1, m1, hM1, -⟩ := hM.tk hn hB he
    have hni := num_iff (lo := tbv 0 k) (hi := tbv 1 k) he1 hC1.2.2.1 (tb_le k hk)
    have h74 := (p_isNum (lo := tbv 0 k) (hi := tbv 1 k) he1 hC1.2.2.1 (tb_le k hk)).2
    have eall := p_allows_in hk (uC1.1 7 4) uC1
    rw [if_pos hq, if_pos ((wv_iff hw he hc).mpr hq), c1, bd_eq, m1, bd_eq, eall, bd_eq]
    by_cases hok : nOk B n (tE B n e) (tbv 0 k) (tbv 1 k) = true
    · obtain ⟨uM2, m2, hM2, h254⟩ := hM1.num hn hB he1 hok
      have hh := hni.mp hok
      have hcal2 := cal_at (r := 2) (c := m - 1) (by decide) (by omega)
      have hch := p_change hcal2 hk hh.2 uC1
      rw [h74 hok, hC1.2.2.2, upd_cp (show 7 + 5 * (m - 1) + k < 61 by omega)] at hch
      have hC2' := hC1.w2 (X' := upd X (7 + 5 * (m - 1) + k) (nI (tv B n (tE B n e))))
      obtain ⟨uC3, c3', hC3⟩ := hC2'.rt hn hB he1
      have hb2 := hh.2
      rw [h74 hok] at hb2
      refine Or.inl ⟨tE B n (tE B n e), upd X (7 + 5 * (m - 1) + k) (nI (tv B n (tE B n e))), uC3, sR uM2 20 (upd X (7 + 5 * (m - 1) + k) (nI (tv B n (tE B n e)))), ?_, ?_, Nat.le_trans tE_ge tE_ge, tE_le he1, hC3, hM2.w20, ⟨Good.cal hG g2 gd g4 gt (by omega) hk hb2, fun j hj => by rw [upd_ne (by omega)]; exact hX61 j hj⟩, upd_ne (by omega)⟩
      · rw [if_pos hh.1, if_pos (decide_eq_true hh.2), ck_pos hcal2.1, h74 hok, hch, bd_eq, c3', bd_eq]
      · rw [m2, bd_eq, tn0, nm_eq, hM2.2.2.2.2.2, hG.1, nm_eq, em1, ix5, if_pos hM2.2.2.2.1, ck_pos (inb_nI (show 7 + 5 * (m - 1) + k < 61 by omega) (by decide)), nm_eq, nI_clamp (show 7 + 5 * (m - 1) + k < 2 ^ 31 by omega), h254, w1_sR, hM2.2.2.2.2.2]
    · obtain ⟨uM2, m2, hM2, e20⟩ := hM1.numB hn hB he1 hX hok
      refine Or.inr ⟨tE B n e, uC1, uM2, ?_, ?_, he1, hC1.bad, hM2⟩
      · by_cases h1 : uC1.1 7 1 = 2
        · rw [if_pos h1, if_neg (by rw [decide_eq_false (fun z => hok (hni.mpr ⟨h1, z⟩))]; decide)]
        · rw [if_neg h1]
      · rw [m2, bd_eq, tn0, nm_eq, e20, hG.1, nm_eq, em1, ix5, if_neg (show ¬ uM2.1 25 5 = 0 by rw [hM2.2.2.2.1]; decide), ck_pos (inb_nI (show 7 + 5 * (m - 1) + k < 61 by omega) (by decide)), nm_eq, nI_clamp (show 7 + 5 * (m - 1) + k < 2 ^ 31 by omega), nm_eq, ← e20, w1_self]
  · rw [if_neg hq, if_neg (fun z => hq ((wv_iff hw he hc).mp z))]
    exact Or.inl ⟨e, X, uC, uM, rfl, rfl, Nat.le_refl _, he, hC, hM, hX, rfl⟩
/-! truth and power -/
def fNum (k : Nat) (lo hi : Int32) (u : Uw) : Option (Bool × Uw) :=
  bd (f_X4_readToken u) fun _ u2 =>
  bd (f_X4_isNumber lo hi u2) fun r3 u4 =>
  if r3 = true then
  (nm (w1 u4 2 k (u4.1 7 4)) fun u5 =>
  bd (f_X4_readToken u5) fun _ u7 =>
  some (true, u7))
  else
  (some (false, u4))
def gNum (k : Nat) (lo hi : Int32) (u : Uw) : Option (Unit × Uw) :=
  bd (f_X6_must (1 : Int32) u) fun _ u20 =>
  bd (f_X6_number lo hi u20) fun _ u22 =>
  if (u22.1 25 5) = 0 then
  (nm (w1 u22 20 k (u22.1 25 4)) fun u23 =>
  some ((), u23))
  else
  (nm (u22.1 20 k) fun x24 =>
  nm (w1 u22 20 k x24) fun u25 =>
  some ((), u25))
theorem sim_num {k : Nat} {lo hi : Int32} (hk : k < 61) (hhi : hi.toInt ≤ 9999) (hn : n ≤ 120) (hB : ∀ k, B k < 256) (he : e ≤ n) (hC : OkC B n y vC e X uC) (hM : OkM B n k0 vM e X uM) (hX : XOk s0 X) (hgood : ∀ v, lo ≤ nI v → nI v ≤ hi → XOk s0 (upd X k (nI v))) : Sim B n y s0 k0 vC vM (fun _ => True) (fNum k lo hi uC) (gNum k lo hi uM) (tE B n e) := by
  have he1 := tE_le (B := B) he
  obtain ⟨uC1, c1, hC1⟩ := hC.rt hn hB he
  obtain ⟨uM1, m1, hM1, -⟩ := hM.tk hn hB he
  obtain ⟨hi1, h74⟩ := p_isNum (lo := lo) (hi := hi) he1 hC1.2.2.1 hhi
  unfold fNum gNum
  rw [c1, bd_eq, hi1, bd_eq, m1, bd_eq]
  by_cases hok : nOk B n (tE B n e) lo hi = true
  · obtain ⟨uM2, m2, hM2, h254⟩ := hM1.num hn hB he1 hok
    have hC2' := hC1.w2 (X' := upd X k (nI (tv B n (tE B n e))))
    obtain ⟨uC3, c3', hC3⟩ := hC2'.rt hn hB he1
    have hz := of_decide_eq_true hok
    refine Or.inl ⟨tE B n (tE B n e), upd X k (nI (tv B n (tE B n e))), uC3, sR uM2 20 (upd X k (nI (tv B n (tE B n e)))), ?_, ?_, tE_ge, tE_le he1, hC3, hM2.w20, hgood _ hz.2.1 hz.2.2, trivial⟩
    · rw [if_pos hok, nm_eq, h74 hok, w1_sR, hC1.2.2.2, upd_cp hk, c3', bd_eq]
    · rw [m2, bd_eq, if_pos hM2.2.2.2.1, nm_eq, h254, w1_sR, hM2.2.2.2.2.2]
  · obtain ⟨uM2, m2, hM2, e20⟩ := hM1.numB hn hB he1 hX hok
    refine Or.inr ⟨tE B n e, uC1, uM2, ?_, ?_, he1, hC1.bad, hM2⟩
    · rw [if_neg hok]
    · rw [m2, bd_eq, if_neg (show ¬ uM2.1 25 5 = 0 by rw [hM2.2.2.2.1]; decide), nm_eq, nm_eq, w1_self]
/-! pilgrims -/
theorem sim_pil (hn : n ≤ 120) (hB : ∀ k, B k < 256) (he : e ≤ n) (hC : OkC B n y vC e X uC) (hM : OkM B n k0 vM e X uM) (hX : XOk s0 X) : Sim B n y s0 k0 vC vM (fun _ => True) (f_X4_tellPilgrim uC) (f_X6_pilgrimItem uM) (tE B n e) := by
  obtain ⟨⟨m, p, wp, d, t, hG, g2, gd, g4, gt⟩, hX61⟩ := id hX
  have hm6 := hG.2.1
  have hp8 := hG.2.2.2.1
  have he1 := tE_le (B := B) he
  have hC2 := hC.gd hG
  have t7 := kc_tab.2.2.2.2.2.2.2
  have h0 := kc_pos 7 (by decide)
  have h1 := kc_le 7 (by decide)
  have no7 : ¬ lg_cmp 0 690671251 = 0 := by decide
  unfold f_X4_tellPilgrim f_X6_pilgrimItem
  rw [tn0, tn1, nm_eq, hM.2.2.2.2.2, hC2.2.2.1, hG.2.2.1]
  by_cases hp : p < 8
  · obtain ⟨uC1, c1, hC1⟩ := hC.rt hn hB he
    obtain ⟨uM1, m1, hM1, -⟩ := hM.tk hn hB he
    obtain ⟨hi1, h74⟩ := p_isNum (lo := 0) (hi := 99) he1 hC1.2.2.1 (by decide)
    rw [if_pos (show nI p < (8 : Int32) from nI_lt (b := 8) hp (by decide)), if_neg (show ¬ (8 : Int32) ≤ nI p from nI_ge (b := 8) hp (by decide)), c1, bd_eq, hi1, bd_eq, m1, bd_eq]
    by_cases hok : nOk B n (tE B n e) 0 99 = true
    · obtain ⟨uM2, m2, hM2, h254⟩ := hM1.num hn hB he1 hok
      have he2 := tE_le (B := B) he1
      obtain ⟨uC2, c2', hC2'⟩ := hC1.rt hn hB he1
      have hz := of_decide_eq_true hok
      obtain ⟨i, -, hi99, ei⟩ := nI_rng 0 99 (by decide) hz.2.1 hz.2.2 (by decide)
      have hW := p_isW (w := 7) (by decide) hn hC2'.2.1 hC2'.2.2.1 he2
      have hwd := p_word hn hB he2 hM2.2.1 hM2.2.2.1 hM2.2.2.2.1
      rw [if_pos hok, nm_eq, h74 hok, c2', bd_eq, show f_X4_isWord 117 uC2 = _ from hW, bd_eq, m2, bd_eq, nm_eq, h254, hwd, bd_eq]
      by_cases hq : isW B n 7 (tE B n (tE B n e)) = true
      · obtain ⟨uC3, c3', hC3⟩ := hC2'.rt hn hB he2
        obtain ⟨uM3, m3', hM3, h254'⟩ := hM2.tk hn hB he2
        have he3 := tE_le (B := B) he2
        have hC32 := hC3.gd hG
        have hlt : (nI m - 1).toInt ≤ 9999 := by rw [nI_m1 (by omega)]; omega
        obtain ⟨hi3, h74'⟩ := p_isNum (lo := 0) (hi := nI m - 1) he3 hC3.2.2.1 hlt
        rw [if_pos hq, if_pos ((wv_iff (w := 7) (by decide) he2 t7).mpr hq), c3', bd_eq, hC32.1, hi3, bd_eq, m3', bd_eq, nm_eq, hM3.2.2.2.2.2, hG.1]
        by_cases hok3 : nOk B n (tE B n (tE B n (tE B n e))) 0 (nI m - 1) = true
        · obtain ⟨uM4, m4', hM4, h2544⟩ := hM3.num hn hB he3 hok3
          obtain ⟨uC4, c4', hC4⟩ := hC3.rt hn hB he3
          have hz3 := of_decide_eq_true hok3
          have htr : ∃ c, c < m ∧ nI (tv B n (tE B n (tE B n (tE B n e)))) = nI c := by
            obtain ⟨c, hc, ec⟩ := up_to (n := m) (by omega) ⟨hz3.2.1, hz3.2.2⟩
            exact ⟨c, hc, ec⟩
          have hC42 := hC4.gd hG
          have hadd : f_X3_addPilgrim 46 (nI (tv B n (tE B n e))) (nI (tv B n (tE B n (tE B n (tE B n e))))) uC4 = some ((), sR uC4 2 (addP (uC4.1 2) p (nI (tv B n (tE B n e))) (nI (tv B n (tE B n (tE B n (tE B n e))))))) := p_addPil (r := 2) (by decide) hC42.2.2.1 hp _ _
          rw [hC4.2.2.2, addP_cp hp] at hadd
          have hcom := p_comes (u := uM4) (p := p) (by rw [hM4.2.2.2.2.2]; exact hG.2.2.1) hp (nI (tv B n (tE B n e))) (nI (tv B n (tE B n (tE B n (tE B n e)))))
          rw [hM4.2.2.2.2.2] at hcom
          refine Or.inl ⟨tE B n (tE B n (tE B n (tE B n e))), addP X p (nI (tv B n (tE B n e))) (nI (tv B n (tE B n (tE B n (tE B n e))))), _, _, ?_, ?_, Nat.le_trans tE_ge (Nat.le_trans tE_ge tE_ge), tE_le he3, hC4.w2, hM4.w20, ⟨⟨m, p + 1, wp, d, t, hG.newp hp ⟨⟨i, hi99, ei⟩, Or.inr htr, ⟨0, by omega, rfl⟩⟩, ?_, gd, ?_, gt⟩, fun j hj => ?_⟩, trivial⟩
          · rw [if_pos hok3, h74' hok3, c4', bd_eq, hadd, bd_eq]
          · rw [nm_eq, m4', bd_eq, nm_eq, if_pos hM4.2.2.2.1, h2544, hcom, bd_eq]
          · unfold addP; rw [upd_ne (by decide), setT_ne (by omega)]; exact g2
          · unfold addP; rw [upd_ne (by decide), setT_ne (by omega)]; exact g4
          · unfold addP; rw [upd_ne (by omega), setT_ne (by omega)]; exact hX61 j hj
        · obtain ⟨uM4, m4', hM4, e20⟩ := hM3.numB hn hB he3 hX hok3
          refine Or.inr ⟨_, uC3, uM4, ?_, ?_, he3, hC3.bad, hM4⟩
          · rw [if_neg hok3]
          · rw [nm_eq, m4', bd_eq, nm_eq, if_neg (show ¬ uM4.1 25 5 = 0 by rw [hM4.2.2.2.1]; decide)]
      · rw [if_neg hq, if_neg (fun z => hq ((wv_iff (w := 7) (by decide) he2 t7).mp z)), if_pos hM2.2.2.2.1]
        have hC22 := hC2'.gd hG
        have hadd : f_X3_addPilgrim 46 (nI (tv B n (tE B n e))) (-1) uC2 = some ((), sR uC2 2 (addP (uC2.1 2) p (nI (tv B n (tE B n e))) (-1))) := p_addPil (r := 2) (by decide) hC22.2.2.1 hp _ _
        rw [hC2'.2.2.2, addP_cp hp] at hadd
        have hcom := p_comes (u := uM2) (p := p) (by rw [hM2.2.2.2.2.2]; exact hG.2.2.1) hp (nI (tv B n (tE B n e))) (-1)
        rw [hM2.2.2.2.2.2] at hcom
        refine Or.inl ⟨tE B n (tE B n e), addP X p (nI (tv B n (tE B n e))) (-1), _, _, ?_, ?_, tE_ge, he2, hC2'.w2, hM2.w20, ⟨⟨m, p + 1, wp, d, t, hG.newp hp ⟨⟨i, hi99, ei⟩, Or.inl rfl, ⟨0, by omega, rfl⟩⟩, ?_, gd, ?_, gt⟩, fun j hj => ?_⟩, trivial⟩
        · rw [hadd, bd_eq]
        · rw [hcom, bd_eq]
        · unfold addP; rw [upd_ne (by decide), setT_ne (by omega)]; exact g2
        · unfold addP; rw [upd_ne (by decide), setT_ne (by omega)]; exact g4
        · unfold addP; rw [upd_ne (by omega), setT_ne (by omega)]; exact hX61 j hj
    · obtain ⟨uM2, m2, hM2, e20⟩ := hM1.numB hn hB he1 hX hok
      refine Or.inr ⟨tE B n e, uC1, uM2, ?_, ?_, he1, hC1.bad, hM2⟩
      · rw [if_neg hok]
      · rw [m2, bd_eq, nm_eq, hM2.word hn hB he1, bd_eq, if_neg no7, if_neg (show ¬ uM2.1 25 5 = 0 by rw [hM2.2.2.2.1]; decide)]
  · rw [if_neg (show ¬ nI p < (8 : Int32) from nI_nlt (b := 8) (by omega) (by omega)), if_pos (show (8 : Int32) ≤ nI p from nI_le (a := 8) (by omega) (by omega))]
    obtain ⟨uM1, m1, hM1, e20⟩ := hM.m0 hX
    refine Or.inr ⟨e, uC, uM1, rfl, ?_, he, hC.bad, hM1⟩
    rw [m1, bd_eq, p_numberW hM1.2.2.2.1, bd_eq, nm_eq, hM1.word hn hB he, bd_eq, if_neg no7, if_neg (show ¬ uM1.1 25 5 = 0 by rw [hM1.2.2.2.1]; decide)]
end Parts
