/-! PURE 7: pilgrim, about, mind, drink, bathe; all together; who is well; now, count, status; days -/
section Calls5
variable {u : Uw} {m : Nat}
theorem q_canTrust (hm : u.1 0 0 = nI m) (hm6 : m ≤ 6) (x : Int32) : f_X3_canTrust 0 x u = some (decide (x = -1 ∨ (0 ≤ x ∧ x < nI m)), u) := p_canTrust (r := 0) (by decide) hm hm6 x
theorem q_addPil {p : Nat} (hp : u.1 0 1 = nI p) (hp8 : p < 8) (ill tr : Int32) : f_X3_addPilgrim 0 ill tr u = some ((), sR u 0 (addP (u.1 0) p ill tr)) := p_addPil (r := 0) (by decide) hp hp8 ill tr
theorem q_isHolyBy (hm : u.1 0 0 = nI m) (hm6 : m ≤ 6) (x d : Int32) : f_X3_isHolyBy 0 x d u = some (hb (u.1 0) x d, u) := p_isHolyBy (r := 0) (by decide) hm hm6 x d
theorem q_passDay {p w : Nat} (h : GdW (u.1 0) m p w) : f_X3_passDay 0 u = some ((), sR u 0 (dayS (u.1 0))) := p_X3_passDay (r := 0) (by decide) h
theorem q_holySet (hm : u.1 0 0 = nI m) (hm6 : m ≤ 6) (d : Int32) : f_X3_holySet 0 d u = some (hset (u.1 0) d, u) := p_holySet (r := 0) (by decide) hm hm6 d
end Calls5
theorem GdW.setT {s : Nat → Int32} {m p w q : Nat} (h : GdW s m p w) {t : Tr} (ht : Ps m t) : GdW (setT s (37 + 3 * q) t) m p w := h.lo (fun k hk => setT_ne (by omega)) (PsAll.set h.2.2.2.2.2.2.2.2.2 ht)
theorem set_ill {s : Nat → Int32} {o : Nat} {v : Int32} : upd s o v = setT s o (v, s (o + 1), s (o + 2)) := by
  unfold setT
  funext k
  simp only [upd]
  split
  · rw [if_neg (by omega), if_neg (by omega)]
  · split
    · rename_i h; rw [h]
    · split
      · rename_i h; rw [h]
      · rfl
theorem set_trust {s : Nat → Int32} {o : Nat} {v : Int32} : upd s (o + 1) v = setT s o (s o, v, s (o + 2)) := by
  unfold setT
  funext k
  simp only [upd]
  split
  · rw [if_neg (by omega)]
  · split
    · rename_i h; rw [h]
    · split
      · rename_i h; rw [h]
      · rfl
section Calls6
theorem st_pilgrim (a1 a2 : Int32) : StepT Rel (fun u => f_X5_pilgrim a1 a2 u) (fun u => f_X6_pilgrim a1 a2 u) := by
  intro u hu
  obtain ⟨e0, ⟨m, p, w, d, t, hG, h2, hd, h4, ht⟩, -⟩ := id hu
  obtain ⟨hm, hm6, hp, hp8, -⟩ := id hG
  have hm0 : u.1 0 0 = nI m := by rw [e0]; exact hm
  have hp0 : u.1 0 1 = nI p := by rw [e0]; exact hp
  by_cases hv : 0 ≤ a1 ∧ a1 ≤ 99
  · by_cases hw : a2 = -1 ∨ (0 ≤ a2 ∧ a2 < nI m)
    · by_cases h8 : p < 8
      · obtain ⟨i, -, hi, rfl⟩ := nI_rng 0 99 (by decide) hv.1 hv.2 (by decide)
        have hPs : Ps m (nI i, a2, 0) := ⟨⟨i, hi, rfl⟩, trust_in hm6 hw, ⟨0, by decide, rfl⟩⟩
        have hg : Good (addP (u.1 20) p (nI i) a2) := ⟨m, p + 1, w, d, t, hG.newp h8 hPs, by unfold addP; rw [upd_ne (by omega), setT_ne (by omega)]; exact h2, hd, by unfold addP; rw [upd_ne (by omega), setT_ne (by omega)]; exact h4, ht⟩
        refine fin_s hu hg (x := nI p) ?_ (fun u' e => ?_)
        · simp only [f_X5_pilgrim, p_within, bd_eq, decide_eq_true hv, if_true, q_canTrust hm0 hm6, decide_eq_true hw, hp0, if_pos (show nI p < (8 : Int32) from nI_lt (b := 8) h8 (by decide)), q_addPil hp0 h8, sR_same, e0]
          rw [show addP (u.1 20) p (nI i) a2 1 = nI (p + 1) from upd_at, nI_pred]
        · simp only [f_X6_pilgrim, L0, L99, p_in, bd_eq, decide_eq_true hv, if_true, p_isTrust (u := u') (by rw [e]; exact hm) hm6, decide_eq_true hw, tn1, nm_eq, e, hp, if_neg (show ¬ nI p = (8 : Int32) from fun z => by have := (nI_eq (a := p) (b := 8) (by omega) (by decide)).mp z; omega), p_comes (u := u') (by rw [e]; exact hp) h8]
      · have hp88 : p = 8 := by omega
        subst hp88
        refine fin_fd hu (k := 1) (by decide) (x := -1000000002) ?_ (fun u' e => ?_)
        · simp only [f_X5_pilgrim, p_within, bd_eq, decide_eq_true hv, if_true, q_canTrust hm0 hm6, decide_eq_true hw, hp0, if_neg (show ¬ nI 8 < (8 : Int32) by decide), c1]
        · simp only [f_X6_pilgrim, L0, L99, p_in, bd_eq, decide_eq_true hv, if_true, p_isTrust (u := u') (by rw [e]; exact hm) hm6, decide_eq_true hw, tn1, nm_eq, e, hp, if_pos (show nI 8 = (8 : Int32) from rfl), m1]
    · refine fin_fd hu (k := 0) (by decide) (x := -1000000001) ?_ (fun u' e => ?_)
      · simp only [f_X5_pilgrim, p_within, bd_eq, decide_eq_true hv, if_true, q_canTrust hm0 hm6, decide_eq_false hw, c0, Bool.false_eq_true, if_false]
      · simp only [f_X6_pilgrim, L0, L99, p_in, bd_eq, decide_eq_true hv, if_true, p_isTrust (u := u') (by rw [e]; exact hm) hm6, decide_eq_false hw, m0, Bool.false_eq_true, if_false]
  · refine fin_fd hu (k := 0) (by decide) (x := -1000000001) ?_ (fun u' e => ?_)
    · simp only [f_X5_pilgrim, p_within, bd_eq, decide_eq_false hv, c0, Bool.false_eq_true, if_false]
    · simp only [f_X6_pilgrim, L0, L99, p_in, bd_eq, decide_eq_false hv, m0, Bool.false_eq_true, if_false]
theorem st_about (a1 a2 : Int32) : StepT Rel (fun u => f_X5_about a1 a2 u) (fun u => f_X6_about a1 a2 u) := by
  intro u hu
  obtain ⟨e0, ⟨m, p, w, d, t, hG, h2, hd, h4, ht⟩, -⟩ := id hu
  obtain ⟨hm, hm6, hp, hp8, -⟩ := id hG
  have hp0 : u.1 0 1 = nI p := by rw [e0]; exact hp
  have out : (a1 < 0 ∨ nI p ≤ a1) → ∃ r u1 u2, f_X5_about a1 a2 u = some (r, u1) ∧ f_X6_about a1 a2 u1 = some (r, u2) ∧ Rel u2 := fun h => by
    refine fin_fd (f := fun u => f_X5_about a1 a2 u) (g := fun u => f_X6_about a1 a2 u) hu (k := 0) (by decide) (x := -1000000001) ?_ (fun u' e => ?_)
    · simp only [f_X5_about, q_pilAt_out hp0 h, bd_eq, ro_none, c0]
    · simp only [f_X6_about, p_isPil_out (u := u') (by rw [e]; exact hp) hp8 h, bd_eq, m0, Bool.false_eq_true, if_false]
  rcases pk_ix a1 (n := p) (by omega) with h | h | ⟨q, hq, rfl⟩
  · exact out (Or.inl h)
  · exact out (Or.inr h)
  · have hq8 : q < 8 := by omega
    obtain ⟨g1, g2, g3⟩ := q_pil hq8
    by_cases hv : 0 ≤ a2 ∧ a2 ≤ 2
    · obtain ⟨k, -, hk, rfl⟩ := nI_rng 0 2 (by decide) hv.1 hv.2 (by decide)
      refine fin_p hu (x := u.1 20 (37 + 3 * q + k)) ?_ ?_
      · simp only [f_X5_about, q_pilAt_in hp0 hp8 hq, bd_eq, ro_some, p_within, decide_eq_true hv, if_true, ck_pos g1, g2, g3, e0]
        rcases (show k = 0 ∨ k = 1 ∨ k = 2 by omega) with rfl | rfl | rfl
        · rw [if_pos (show nI 0 = 0 from rfl)]
        · rw [if_neg (show ¬ nI 1 = 0 by decide), if_pos (show nI 1 = 1 from rfl)]
        · rw [if_neg (show ¬ nI 2 = 0 by decide), if_neg (show ¬ nI 2 = 1 by decide)]
      · simp only [f_X6_about, p_isPil_in hp hp8 hq, bd_eq, L0, L2, p_in, decide_eq_true hv, if_true, p_isOf hq8 (show k < 3 by omega) rfl]
    · refine fin_fd hu (k := 0) (by decide) (x := -1000000001) ?_ (fun u' e => ?_)
      · simp only [f_X5_about, q_pilAt_in hp0 hp8 hq, bd_eq, ro_some, p_within, decide_eq_false hv, c0, Bool.false_eq_true, if_false]
      · simp only [f_X6_about, p_isPil_in (u := u') (by rw [e]; exact hp) hp8 hq, bd_eq, L0, L2, p_in, decide_eq_false hv, m0, Bool.false_eq_true, if_false, if_true]
theorem st_mind (a1 a2 a3 : Int32) : StepT Rel (fun u => f_X5_mind a1 a2 a3 u) (fun u => f_X6_mind a1 a2 a3 u) := by
  intro u hu
  obtain ⟨e0, ⟨m, p, w, d, t, hG, h2, hd, h4, ht⟩, -⟩ := id hu
  obtain ⟨hm, hm6, hp, hp8, -, -, -, -, -, hps⟩ := id hG
  have hm0 : u.1 0 0 = nI m := by rw [e0]; exact hm
  have hp0 : u.1 0 1 = nI p := by rw [e0]; exact hp
  have out : (a1 < 0 ∨ nI p ≤ a1) → ∃ r u1 u2, f_X5_mind a1 a2 a3 u = some (r, u1) ∧ f_X6_mind a1 a2 a3 u1 = some (r, u2) ∧ Rel u2 := fun h => by
    refine fin_fd (f := fun u => f_X5_mind a1 a2 a3 u) (g := fun u => f_X6_mind a1 a2 a3 u) hu (k := 0) (by decide) (x := -1000000001) ?_ (fun u' e => ?_)
    · simp only [f_X5_mind, q_pilAt_out hp0 h, bd_eq, ro_none, c0]
    · simp only [f_X6_mind, p_isPil_out (u := u') (by rw [e]; exact hp) hp8 h, bd_eq, m0, Bool.false_eq_true, if_false, L0, L99, p_in, p_isTrust (u := u') (by rw [e]; exact hm) hm6]
      split
      · rfl
      · split
        · split <;> rfl
        · rfl
  rcases pk_ix a1 (n := p) (by omega) with h | h | ⟨q, hq, rfl⟩
  · exact out (Or.inl h)
  · exact out (Or.inr h)
  · have hq8 : q < 8 := by omega
    obtain ⟨g1, g2, g3⟩ := q_pil hq8
    have hPs := hps q hq
    by_cases h0 : a2 = 0
    · subst h0
      by_cases hv : 0 ≤ a3 ∧ a3 ≤ 99
      · obtain ⟨i, -, hi, rfl⟩ := nI_rng 0 99 (by decide) hv.1 hv.2 (by decide)
        refine fin_s hu (s := upd (u.1 20) (37 + 3 * q) (nI i)) ⟨m, p, w, d, t, by rw [set_ill]; exact hG.setT ⟨⟨i, hi, rfl⟩, hPs.2⟩, by rw [upd_ne (by omega)]; exact h2, hd, by rw [upd_ne (by omega)]; exact h4, ht⟩ (x := u.1 20 (37 + 3 * q)) ?_ (fun u' e => ?_)
        · simp only [f_X5_mind, q_pilAt_in hp0 hp8 hq, bd_eq, ro_some, if_true, p_within, decide_eq_true hv, ck_pos g1, g2, g3, nm_eq, w1_sR, e0, Nat.add_zero]
        · simp only [f_X6_mind, if_true, L0, L99, p_in, bd_eq, p_isPil_in (u := u') (by rw [e]; exact hp) hp8 hq, decide_eq_true hv, show bI true = 1 from rfl, if_neg (show ¬ (1 : Int32) = 0 by decide), p_spot hq8 (show 0 < 3 by decide) (x := (0 : Int32)) rfl, Nat.add_zero, p_becomes (show 37 + 3 * q < 61 by omega), e]
      · refine fin_fd hu (k := 0) (by decide) (x := -1000000001) ?_ (fun u' e => ?_)
        · simp only [f_X5_mind, q_pilAt_in hp0 hp8 hq, bd_eq, ro_some, if_true, p_within, decide_eq_false hv, if_neg (show ¬ (0 : Int32) = 1 by decide), c0, Bool.false_eq_true, if_false]
        · simp only [f_X6_mind, if_true, L0, L99, p_in, bd_eq, p_isPil_in (u := u') (by rw [e]; exact hp) hp8 hq, decide_eq_false hv, show bI false = 0 from rfl, m0]
    · by_cases h1 : a2 = 1
      · subst h1
        by_cases hv : a3 = -1 ∨ (0 ≤ a3 ∧ a3 < nI m)
        · refine fin_s hu (s := upd (u.1 20) (37 + 3 * q + 1) a3) ⟨m, p, w, d, t, by rw [set_trust]; exact hG.setT ⟨hPs.1, trust_in hm6 hv, hPs.2.2⟩, by rw [upd_ne (by omega)]; exact h2, hd, by rw [upd_ne (by omega)]; exact h4, ht⟩ (x := u.1 20 (37 + 3 * q + 1)) ?_ (fun u' e => ?_)
          · simp only [f_X5_mind, q_pilAt_in hp0 hp8 hq, bd_eq, ro_some, if_neg h0, if_true, q_canTrust hm0 hm6, decide_eq_true hv, ck_pos g1, g2, g3, nm_eq, w1_sR, e0]
          · simp only [f_X6_mind, if_neg h0, if_true, p_isTrust (u := u') (by rw [e]; exact hm) hm6, bd_eq, decide_eq_true hv, p_isPil_in (u := u') (by rw [e]; exact hp) hp8 hq, p_spot hq8 (show 1 < 3 by decide) (x := (1 : Int32)) rfl, p_becomes (show 37 + 3 * q + 1 < 61 by omega), e]
        · refine fin_fd hu (k := 0) (by decide) (x := -1000000001) ?_ (fun u' e => ?_)
          · simp only [f_X5_mind, q_pilAt_in hp0 hp8 hq, bd_eq, ro_some, if_neg h0, if_true, q_canTrust hm0 hm6, decide_eq_false hv, c0, Bool.false_eq_true, if_false]
          · simp only [f_X6_mind, if_neg h0, if_true, p_isTrust (u := u') (by rw [e]; exact hm) hm6, bd_eq, decide_eq_false hv, p_isPil_in (u := u') (by rw [e]; exact hp) hp8 hq, m0, Bool.false_eq_true, if_false]
      · refine fin_fd hu (k := 0) (by decide) (x := -1000000001) ?_ (fun u' e => ?_)
        · simp only [f_X5_mind, q_pilAt_in hp0 hp8 hq, bd_eq, ro_some, if_neg h0, if_neg h1, c0]
        · simp only [f_X6_mind, if_neg h0, if_neg h1, p_isPil_in (u := u') (by rw [e]; exact hp) hp8 hq, bd_eq, if_true, m0]
theorem st_bathe (a1 : Int32) : StepT Rel (fun u => f_X5_bathe a1 u) (fun u => f_X6_bathe a1 u) := by
  intro u hu
  obtain ⟨e0, ⟨m, p, w, d, t, hG, h2, hd, h4, ht⟩, -⟩ := id hu
  obtain ⟨hm, hm6, hp, hp8, ew, hw, -, -, -, hps⟩ := id hG
  have hm0 : u.1 0 0 = nI m := by rw [e0]; exact hm
  have hp0 : u.1 0 1 = nI p := by rw [e0]; exact hp
  have out : (a1 < 0 ∨ nI p ≤ a1) → ∃ r u1 u2, f_X5_bathe a1 u = some (r, u1) ∧ f_X6_bathe a1 u1 = some (r, u2) ∧ Rel u2 := fun h => by
    refine fin_fd (f := fun u => f_X5_bathe a1 u) (g := fun u => f_X6_bathe a1 u) hu (k := 0) (by decide) (x := -1000000001) ?_ (fun u' e => ?_)
    · simp only [f_X5_bathe, q_pilAt_out hp0 h, bd_eq, ro_none, c0]
    · simp only [f_X6_bathe, p_isPil_out (u := u') (by rw [e]; exact hp) hp8 h, bd_eq, m0, Bool.false_eq_true, if_false]
  rcases pk_ix a1 (n := p) (by omega) with h | h | ⟨q, hq, rfl⟩
  · exact out (Or.inl h)
  · exact out (Or.inr h)
  · have hq8 : q < 8 := by omega
    have hpil := q_pil hq8
    obtain ⟨g1, g2, g3⟩ := id hpil
    refine fin_s hu (s := setT (u.1 20) (37 + 3 * q) (bathT (getT (u.1 20) (37 + 3 * q)) (hb (u.1 20) (u.1 20 4) (u.1 20 2)) (u.1 20 3))) ⟨m, p, w, d, t, hG.setT (by rw [ew]; exact bath_Ps (hps q hq) hw.2 _), by rw [setT_ne (by omega)]; exact h2, hd, by rw [setT_ne (by omega)]; exact h4, ht⟩ (x := (bathT (getT (u.1 20) (37 + 3 * q)) (hb (u.1 20) (u.1 20 4) (u.1 20 2)) (u.1 20 3)).1) ?_ (fun u' e => ?_)
    · simp only [f_X5_bathe, q_pilAt_in hp0 hp8 hq, bd_eq, ro_some, q_isHolyBy hm0 hm6, ck_pos g1, p_takeBath hpil, g2, g3, sR_same, e0]
      rw [show setT (u.1 20) (37 + 3 * q) (bathT (getT (u.1 20) (37 + 3 * q)) (hb (u.1 20) (u.1 20 4) (u.1 20 2)) (u.1 20 3)) (37 + 3 * q + 0) = (getT (setT (u.1 20) (37 + 3 * q) (bathT (getT (u.1 20) (37 + 3 * q)) (hb (u.1 20) (u.1 20 4) (u.1 20 2)) (u.1 20 3))) (37 + 3 * q)).1 from rfl, getT_set]
    · simp only [f_X6_bathe, p_isPil_in (u := u') (by rw [e]; exact hp) hp8 hq, bd_eq, if_true, p_bathes (u := u') hq8 (by rw [e]; exact hG) hq, p_isOf hq8 (show 0 < 3 by decide) (x := (0 : Int32)) rfl, sR_same, e]
      rw [show setT (u.1 20) (37 + 3 * q) (bathT (getT (u.1 20) (37 + 3 * q)) (hb (u.1 20) (u.1 20 4) (u.1 20 2)) (u.1 20 3)) (37 + 3 * q + 0) = (getT (setT (u.1 20) (37 + 3 * q) (bathT (getT (u.1 20) (37 + 3 * q)) (hb (u.1 20) (u.1 20 4) (u.1 20 2)) (u.1 20 3))) (37 + 3 * q)).1 from rfl, getT_set]
end Calls6
