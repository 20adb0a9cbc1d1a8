/-! PURE 22: trust, the model's way -/
theorem kK_ok {m c : Nat} : kK m c = -1 ∨ ∃ k, k < m ∧ kK m c = nI k := by
  unfold kK
  by_cases h : c < m
  · rw [if_pos h]; exact Or.inr ⟨c, h, rfl⟩
  · rw [if_neg h]; exact Or.inl rfl
theorem l_tsM {m p w q d : Nat} (hq : q < p) {v : Uw} {s : Nat → Int32} (hv : v.1 20 = s) (hG : GdW s m p w) (h2 : s 2 = nI d) : ∀ (j c f : Nat) (z : Nat → Int32) (y best : Int32) (days : Nat), (days = 401 ↔ best = -2) → days ≤ 401 → c + j = m + 1 → j < f → ∃ z', lp b_X6_trust_33 f (nI q, s (37 + 3 * q + 1), best, nI days, nI c, sR (sR v 23 z) 20 (upd s (37 + 3 * q + 1) y)) = (if tsF (kK m) (DW s d q) c j best days = -2 then some (-1000000004, fdM (sR v 23 z') 3) else some (tsF (kK m) (DW s d q) c j best days, sR v 23 z')) := by
  have hm6 := hG.2.1
  have hq8 : q < 8 := by have := hG.2.2.2.1; omega
  have m0' : ∀ (z : Nat → Int32) (y : Int32), (sR (sR v 23 z) 20 (upd s (37 + 3 * q + 1) y)).1 20 0 = nI m := fun z y => by rw [sR_same, upd_ne (by omega)]; exact hG.1
  intro j
  induction j with
  | zero =>
    intro c f z y best days i2 i3 h1 h3
    obtain ⟨f, rfl⟩ : ∃ k, f = k + 1 := ⟨f - 1, by omega⟩
    refine ⟨z, ?_⟩
    have er : sR (sR v 23 z) 20 s = sR v 23 z := (congrArg (sR (sR v 23 z) 20) (show s = (sR v 23 z).1 20 by rw [sR_ne (by decide)]; exact hv.symm)).trans sR_self
    rw [lp_s]
    generalize lp b_X6_trust_33 f = g
    unfold b_X6_trust_33
    dsimp only
    rw [tn0, nm_eq, m0', if_pos (nI_lt (by omega) (by omega)), p_spot hq8 (show 1 < 3 by decide) (x := (1 : Int32)) rfl, bd_eq, ck_pos (inb_nI (show 37 + 3 * q + 1 < 61 by omega) (by decide)), nm_eq, nI_clamp (show 37 + 3 * q + 1 < 2 ^ 31 by omega), w1_sR, sR_same, sR_sR, upd_upd, upd_self, er, tsF, m3, bd_eq]
  | succ j ih =>
    intro c f z y best days i2 i3 h1 h3
    obtain ⟨f, rfl⟩ : ∃ k, f = k + 1 := ⟨f - 1, by omega⟩
    obtain ⟨z', hW⟩ := p_wellIn2 (v := v) (z := z) hq hG h2 (kK_ok (m := m) (c := c))
    have hle := DW_le (s := s) (d := d) (q := q) (x := kK m c)
    have ihA := ih (c + 1) f z' (kK m c) best days i2 i3 (by omega) (by omega)
    have ihB := fun (hx : ¬ days ≤ DW s d q (kK m c)) => ih (c + 1) f z' (kK m c) (kK m c) (DW s d q (kK m c)) ⟨fun z => by omega, fun z => absurd z (kK_2 hm6)⟩ hle (by omega) (by omega)
    have key : ∀ (g : Int32 × Int32 × Int32 × Int32 × Int32 × Uw → Option (Int32 × Uw)), b_X6_trust_33 g (nI q, s (37 + 3 * q + 1), best, nI days, nI c, sR (sR v 23 z) 20 (upd s (37 + 3 * q + 1) y)) = if days ≤ DW s d q (kK m c) then g (nI q, s (37 + 3 * q + 1), best, nI days, nI (c + 1), sR (sR v 23 z') 20 (upd s (37 + 3 * q + 1) (kK m c))) else g (nI q, s (37 + 3 * q + 1), kK m c, nI (DW s d q (kK m c)), nI (c + 1), sR (sR v 23 z') 20 (upd s (37 + 3 * q + 1) (kK m c))) := fun g => by
      unfold b_X6_trust_33
      dsimp only
      rw [tn0, nm_eq, m0', if_neg (nI_nlt (by omega) (by omega)), nm_eq]
      by_cases hc : c = m
      · have ek : kK m c = -1 := if_neg (by omega)
        rw [ek] at hW ⊢
        rw [if_pos (show nI c = nI m by rw [hc]), p_spot hq8 (show 1 < 3 by decide) (x := (1 : Int32)) rfl, bd_eq, ck_pos (inb_nI (show 37 + 3 * q + 1 < 61 by omega) (by decide)), nm_eq, nI_clamp (show 37 + 3 * q + 1 < 2 ^ 31 by omega), w1_sR, sR_same, sR_sR, upd_upd, hW, bd_eq, nm_eq, nm_eq, nI_1]
        by_cases hx : days ≤ DW s d q (-1)
        · rw [if_pos (nI_le hx (by rw [ek] at hle; omega)), if_pos (nI_le hx (by rw [ek] at hle; omega)), if_pos hx]
        · rw [if_neg (nI_ge (by omega) (by omega)), if_neg (nI_ge (by omega) (by omega)), if_neg hx]
      · have ek : kK m c = nI c := if_pos (by omega)
        rw [ek] at hW ⊢
        rw [if_neg (show ¬ nI c = nI m from fun z => hc ((nI_eq (by omega) (by omega)).mp z)), nm_eq, p_spot hq8 (show 1 < 3 by decide) (x := (1 : Int32)) rfl, bd_eq, ck_pos (inb_nI (show 37 + 3 * q + 1 < 61 by omega) (by decide)), nm_eq, nI_clamp (show 37 + 3 * q + 1 < 2 ^ 31 by omega), w1_sR, sR_same, sR_sR, upd_upd, hW, bd_eq, nm_eq, nm_eq, nI_1]
        by_cases hx : days ≤ DW s d q (nI c)
        · rw [if_pos (nI_le hx (by rw [ek] at hle; omega)), if_pos (nI_le hx (by rw [ek] at hle; omega)), if_pos hx]
        · rw [if_neg (nI_ge (by omega) (by omega)), if_neg (nI_ge (by omega) (by omega)), if_neg hx]
    rw [lp_s, key, tsF]
    by_cases hx : days ≤ DW s d q (kK m c)
    · rw [if_pos hx, if_pos hx]
      exact ihA
    · rw [if_neg hx, if_neg hx]
      exact ihB hx
theorem st_trust (a1 : Int32) : StepT Rel (fun u => f_X5_trust a1 u) (fun u => f_X6_trust a1 u) := by
  intro u hu
  obtain ⟨e0, ⟨m, p, w, d, t, hG, h2, hd, h4, ht⟩, -⟩ := id hu
  obtain ⟨hm, hm6, hp, hp8, ew, hw, -, -, -, hps⟩ := id hG
  have hm0 : u.1 0 0 = nI m := by rw [e0]; exact hm
  have h20 : u.1 0 2 = nI d := by rw [e0]; exact h2
  have hp0 : u.1 0 1 = nI p := by rw [e0]; exact hp
  have out : (a1 < 0 ∨ nI p ≤ a1) → ∃ r u1 u2, f_X5_trust a1 u = some (r, u1) ∧ f_X6_trust a1 u1 = some (r, u2) ∧ Rel u2 := fun h => by
    refine fin_fd (f := fun u => f_X5_trust a1 u) (g := fun u => f_X6_trust a1 u) hu (k := 0) (by decide) (x := -1000000001) ?_ (fun u' e => ?_)
    · show f_X5_trust a1 u = _
      unfold f_X5_trust
      rw [q_pilAt_out hp0 h, bd_eq, ro_none, c0, bd_eq]
    · show f_X6_trust a1 u' = _
      unfold f_X6_trust
      rw [p_isPil_out (u := u') (by rw [e]; exact hp) hp8 h, bd_eq, if_neg (by decide), m0, bd_eq]
  rcases pk_ix a1 (n := p) (by omega) with h | h | ⟨q, hq, rfl⟩
  · exact out (Or.inl h)
  · exact out (Or.inr h)
  have hq8 : q < 8 := by omega
  obtain ⟨v, k1, k2⟩ := l_tsC (d := d) (s := u.1 20) hq8 hm6 hm hw.2 ew (fun x hx => ⟨(hps q hq).1, hx, (hps q hq).2.2⟩) m 0 2100 (sR u 4 (cpF (u.1 4) (ahF (u.1 0) d) 0 400)) (-1) (-2) 401 (by rw [sR_ne (by decide)]; exact e0) (fun k hk => by rw [sR_same, cpF_in hk, e0]; rfl) (Or.inl rfl) ⟨fun _ => rfl, fun _ => rfl⟩ (by omega) (by omega) (by omega)
  have kF : Fr [2, 4, 5, 6] u v := Fr.tr (Fr.sR (by decide)) ⟨fun r hr => k2.1 r (fun z => hr (by simp at z; subst z; decide)), k2.2⟩
  have hC : f_X5_trust (nI q) u = if tsF (kK m) (DW (u.1 20) d q) 0 (m + 1) (-2) 401 = -2 then some (-1000000004, fdC v 3) else some (tsF (kK m) (DW (u.1 20) d q) 0 (m + 1) (-2) 401, v) := by
    unfold f_X5_trust
    have hL := p_look (n := 400) (by decide) hd hm6 hm0 h20
    rw [q_pilAt_in hp0 hp8 hq, bd_eq, ro_some, show (400 : Int32) = nI 400 from rfl, hL, bd_eq]
    exact k1
  have hM : ∀ u', u'.1 20 = u.1 20 → ∃ z, f_X6_trust (nI q) u' = if tsF (kK m) (DW (u.1 20) d q) 0 (m + 1) (-2) 401 = -2 then some (-1000000004, fdM (sR u' 23 z) 3) else some (tsF (kK m) (DW (u.1 20) d q) 0 (m + 1) (-2) 401, sR u' 23 z) := fun u' e => by
    obtain ⟨z, h⟩ := l_tsM (v := u') hq e hG h2 (m + 1) 0 2100 (u'.1 23) (u.1 20 (37 + 3 * q + 1)) (-2) 401 ⟨fun _ => rfl, fun _ => rfl⟩ (by omega) (by omega) (by omega)
    refine ⟨z, ?_⟩
    rw [upd_self, sR_self, ← e, sR_self, e] at h
    unfold f_X6_trust
    rw [p_isPil_in (u := u') (by rw [e]; exact hp) hp8 hq, bd_eq, if_pos rfl, p_isOf hq8 (show 1 < 3 by decide) (x := (1 : Int32)) rfl, bd_eq, e]
    exact h
  generalize tsF (kK m) (DW (u.1 20) d q) 0 (m + 1) (-2) 401 = N at hC hM
  by_cases hN : N = -2
  · rw [if_pos hN] at hC
    have hv : Rel v := hu.fr (fun r hr => by simp at hr; omega) kF
    have hf := hv.fd (k := 3) (by decide)
    obtain ⟨z, hM2⟩ := hM (fdC v 3) ((show (fdC v 3).1 20 = v.1 20 from sR_ne (by decide)).trans (kF.1 20 (by decide)))
    rw [if_pos hN] at hM2
    refine ⟨-1000000004, fdC v 3, _, hC, hM2, ?_⟩
    have hfr : Fr [22, 23] (fdM (fdC v 3) 3) (fdM (sR (fdC v 3) 23 z) 3) := by
      refine ⟨fun r hr => ?_, rfl⟩
      have e23 : r ≠ 23 := fun z => hr (by rw [z]; decide)
      unfold fdM
      by_cases e24 : r = 24
      · subst e24
        rw [sR_same, sR_same, sR_ne (show 24 ≠ 23 by decide)]
      · rw [sR_ne e24, sR_ne e24, sR_ne e23]
    exact hf.fr (fun r hr => by simp at hr; omega) hfr
  · rw [if_neg hN] at hC
    refine fin_q (f := fun u => f_X5_trust (nI q) u) (g := fun u => f_X6_trust (nI q) u) hu hC kF (fun u' e => ?_)
    obtain ⟨z, h⟩ := hM u' e
    rw [if_neg hN] at h
    exact ⟨_, h, Fr.sR (by decide)⟩
