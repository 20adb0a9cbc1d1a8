/-! PURE 19: well -/
/-- how many days until well: i, or one more than all of them -/
def dwF (H : Nat → Int32 → Bool) (tr pw : Int32) : Nat → Nat → Tr → Nat
  | 0, i, _ => i
  | j + 1, i, t => if t.1 ≤ 0 then i else dwF H tr pw j (i + 1) (passT t (H i) tr pw)
theorem dwF_le {H : Nat → Int32 → Bool} {tr pw : Int32} : ∀ (j i : Nat) (t : Tr), dwF H tr pw j i t ≤ i + j := by
  intro j
  induction j with
  | zero => intro i t; exact Nat.le_refl _
  | succ j ih =>
    intro i t
    rw [dwF]
    split
    · omega
    · have := ih (i + 1) (passT t (H i) tr pw)
      omega
theorem dwF_congr {H H' : Nat → Int32 → Bool} {tr pw : Int32} : ∀ (j i : Nat) (t : Tr), (∀ k, k < i + j → H k = H' k) → dwF H tr pw j i t = dwF H' tr pw j i t := by
  intro j
  induction j with
  | zero => intro i t _; rfl
  | succ j ih =>
    intro i t h
    rw [dwF, dwF, h i (by omega), ih (i + 1) _ (fun k hk => h k (by omega))]
theorem ill_0 {m : Nat} {t : Tr} (h : Ps m t) : t.1 ≤ 0 ↔ t.1 = 0 := by
  obtain ⟨⟨i, hi, e⟩, -⟩ := h
  rw [e]
  constructor
  · intro h
    cases i with
    | zero => rfl
    | succ i => exact absurd h (nI_nle (by omega) (by omega))
  · intro h
    rw [h]
    decide
theorem l_dwC {m w d : Nat} {s : Nat → Int32} (hm6 : m ≤ 6) (hm : s 0 = nI m) (hw : w ≤ 50) (e3 : s 3 = nI w) : ∀ (j i f : Nat) (u : Uw), u.1 0 = s → (∀ k, k < 400 → u.1 4 k = hset s (nI (d + k))) → Ps m (getT (u.1 5) 0) → i + j = 400 → j < f → ∃ u', lp b_X5_daysToWell_18 f (nI i, u) = some (nI (dwF (HF s d) (s 4) (s 3) (j + 1) i (getT (u.1 5) 0)), u') ∧ Fr [5] u u' := by
  intro j
  induction j with
  | zero =>
    intro i f u hs h hP h1 h3
    obtain ⟨f, rfl⟩ : ∃ k, f = k + 1 := ⟨f - 1, by omega⟩
    refine ⟨u, ?_, Fr.rf⟩
    have ei : i = 400 := by omega
    subst ei
    rw [lp_s]
    generalize lp b_X5_daysToWell_18 f = g
    unfold b_X5_daysToWell_18
    dsimp only
    rw [if_pos (show (400 : Int32) ≤ nI 400 by decide), dwF, dwF]
    by_cases h0 : u.1 5 0 = 0
    · rw [if_pos h0, if_pos ((ill_0 hP).mpr h0)]
      rfl
    · rw [if_neg h0, if_neg (fun z => h0 ((ill_0 hP).mp z))]
      rfl
  | succ j ih =>
    intro i f u hs h hP h1 h3
    obtain ⟨f, rfl⟩ : ∃ k, f = k + 1 := ⟨f - 1, by omega⟩
    have eH : isInB (hset s (nI (d + i))) = HF s d i := funext fun x => isIn_hset hm hm6 x _
    obtain ⟨u', k1, k2⟩ := ih (i + 1) f (sR u 5 (setT (u.1 5) 0 (passT (getT (u.1 5) 0) (HF s d i) (s 4) (s 3)))) (by rw [sR_ne (by decide)]; exact hs) (fun k hk => by rw [sR_ne (by decide)]; exact h k hk) (by rw [sR_same, getT_set, e3]; exact pass_Ps hP hw _ _) (by omega) (by omega)
    rw [lp_s]
    generalize lp b_X5_daysToWell_18 f = g at k1 ⊢
    unfold b_X5_daysToWell_18
    dsimp only
    rw [if_neg (show ¬ (400 : Int32) ≤ nI i from nI_ge (b := 400) (by omega) (by decide)), dwF]
    by_cases h0 : u.1 5 0 = 0
    · rw [if_pos h0, if_pos ((ill_0 hP).mpr h0)]
      exact ⟨u, rfl, Fr.rf⟩
    · rw [if_neg h0, if_neg (fun z => h0 ((ill_0 hP).mp z)), ck_pos (inb_nI (by omega) (by decide)), nm_eq, nI_clamp (by omega), h i (by omega), hs, p_passDay pil_83, bd_eq, eH, nI_1, k1, sR_same, getT_set]
      exact ⟨u', rfl, (Fr.sR (by decide)).tr k2⟩
theorem p_dwC {m w d q : Nat} {s : Nat → Int32} (hq : q < 8) (hm6 : m ≤ 6) (hm : s 0 = nI m) (hw : w ≤ 50) (e3 : s 3 = nI w) {u : Uw} (hs : u.1 0 = s) (h : ∀ k, k < 400 → u.1 4 k = hset s (nI (d + k))) {x : Int32} (hP : Ps m (s (37 + 3 * q), x, s (37 + 3 * q + 2))) : ∃ u', f_X5_daysToWell (pp 0 q) x u = some (nI (dwF (HF s d) (s 4) (s 3) 401 0 (s (37 + 3 * q), x, s (37 + 3 * q + 2))), u') ∧ Fr [5] u u' := by
  have er : upd (setT (u.1 5) 0 (getT (u.1 0) (37 + 3 * q))) 1 x = setT (u.1 5) 0 (s (37 + 3 * q), x, s (37 + 3 * q + 2)) := by
    rw [hs]
    unfold setT getT
    funext k
    simp only [upd]
    by_cases k1 : k = 1
    · subst k1; rfl
    · rw [if_neg k1]
      by_cases k2 : k = 0 + 2
      · rw [if_pos k2, if_pos k2]
      · rw [if_neg k2, if_neg k2, if_neg (show ¬ k = 0 + 1 by omega), if_neg (show ¬ k = 0 + 1 by omega)]
  obtain ⟨u', k1, k2⟩ := l_dwC (d := d) hm6 hm hw e3 400 0 2100 (sR u 5 (setT (u.1 5) 0 (s (37 + 3 * q), x, s (37 + 3 * q + 2)))) (by rw [sR_ne (by decide)]; exact hs) (fun k hk => by rw [sR_ne (by decide)]; exact h k hk) (by rw [sR_same, getT_set]; exact hP) (by omega) (by omega)
  refine ⟨u', ?_, (Fr.sR (by decide)).tr k2⟩
  unfold f_X5_daysToWell
  rw [p_X1_copy pil_83 (q_pil hq) (by decide), bd_eq, nm_eq, w1_sR, sR_same, sR_sR, er]
  rw [sR_same, getT_set] at k1
  exact k1
theorem dwF_shift {H H' : Nat → Int32 → Bool} {tr pw : Int32} : ∀ (j i i' : Nat) (t : Tr), (∀ k, k < j → H (i + k) = H' (i' + k)) → dwF H tr pw j i t + i' = dwF H' tr pw j i' t + i := by
  intro j
  induction j with
  | zero => intro i i' t _; rw [dwF, dwF]; omega
  | succ j ih =>
    intro i i' t h
    rw [dwF, dwF]
    split
    · omega
    · have h0 := h 0 (by omega)
      rw [Nat.add_zero, Nat.add_zero] at h0
      have := ih (i + 1) (i' + 1) (passT t (H' i') tr pw) (fun k hk => by
        have := h (k + 1) (by omega)
        rw [show i + 1 + k = i + (k + 1) by omega, show i' + 1 + k = i' + (k + 1) by omega]
        exact this)
      rw [h0]
      omega
/-- the model's way, over the whole row -/
theorem l_dwM {m p w q : Nat} (hq : q < p) {v : Uw} (hv : GdW (v.1 20) m p w) : ∀ (j i f : Nat) (s : Nat → Int32) (d : Nat), GdW s m p w → s 2 = nI d → (∀ k, 61 ≤ k → s k = v.1 20 k) → i + j = 401 → j < f → lp b_X6_wellIn_6 f (nI q, nI i, sR (sR v 23 (cpF (v.1 23) (v.1 20) 0 61)) 20 s) = some (nI (i + dwF (HF s d) (s 4) (s 3) j 0 (getT s (37 + 3 * q))), sR v 23 (cpF (v.1 23) (v.1 20) 0 61)) := by
  intro j
  induction j with
  | zero =>
    intro i f s d hG h2 hh h1 h3
    obtain ⟨f, rfl⟩ : ∃ k, f = k + 1 := ⟨f - 1, by omega⟩
    rw [lp_s]
    generalize lp b_X6_wellIn_6 f = g
    unfold b_X6_wellIn_6
    dsimp only
    rw [if_pos (show (400 : Int32) < nI i from nI_lt (a := 400) (by omega) (by omega)), p_back hh, bd_eq, dwF, Nat.add_zero]
  | succ j ih =>
    intro i f s d hG h2 hh h1 h3
    have hq8 : q < 8 := by have := hG.2.2.2.1; omega
    obtain ⟨f, rfl⟩ : ∃ k, f = k + 1 := ⟨f - 1, by omega⟩
    have ih2 := ih (i + 1) f (dayS s) (d + 1) hG.day (by rw [day_2, h2, nI_1]) (fun k hk => (day_hi hG hk).trans (hh k hk)) (by omega) (by omega)
    rw [lp_s]
    generalize lp b_X6_wellIn_6 f = g at ih2 ⊢
    unfold b_X6_wellIn_6
    dsimp only
    rw [if_neg (show ¬ (400 : Int32) < nI i from nI_nlt (a := 400) (by omega) (by omega)), p_isOf hq8 (show 0 < 3 by decide) (x := (0 : Int32)) rfl, bd_eq, sR_same, Nat.add_zero, dwF]
    by_cases h0 : s (37 + 3 * q) ≤ 0
    · rw [if_pos h0, p_back hh, bd_eq, if_pos (show (getT s (37 + 3 * q)).1 ≤ 0 from h0), Nat.add_zero]
    · rw [if_neg h0, p_day (by rw [sR_same]; exact hG), bd_eq, nI_1, sR_same, sR_sR, ih2, if_neg (show ¬ (getT s (37 + 3 * q)).1 ≤ 0 from h0), day_get hG hq, day_lo (by decide) (by decide) (by decide) (by decide), day_lo (by decide) (by decide) (by decide) (by decide), h2]
      have hsh := dwF_shift (H := HF (dayS s) (d + 1)) (H' := HF s d) (tr := s 4) (pw := s 3) j 0 1 (passT (getT s (37 + 3 * q)) (fun x => hb s x (nI d)) (s 4) (s 3)) (fun k hk => by
        unfold HF
        funext x
        rw [hb_day hG, show d + 1 + (0 + k) = d + (1 + k) by omega])
      have e : i + 1 + dwF (HF (dayS s) (d + 1)) (s 4) (s 3) j 0 (passT (getT s (37 + 3 * q)) (fun x => hb s x (nI d)) (s 4) (s 3)) = i + dwF (HF s d) (s 4) (s 3) j (0 + 1) (passT (getT s (37 + 3 * q)) (HF s d 0) (s 4) (s 3)) := by
        have e2 : HF s d 0 = fun x => hb s x (nI d) := rfl
        rw [e2, show 0 + 1 = 1 from rfl]
        omega
      rw [e]
theorem p_wellIn {m p w q d : Nat} (hq : q < p) {u : Uw} (hG : GdW (u.1 20) m p w) (h2 : u.1 20 2 = nI d) : f_X6_wellIn (nI q) u = some (nI (dwF (HF (u.1 20) d) (u.1 20 4) (u.1 20 3) 401 0 (getT (u.1 20) (37 + 3 * q))), sR u 23 (cpF (u.1 23) (u.1 20) 0 61)) := by
  unfold f_X6_wellIn
  rw [p_laysAside, bd_eq]
  have h := l_dwM hq hG 401 0 2100 (u.1 20) d hG h2 (fun k _ => rfl) (by omega) (by omega)
  rw [Nat.zero_add, show sR (sR u 23 (cpF (u.1 23) (u.1 20) 0 61)) 20 (u.1 20) = sR u 23 (cpF (u.1 23) (u.1 20) 0 61) from by
    have e : (sR u 23 (cpF (u.1 23) (u.1 20) 0 61)).1 20 = u.1 20 := sR_ne (by decide)
    exact (congrArg (sR (sR u 23 (cpF (u.1 23) (u.1 20) 0 61)) 20) e.symm).trans sR_self] at h
  exact h
theorem st_well (a1 : Int32) : StepT Rel (fun u => f_X5_well a1 u) (fun u => f_X6_well a1 u) := by
  intro u hu
  obtain ⟨e0, ⟨m, p, w, d, t, hG, h2, hd, h4, ht⟩, -⟩ := id hu
  obtain ⟨hm, hm6, hp, hp8, ew, hw, -, -, -, hps⟩ := id hG
  have hm0 : u.1 0 0 = nI m := by rw [e0]; exact hm
  have h20 : u.1 0 2 = nI d := by rw [e0]; exact h2
  have hp0 : u.1 0 1 = nI p := by rw [e0]; exact hp
  have out : (a1 < 0 ∨ nI p ≤ a1) → ∃ r u1 u2, f_X5_well a1 u = some (r, u1) ∧ f_X6_well a1 u1 = some (r, u2) ∧ Rel u2 := fun h => by
    refine fin_fd (f := fun u => f_X5_well a1 u) (g := fun u => f_X6_well a1 u) hu (k := 0) (by decide) (x := -1000000001) ?_ (fun u' e => ?_)
    · show f_X5_well a1 u = _
      unfold f_X5_well
      rw [q_pilAt_out hp0 h, bd_eq, ro_none, c0, bd_eq]
    · show f_X6_well a1 u' = _
      unfold f_X6_well
      rw [p_isPil_out (u := u') (by rw [e]; exact hp) hp8 h, bd_eq, if_neg (by decide), m0, bd_eq]
  rcases pk_ix a1 (n := p) (by omega) with h | h | ⟨q, hq, rfl⟩
  · exact out (Or.inl h)
  · exact out (Or.inr h)
  have hq8 : q < 8 := by omega
  obtain ⟨g1, g2, g3⟩ := q_pil hq8
  obtain ⟨v, k1, k2⟩ := p_dwC (d := d) (s := u.1 20) (u := sR u 4 (cpF (u.1 4) (ahF (u.1 0) d) 0 400)) (x := u.1 20 (37 + 3 * q + 1)) hq8 hm6 hm hw.2 ew (by rw [sR_ne (by decide)]; exact e0) (fun k hk => by rw [sR_same, cpF_in hk, e0]; rfl) (hps q hq)
  have kF : Fr [2, 4, 5, 6] u v := Fr.tr (Fr.sR (by decide)) ⟨fun r hr => k2.1 r (fun z => hr (by simp at z; subst z; decide)), k2.2⟩
  have hle := dwF_le (H := HF (u.1 20) d) (tr := u.1 20 4) (pw := u.1 20 3) 401 0 (getT (u.1 20) (37 + 3 * q))
  have hC : f_X5_well (nI q) u = if nI (dwF (HF (u.1 20) d) (u.1 20 4) (u.1 20 3) 401 0 (getT (u.1 20) (37 + 3 * q))) = 401 then some (-1000000004, fdC v 3) else some (nI (dwF (HF (u.1 20) d) (u.1 20 4) (u.1 20 3) 401 0 (getT (u.1 20) (37 + 3 * q))), v) := by
    unfold f_X5_well
    have hL := p_look (n := 400) (by decide) hd hm6 hm0 h20
    rw [q_pilAt_in hp0 hp8 hq, bd_eq, ro_some, show (400 : Int32) = nI 400 from rfl, hL, bd_eq, ck_pos g1, g2, g3, sR_ne (show 0 ≠ 4 by decide)]
    rw [show u.1 0 (37 + 3 * q + 1) = u.1 20 (37 + 3 * q + 1) by rw [e0], k1, bd_eq, c3, bd_eq]
    rfl
  have hM : ∀ u', u'.1 20 = u.1 20 → f_X6_well (nI q) u' = if nI (dwF (HF (u.1 20) d) (u.1 20 4) (u.1 20 3) 401 0 (getT (u.1 20) (37 + 3 * q))) ≤ 400 then some (nI (dwF (HF (u.1 20) d) (u.1 20 4) (u.1 20 3) 401 0 (getT (u.1 20) (37 + 3 * q))), sR u' 23 (cpF (u'.1 23) (u'.1 20) 0 61)) else some (-1000000004, fdM (sR u' 23 (cpF (u'.1 23) (u'.1 20) 0 61)) 3) := fun u' e => by
    unfold f_X6_well
    have hW := p_wellIn (u := u') (d := d) hq (by rw [e]; exact hG) (by rw [e]; exact h2)
    rw [p_isPil_in (u := u') (by rw [e]; exact hp) hp8 hq, bd_eq, if_pos rfl, hW, bd_eq, m3, bd_eq, e]
  generalize dwF (HF (u.1 20) d) (u.1 20 4) (u.1 20 3) 401 0 (getT (u.1 20) (37 + 3 * q)) = N at hle hC hM
  by_cases hN : N ≤ 400
  · rw [if_neg (show ¬ nI N = 401 from fun z => by have := (nI_eq (b := 401) (by omega) (by omega)).mp z; omega)] at hC
    refine fin_q (f := fun u => f_X5_well (nI q) u) (g := fun u => f_X6_well (nI q) u) hu hC kF (fun u' e => ⟨sR u' 23 (cpF (u'.1 23) (u'.1 20) 0 61), ?_, Fr.sR (by decide)⟩)
    have h := hM u' e
    rw [if_pos (show nI N ≤ (400 : Int32) from nI_le (b := 400) hN (by decide))] at h
    exact h
  · have eN : N = 401 := by omega
    subst eN
    rw [if_pos (show nI 401 = 401 from rfl)] at hC
    have hv : Rel v := hu.fr (fun r hr => by simp at hr; omega) kF
    have hf := hv.fd (k := 3) (by decide)
    have hM2 := hM (fdC v 3) ((show (fdC v 3).1 20 = v.1 20 from sR_ne (by decide)).trans (kF.1 20 (by decide)))
    rw [if_neg (show ¬ nI 401 ≤ (400 : Int32) by decide)] at hM2
    refine ⟨-1000000004, fdC v 3, _, hC, hM2, ?_⟩
    have hfr : Fr [22, 23] (fdM (fdC v 3) 3) (fdM (sR (fdC v 3) 23 (cpF ((fdC v 3).1 23) ((fdC v 3).1 20) 0 61)) 3) := by
      refine ⟨fun r hr => ?_, rfl⟩
      have e23 : r ≠ 23 := fun z => hr (by rw [z]; decide)
      unfold fdM
      by_cases e24 : r = 24
      · subst e24
        rw [sR_same, sR_same, sR_ne (show 24 ≠ 23 by decide)]
      · rw [sR_ne e24, sR_ne e24, sR_ne e23]
    exact hf.fr (fun r hr => by simp at hr; omega) hfr
