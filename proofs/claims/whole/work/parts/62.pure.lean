/-! PURE 23: cure -/
theorem fin_nx2 {f g : Uw → Option (Int32 × Uw)} {u v : Uw} (hu : Rel u) {o : Option Nat} (hF : Fr [2, 4, 5, 6] u v) (hC : f u = nxA o v (fdC v 3)) (hM : ∀ u', u'.1 20 = u.1 20 → g u' = nxA o u' (fdM u' 3)) : ∃ r u1 u2, f u = some (r, u1) ∧ g u1 = some (r, u2) ∧ Rel u2 := by
  have hv : Rel v := hu.fr (fun r hr => by simp at hr; omega) hF
  have e : v.1 20 = u.1 20 := hF.1 20 (by decide)
  cases o with
  | none => exact ⟨-1000000004, fdC v 3, _, hC, hM _ ((show (fdC v 3).1 20 = v.1 20 from sR_ne (by decide)).trans e), hv.fd (by decide)⟩
  | some k => exact ⟨nI k, v, v, hC, hM v e, hv⟩
def cuF (h : Int32 → Bool) (w : Nat) : Nat → Nat → Nat → Option Nat
  | 0, _, _ => none
  | j + 1, i, k => if h (nI i) = true then (if k ≤ w then some i else cuF h w j (i + 1) (k - w)) else cuF h w j (i + 1) k
theorem q_bath (pw : Int32) (u : Uw) : f_X1_takeBath 83 1 pw u = some ((), sR u 5 (setT (u.1 5) 0 (bathT (getT (u.1 5) 0) true pw))) := p_takeBath pil_83 true pw
theorem setT_0 {s : Nat → Int32} {t : Tr} : setT s 0 t 0 = t.1 := congrArg Prod.fst (getT_set (s := s) (o := 0) (t := t))
theorem l_cuC {m w d : Nat} {s : Nat → Int32} (hm6 : m ≤ 6) (hm : s 0 = nI m) (hw : w ≤ 50) (e3 : s 3 = nI w) (h2 : s 2 = nI d) (hd : d ≤ 99999) : ∀ (j i f k : Nat) (u : Uw), u.1 0 = s → u.1 5 0 = nI k → 1 ≤ k → k ≤ 99 → i + j = 2001 → j < f → ∃ u', lp b_X5_cure_44 f (nI i, u) = nxA (cuF (hb s (s 4)) w j (d + i) k) u' (fdC u' 3) ∧ Fr [5] u u' := by
  intro j
  induction j with
  | zero =>
    intro i f k u hs hk k1 k9 h1 h3
    obtain ⟨f, rfl⟩ : ∃ k, f = k + 1 := ⟨f - 1, by omega⟩
    refine ⟨u, ?_, Fr.rf⟩
    rw [lp_s]
    generalize lp b_X5_cure_44 f = g
    unfold b_X5_cure_44
    dsimp only
    rw [if_pos (show (2000 : Int32) < nI i from nI_lt (a := 2000) (by omega) (by omega)), c3, bd_eq, cuF]
    rfl
  | succ j ih =>
    intro i f k u hs hk k1 k9 h1 h3
    obtain ⟨f, rfl⟩ : ∃ k, f = k + 1 := ⟨f - 1, by omega⟩
    have ihA := ih (i + 1) f k u hs hk k1 k9 (by omega) (by omega)
    have eW : (bathT (getT (u.1 5) 0) true (nI w)).1 = nI (k - w) := by
      show watI (u.1 5 0) true (nI w) = _
      rw [hk, wat_nat k9 hw]
      rfl
    have ihB := fun (hx : ¬ k ≤ w) => ih (i + 1) f (k - w) (sR u 5 (setT (u.1 5) 0 (bathT (getT (u.1 5) 0) true (nI w)))) (by rw [sR_ne (by decide)]; exact hs) (by rw [sR_same, setT_0]; exact eW) (by omega) (by omega) (by omega) (by omega)
    have hH := q_isHolyBy (u := u) (by rw [hs]; exact hm) hm6 (s 4) (nI (d + i))
    rw [hs] at hH
    rw [lp_s]
    generalize lp b_X5_cure_44 f = g at ihA ihB ⊢
    unfold b_X5_cure_44
    dsimp only
    rw [if_neg (show ¬ (2000 : Int32) < nI i from nI_nlt (a := 2000) (by omega) (by decide)), nm_eq, hs, h2, nI_add, hH, bd_eq, nI_1, hs, e3, q_bath, bd_eq, sR_same, setT_0, eW, hk, if_neg (show ¬ nI k = 0 from nI_ne0 k1 (by omega)), cuF]
    by_cases hh : hb s (s 4) (nI (d + i)) = true
    · rw [if_pos hh, if_pos hh]
      by_cases hx : k ≤ w
      · rw [if_pos hx, if_pos (show nI (k - w) = 0 by rw [show k - w = 0 by omega]; rfl)]
        exact ⟨_, rfl, Fr.sR (by decide)⟩
      · rw [if_neg hx, if_neg (show ¬ nI (k - w) = 0 from nI_ne0 (by omega) (by omega))]
        obtain ⟨u', a, b⟩ := ihB hx
        exact ⟨u', a, (Fr.sR (by decide)).tr b⟩
    · rw [if_neg hh, if_neg hh]
      exact ihA
theorem l_cuM {m p w d : Nat} {u : Uw} (hd : d ≤ 99999) (h2 : u.1 20 2 = nI d) (hG : GdW (u.1 20) m p w) : ∀ (j i f k : Nat), 1 ≤ k → k ≤ 99 → i + j = 2001 → j < f → lp b_X6_cure_40 f (nI k, nI (d + i), u) = nxA (cuF (hb (u.1 20) (u.1 20 4)) w j (d + i) k) u (fdM u 3) := by
  have e3 : u.1 20 3 = nI w := hG.2.2.2.2.1
  have hw : w ≤ 50 := hG.2.2.2.2.2.1.2
  intro j
  induction j with
  | zero =>
    intro i f k k1 k9 h1 h3
    obtain ⟨f, rfl⟩ : ∃ k, f = k + 1 := ⟨f - 1, by omega⟩
    rw [lp_s]
    generalize lp b_X6_cure_40 f = g
    unfold b_X6_cure_40
    dsimp only
    rw [tn2, nm_eq, h2, show (2000 : Int32) = nI 2000 from rfl, nI_add, if_pos (nI_lt (by omega) (by omega)), m3, bd_eq, cuF]
    rfl
  | succ j ih =>
    intro i f k k1 k9 h1 h3
    obtain ⟨f, rfl⟩ : ∃ k, f = k + 1 := ⟨f - 1, by omega⟩
    have ihA := ih (i + 1) f k k1 k9 (by omega) (by omega)
    have ihB := fun (hx : ¬ k ≤ w) => ih (i + 1) f (k - w) (by omega) (by omega) (by omega) (by omega)
    rw [lp_s]
    generalize lp b_X6_cure_40 f = g at ihA ihB ⊢
    unfold b_X6_cure_40
    dsimp only
    rw [tn2, nm_eq, h2, show (2000 : Int32) = nI 2000 from rfl, nI_add, if_neg (nI_nlt (by omega) (by omega)), tn4, nm_eq, p_isHoly hG.1 hG.2.1 hG.len, bd_eq, tn3, nm_eq, nm_eq, nm_eq, e3, show nI k - 0 = nI k from pk_sub (b := 0) (by omega), if_pos (show 0 < nI k from nI_lt (a := 0) (by omega) (by omega)), nI_1, cuF]
    by_cases hh : hb (u.1 20) (u.1 20 4) (nI (d + i)) = true
    · rw [if_pos hh, if_pos hh]
      by_cases hx : k ≤ w
      · rw [if_pos hx, if_neg (show ¬ 0 < nI k - nI w by rw [fa_lt, nI_subI k w (by omega) (by omega)]; show ¬ (0 : Int) < _; omega)]
        rfl
      · rw [if_neg hx, pk_sub (by omega), if_pos (show 0 < nI (k - w) from nI_lt (a := 0) (by omega) (by omega))]
        exact ihB hx
    · rw [if_neg hh, if_neg hh]
      exact ihA
theorem st_cure (a1 : Int32) : StepT Rel (fun u => f_X5_cure a1 u) (fun u => f_X6_cure a1 u) := by
  intro u hu
  obtain ⟨e0, ⟨m, p, w, d, t, hG, h2, hd, h4, ht⟩, -⟩ := id hu
  obtain ⟨hm, hm6, hp, hp8, ew, hw, -, -, -, hps⟩ := id hG
  have hm0 : u.1 0 0 = nI m := by rw [e0]; exact hm
  have h20 : u.1 0 2 = nI d := by rw [e0]; exact h2
  have hp0 : u.1 0 1 = nI p := by rw [e0]; exact hp
  have out : (a1 < 0 ∨ nI p ≤ a1) → ∃ r u1 u2, f_X5_cure a1 u = some (r, u1) ∧ f_X6_cure a1 u1 = some (r, u2) ∧ Rel u2 := fun h => by
    refine fin_fd (f := fun u => f_X5_cure a1 u) (g := fun u => f_X6_cure a1 u) hu (k := 0) (by decide) (x := -1000000001) ?_ (fun u' e => ?_)
    · show f_X5_cure a1 u = _
      unfold f_X5_cure
      rw [q_pilAt_out hp0 h, bd_eq, ro_none, c0, bd_eq]
    · show f_X6_cure a1 u' = _
      unfold f_X6_cure
      rw [p_isPil_out (u := u') (by rw [e]; exact hp) hp8 h, bd_eq, if_neg (by decide), m0, bd_eq]
  rcases pk_ix a1 (n := p) (by omega) with h | h | ⟨q, hq, rfl⟩
  · exact out (Or.inl h)
  · exact out (Or.inr h)
  have hq8 : q < 8 := by omega
  obtain ⟨g1, g2, g3⟩ := q_pil hq8
  obtain ⟨⟨k, hk, ek⟩, -⟩ := hps q hq
  have ek' : u.1 20 (37 + 3 * q) = nI k := ek
  have ek0 : u.1 0 (37 + 3 * q + 0) = nI k := by rw [e0]; exact ek
  by_cases h0 : k = 0
  · refine fin_fd (f := fun u => f_X5_cure (nI q) u) (g := fun u => f_X6_cure (nI q) u) hu (k := 4) (by decide) (x := -1000000005) ?_ (fun u' e => ?_)
    · show f_X5_cure (nI q) u = _
      unfold f_X5_cure
      rw [q_pilAt_in hp0 hp8 hq, bd_eq, ro_some, ck_pos g1, g2, g3, ek0, if_pos (show nI k = 0 by rw [h0]; rfl), c4, bd_eq]
    · show f_X6_cure (nI q) u' = _
      unfold f_X6_cure
      rw [p_isPil_in (u := u') (by rw [e]; exact hp) hp8 hq, bd_eq, if_pos rfl, p_isOf hq8 (show 0 < 3 by decide) (x := (0 : Int32)) rfl, bd_eq, e, Nat.add_zero, ek', if_pos (show nI k = 0 by rw [h0]; rfl), m4, bd_eq]
  · obtain ⟨v, k1, k2⟩ := l_cuC (s := u.1 20) hm6 hm hw.2 ew h2 hd 2001 0 2100 k (sR u 5 (setT (u.1 5) 0 (getT (u.1 0) (37 + 3 * q)))) (by rw [sR_ne (by decide)]; exact e0) (by rw [sR_same, setT_0]; exact ek0) (by omega) hk (by omega) (by omega)
    have kF : Fr [2, 4, 5, 6] u v := Fr.tr (Fr.sR (by decide)) ⟨fun r hr => k2.1 r (fun z => hr (by simp at z; subst z; decide)), k2.2⟩
    refine fin_nx2 (f := fun u => f_X5_cure (nI q) u) (g := fun u => f_X6_cure (nI q) u) hu kF (o := cuF (hb (u.1 20) (u.1 20 4)) w 2001 (d + 0) k) ?_ (fun u' e => ?_)
    · show f_X5_cure (nI q) u = _
      unfold f_X5_cure
      rw [q_pilAt_in hp0 hp8 hq, bd_eq, ro_some, ck_pos g1, g2, g3, ek0, if_neg (show ¬ nI k = 0 from nI_ne0 (by omega) (by omega)), p_X1_copy pil_83 (q_pil hq8) (by decide), bd_eq]
      exact k1
    · show f_X6_cure (nI q) u' = _
      unfold f_X6_cure
      have h := l_cuM (u := u') hd (by rw [e]; exact h2) (by rw [e]; exact hG) 2001 0 2100 k (by omega) hk (by omega) (by omega)
      rw [p_isPil_in (u := u') (by rw [e]; exact hp) hp8 hq, bd_eq, if_pos rfl, p_isOf hq8 (show 0 < 3 by decide) (x := (0 : Int32)) rfl, bd_eq, e, Nat.add_zero, ek', if_neg (show ¬ nI k = 0 from nI_ne0 (by omega) (by omega)), tn2, nm_eq, h2]
      rw [e] at h
      exact h
