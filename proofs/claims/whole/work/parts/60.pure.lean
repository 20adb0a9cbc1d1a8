/-! PURE 21: trust -/
/-- days until well with another trust -/
def DW (s : Nat → Int32) (d q : Nat) (x : Int32) : Nat := dwF (HF s d) (s 4) (s 3) 401 0 (s (37 + 3 * q), x, s (37 + 3 * q + 2))
theorem DW_le {s : Nat → Int32} {d q : Nat} {x : Int32} : DW s d q x ≤ 401 := by
  have := dwF_le (H := HF s d) (tr := s 4) (pw := s 3) 401 0 (s (37 + 3 * q), x, s (37 + 3 * q + 2))
  unfold DW
  omega
def kK (m c : Nat) : Int32 := if c < m then nI c else -1
theorem kK_2 {m c : Nat} (hm : m ≤ 6) : ¬ kK m c = -2 := by
  unfold kK
  split
  · intro z
    have := congrArg Int32.toInt z
    rw [nI_toInt (by omega)] at this
    have z2 : (-2 : Int32).toInt = -2 := by decide
    omega
  · decide
def tsF (K : Nat → Int32) (D : Int32 → Nat) : Nat → Nat → Int32 → Nat → Int32
  | _, 0, best, _ => best
  | c, j + 1, best, days => if days ≤ D (K c) then tsF K D (c + 1) j best days else tsF K D (c + 1) j (K c) (D (K c))
theorem hb_trust {s : Nat → Int32} {m p w q : Nat} (h : GdW s m p w) (y : Int32) (x d : Int32) : hb (upd s (37 + 3 * q + 1) y) x d = hb s x d := hb_cal (s := s) (s' := upd s (37 + 3 * q + 1) y) (fun k hk => upd_ne (by omega)) h.1 h.2.1 x d
theorem l_tsC {m w d q : Nat} {s : Nat → Int32} (hq : q < 8) (hm6 : m ≤ 6) (hm : s 0 = nI m) (hw : w ≤ 50) (e3 : s 3 = nI w) (hP : ∀ x, (x = -1 ∨ ∃ c, c < m ∧ x = nI c) → Ps m (s (37 + 3 * q), x, s (37 + 3 * q + 2))) : ∀ (j c f : Nat) (u : Uw) (best' best : Int32) (days : Nat), u.1 0 = s → (∀ k, k < 400 → u.1 4 k = hset s (nI (d + k))) → (days = 401 ∨ best' = best) → (days = 401 ↔ best = -2) → days ≤ 401 → c + j = m → j < f → ∃ u', lp b_X5_trust_37 f (pp 0 q, best', nI days, nI c, u) = (if tsF (kK m) (DW s d q) c (j + 1) best days = -2 then some (-1000000004, fdC u' 3) else some (tsF (kK m) (DW s d q) c (j + 1) best days, u')) ∧ Fr [5] u u' := by
  intro j
  induction j with
  | zero =>
    intro c f u best' best days hs h i1 i2 i3 h1 h3
    obtain ⟨f, rfl⟩ : ∃ k, f = k + 1 := ⟨f - 1, by omega⟩
    obtain ⟨v, k1, k2⟩ := p_dwC (d := d) (x := -1) hq hm6 hm hw e3 hs h (hP (-1) (Or.inl rfl))
    have hle := DW_le (s := s) (d := d) (q := q) (x := -1)
    refine ⟨v, ?_, k2⟩
    rw [lp_s]
    generalize lp b_X5_trust_37 f = g
    unfold b_X5_trust_37
    dsimp only
    rw [hs, hm, if_pos (nI_le (by omega) (by omega)), k1, bd_eq, c3, bd_eq, tsF, tsF, tsF, show kK m c = -1 from if_neg (by omega)]
    show (if nI days ≤ nI (DW s d q (-1)) then (if nI days = 401 then some (-1000000004, fdC v 3) else some (best', v)) else some (-1, v)) = _
    by_cases hx : days ≤ DW s d q (-1)
    · rw [if_pos (nI_le hx (by omega)), if_pos hx]
      by_cases h4 : days = 401
      · rw [if_pos (show nI days = 401 by rw [h4]; rfl), if_pos (i2.mp h4)]
      · rw [if_neg (show ¬ nI days = 401 from fun z => h4 ((nI_eq (b := 401) (by omega) (by omega)).mp z)), if_neg (fun z => h4 (i2.mpr z)), i1.resolve_left h4]
    · rw [if_neg (nI_ge (by omega) (by omega)), if_neg hx, if_neg (by decide)]
  | succ j ih =>
    intro c f u best' best days hs h i1 i2 i3 h1 h3
    obtain ⟨f, rfl⟩ : ∃ k, f = k + 1 := ⟨f - 1, by omega⟩
    obtain ⟨v, k1, k2⟩ := p_dwC (d := d) (x := nI c) hq hm6 hm hw e3 hs h (hP (nI c) (Or.inr ⟨c, by omega, rfl⟩))
    have hle := DW_le (s := s) (d := d) (q := q) (x := nI c)
    have hvs : v.1 0 = s := (k2.1 0 (by decide)).trans hs
    have hv4 : ∀ k, k < 400 → v.1 4 k = hset s (nI (d + k)) := fun k hk => by rw [k2.1 4 (by decide)]; exact h k hk
    have ek : kK m c = nI c := if_pos (by omega)
    have ihA := ih (c + 1) f v best' best days hvs hv4 i1 i2 i3 (by omega) (by omega)
    have ihB := fun (hx : ¬ days ≤ DW s d q (nI c)) => ih (c + 1) f v (nI c) (nI c) (DW s d q (nI c)) hvs hv4 (Or.inr rfl) ⟨fun z => by omega, fun z => absurd z (ek ▸ kK_2 hm6)⟩ hle (by omega) (by omega)
    rw [lp_s]
    generalize lp b_X5_trust_37 f = g at ihA ihB ⊢
    unfold b_X5_trust_37
    dsimp only
    rw [hs, hm, if_neg (nI_ge (by omega) (by omega)), k1, bd_eq, nm_eq, nI_1, tsF, ek]
    show ∃ u', (if nI days ≤ nI (DW s d q (nI c)) then g (pp 0 q, best', nI days, nI (c + 1), v) else g (pp 0 q, nI c, nI (DW s d q (nI c)), nI (c + 1), v)) = _ ∧ _
    by_cases hx : days ≤ DW s d q (nI c)
    · rw [if_pos (nI_le hx (by omega)), if_pos hx]
      obtain ⟨u', a, b⟩ := ihA
      exact ⟨u', a, k2.tr b⟩
    · rw [if_neg (nI_ge (by omega) (by omega)), if_neg hx]
      obtain ⟨u', a, b⟩ := ihB hx
      exact ⟨u', a, k2.tr b⟩
theorem p_wellIn2 {m p w q d : Nat} (hq : q < p) {v : Uw} {s z : Nat → Int32} (hG : GdW s m p w) (h2 : s 2 = nI d) {y : Int32} (hy : y = -1 ∨ ∃ c, c < m ∧ y = nI c) : ∃ z', f_X6_wellIn (nI q) (sR (sR v 23 z) 20 (upd s (37 + 3 * q + 1) y)) = some (nI (DW s d q y), sR (sR v 23 z') 20 (upd s (37 + 3 * q + 1) y)) := by
  have hG' : GdW (upd s (37 + 3 * q + 1) y) m p w := by
    rw [set_trust]
    have hps := hG.2.2.2.2.2.2.2.2.2 q hq
    exact hG.setT ⟨hps.1, hy, hps.2.2⟩
  have h := p_wellIn (u := sR (sR v 23 z) 20 (upd s (37 + 3 * q + 1) y)) (d := d) hq (by rw [sR_same]; exact hG') (by rw [sR_same, upd_ne (by omega)]; exact h2)
  rw [sR_same, upd_ne (show 4 ≠ 37 + 3 * q + 1 by omega), upd_ne (show 3 ≠ 37 + 3 * q + 1 by omega), sR_ne (show 23 ≠ 20 by decide), sR_same, sR_comm (show 20 ≠ 23 by decide), sR_sR] at h
  have eH : HF (upd s (37 + 3 * q + 1) y) d = HF s d := by
    unfold HF
    funext i x
    exact hb_trust hG y x _
  have eG : getT (upd s (37 + 3 * q + 1) y) (37 + 3 * q) = (s (37 + 3 * q), y, s (37 + 3 * q + 2)) := by
    unfold getT
    rw [upd_ne (show 37 + 3 * q ≠ 37 + 3 * q + 1 by omega), upd_at, upd_ne (show 37 + 3 * q + 2 ≠ 37 + 3 * q + 1 by omega)]
  rw [eH, eG] at h
  exact ⟨_, h⟩
