/-! PURE 3: bounds; a day -/
def watN (i : Nat) (g : Bool) (w : Nat) : Nat := if g = true then i - w else min 99 (i + w / 2)
theorem nI_subI (i w : Nat) (hi : i < 2 ^ 30) (hw : w < 2 ^ 30) : (nI i - nI w).toInt = (i : Int) - w := pk_sub_toInt hi hw
theorem wat_nat {i w : Nat} (hi : i ≤ 99) (hw : w ≤ 50) (g : Bool) : watI (nI i) g (nI w) = nI (watN i g w) := by
  unfold watI watN
  cases g with
  | true =>
    rw [if_pos rfl, if_pos rfl]
    unfold mxI
    by_cases h : w < i
    · rw [if_pos (show (0 : Int32) < nI i - nI w by rw [fa_lt, nI_subI i w (by omega) (by omega)]; show (0 : Int) < _; omega), pk_sub (by omega)]
    · rw [if_neg (show ¬ (0 : Int32) < nI i - nI w by rw [fa_lt, nI_subI i w (by omega) (by omega)]; show ¬ (0 : Int) < _; omega), show i - w = 0 by omega]
      rfl
  | false =>
    rw [if_neg (by decide), if_neg (by decide)]
    unfold mnI
    rw [show (2 : Int32) = nI 2 from rfl, pk_div (by omega) (by decide) (by decide), nI_add]
    by_cases h : i + w / 2 < 99
    · rw [if_pos (show nI (i + w / 2) < (99 : Int32) from nI_lt (b := 99) h (by decide)), Nat.min_eq_right (by omega)]
    · rw [if_neg (show ¬ nI (i + w / 2) < (99 : Int32) from nI_nlt (b := 99) (by omega) (by omega)), Nat.min_eq_left (by omega)]
      rfl
theorem wat_mod {i w : Nat} (hi : i ≤ 99) (hw : w ≤ 50) : (if 0 ≤ nI i + -nI w then (if nI i + -nI w ≤ 99 then nI i + -nI w else 99) else (0 : Int32)) = nI (watN i true w) := by
  rw [← Int32.sub_eq_add_neg]
  have e := nI_subI i w (by omega) (by omega)
  unfold watN
  rw [if_pos rfl]
  by_cases h : w ≤ i
  · rw [pk_sub h, if_pos (nI_pos' (by omega)), if_pos (show nI (i - w) ≤ (99 : Int32) from nI_le (b := 99) (by omega) (by decide))]
  · rw [if_neg (show ¬ (0 : Int32) ≤ nI i - nI w by rw [fa_le, e]; show ¬ (0 : Int) ≤ _; omega), show i - w = 0 by omega]
    rfl
theorem wat_mod2 {i w : Nat} (hi : i ≤ 99) (hw : w ≤ 50) : (if 0 ≤ nI i + nI w / 2 then (if nI i + nI w / 2 ≤ 99 then nI i + nI w / 2 else 99) else (0 : Int32)) = nI (watN i false w) := by
  unfold watN
  rw [if_neg (show ¬ false = true by decide), show (2 : Int32) = nI 2 from rfl, pk_div (by omega) (by decide) (by decide), nI_add, if_pos (nI_pos' (by omega))]
  by_cases h : i + w / 2 ≤ 99
  · rw [if_pos (show nI (i + w / 2) ≤ (99 : Int32) from nI_le (b := 99) h (by decide)), Nat.min_eq_right (by omega)]
  · rw [if_neg (show ¬ nI (i + w / 2) ≤ (99 : Int32) from nI_ge (a := 99) (by omega) (by omega)), Nat.min_eq_left (by omega)]
    rfl
theorem min_up {k N : Nat} (hk : k ≤ N) (hN : N < 2 ^ 30) : mnI (nI N) (nI k + 1) = nI (min N (k + 1)) := by
  unfold mnI
  rw [nI_1]
  by_cases h : k + 1 < N
  · rw [if_pos (nI_lt h (by omega)), Nat.min_eq_right (by omega)]
  · rw [if_neg (nI_nlt (by omega) (by omega)), Nat.min_eq_left (by omega)]
theorem min_mod {k N : Nat} (hk : k ≤ N) (hN : N < 2 ^ 30) : (if nI N ≤ nI k then nI k + 0 else nI k + 1) = nI (min N (k + 1)) := by
  by_cases h : k < N
  · rw [if_neg (nI_ge h (by omega)), nI_1, Nat.min_eq_right (by omega)]
  · rw [if_pos (nI_le (by omega) (by omega)), Nat.min_eq_left (by omega), show k = N by omega, show (0 : Int32) = nI 0 from rfl, nI_add]
    rfl
/-! bounds -/
def Ps (m : Nat) (t : Tr) : Prop := (∃ i, i ≤ 99 ∧ t.1 = nI i) ∧ (t.2.1 = -1 ∨ ∃ c, c < m ∧ t.2.1 = nI c) ∧ ∃ b, b ≤ 9999 ∧ t.2.2 = nI b
def CalOk (F : Nat → Int32) : Prop := (∃ k, k ≤ 5 ∧ F 0 = nI k) ∧ (∃ k, k ≤ 99 ∧ F 1 = nI k) ∧ (∃ k, 1 ≤ k ∧ k ≤ 60 ∧ F 2 = nI k) ∧ (∃ k, k ≤ 99 ∧ F 3 = nI k) ∧ ∃ k, k ≤ 9999 ∧ F 4 = nI k
/-- a row's bounds: m calendars, p pilgrims, power w -/
def GdW (s : Nat → Int32) (m p w : Nat) : Prop := s 0 = nI m ∧ m ≤ 6 ∧ s 1 = nI p ∧ p ≤ 8 ∧ s 3 = nI w ∧ (1 ≤ w ∧ w ≤ 50) ∧ (∃ g, g ≤ 99 ∧ s 5 = nI g) ∧ (∃ g, g ≤ 99 ∧ s 6 = nI g) ∧ (∀ c, c < m → CalOk (row5 s (7 + 5 * c))) ∧ ∀ q, q < p → Ps m (getT s (37 + 3 * q))
theorem GdW.len {s : Nat → Int32} {m p w : Nat} (h : GdW s m p w) : LenOk s m := by
  intro c hc
  obtain ⟨k, h1, h2, h3⟩ := (h.2.2.2.2.2.2.2.2.1 c hc).2.2.1
  rw [h3]
  exact nI_le (a := 1) h1 (by omega)
theorem bath_Ps {m w : Nat} {t : Tr} (h : Ps m t) (hw : w ≤ 50) (g : Bool) : Ps m (bathT t g (nI w)) := by
  obtain ⟨⟨i, hi, e1⟩, h2, ⟨b, hb, e2⟩⟩ := h
  refine ⟨⟨watN i g w, ?_, ?_⟩, h2, ⟨min 9999 (b + 1), by omega, ?_⟩⟩
  · unfold watN
    split <;> omega
  · show watI t.1 g (nI w) = _
    rw [e1, wat_nat hi hw]
  · show mnI 9999 (t.2.2 + 1) = _
    rw [e2]
    exact min_up (N := 9999) hb (by decide)
theorem pass_Ps {m w : Nat} {t : Tr} (h : Ps m t) (hw : w ≤ 50) (f : Int32 → Bool) (tr : Int32) : Ps m (passT t f tr (nI w)) := by
  unfold passT
  split
  · exact h
  · split
    · exact bath_Ps h hw _
    · split
      · exact bath_Ps h hw _
      · exact h
theorem hb_congr {s s' : Nat → Int32} (h : ∀ k, k < 37 → s' k = s k) {m : Nat} (hm : s 0 = nI m) (hm6 : m ≤ 6) (x d : Int32) : hb s' x d = hb s x d := by
  have hm' : s' 0 = nI m := by rw [h 0 (by decide), hm]
  rcases pk_ix x (n := m) (by omega) with q | q | ⟨c, hc, rfl⟩
  · rw [hb_out hm (Or.inl q), hb_out hm' (Or.inl q)]
  · rw [hb_out hm (Or.inr q), hb_out hm' (Or.inr q)]
  · rw [hb_in hm hm6 hc, hb_in hm' hm6 hc]
    have e : ∀ k, k < 5 → row5 s' (7 + 5 * c) k = row5 s (7 + 5 * c) k := fun k hk => h _ (by omega)
    unfold holyF dateF monthF runsF newF lenF
    rw [e 0 (by decide), e 1 (by decide), e 2 (by decide), e 3 (by decide), e 4 (by decide)]
/-! the model's helps, bathes -/
section Mod2
variable {u : Uw} {q : Nat}
theorem p_spot (hq : q < 8) {k : Nat} (hk : k < 3) {x : Int32} (hx : x = nI k) : f_X6_spot (nI q) x u = some (nI (37 + 3 * q + k), u) := by
  subst hx
  unfold f_X6_spot
  rw [ix3]
theorem p_isOf (hq : q < 8) {k : Nat} (hk : k < 3) {x : Int32} (hx : x = nI k) : f_X6_isOf (nI q) x u = some (u.1 20 (37 + 3 * q + k), u) := by
  unfold f_X6_isOf
  rw [p_spot hq hk hx, bd_eq, ck_pos (inb_nI (by omega) (by decide)), nm_eq, nI_clamp (by omega)]
theorem p_helps (hq : q < 8) {i w : Nat} (hi : i ≤ 99) (hw : w ≤ 50) (ei : u.1 20 (37 + 3 * q) = nI i) (ew : u.1 20 3 = nI w) (g : Bool) : f_X6_helps (nI q) (bI g) u = some ((), sR u 20 (upd (u.1 20) (37 + 3 * q) (nI (watN i g w)))) := by
  unfold f_X6_helps
  rw [p_isOf hq (show 0 < 3 by decide) (x := (0 : Int32)) rfl, bd_eq]
  simp only [tn3, nm_eq, p_spot hq (show 0 < 3 by decide) (x := (0 : Int32)) rfl, bd_eq, Nat.add_zero, ei, ew, ck_pos (inb_nI (show 37 + 3 * q < 61 by omega) (by decide)), nI_clamp (show 37 + 3 * q < 2 ^ 31 by omega), w1_sR]
  cases g with
  | true =>
    rw [if_neg (show ¬ bI true = 0 by decide), ← wat_mod hi hw]
    split
    · split <;> rfl
    · rfl
  | false =>
    rw [if_pos (show bI false = 0 from rfl), ← wat_mod2 hi hw]
    split
    · split <;> rfl
    · rfl
theorem p_bathes (hq : q < 8) {m p w : Nat} (h : GdW (u.1 20) m p w) (hqp : q < p) : f_X6_bathes (nI q) u = some ((), sR u 20 (setT (u.1 20) (37 + 3 * q) (bathT (getT (u.1 20) (37 + 3 * q)) (hb (u.1 20) (u.1 20 4) (u.1 20 2)) (u.1 20 3)))) := by
  have hl := h.len
  obtain ⟨hm, hm6, hp, hp8, ew, hw, -, -, -, hps⟩ := h
  obtain ⟨⟨i, hi, ei⟩, -, ⟨b, hb', eb⟩⟩ := hps q hqp
  have ei' : u.1 20 (37 + 3 * q) = nI i := ei
  have eb' : u.1 20 (37 + 3 * q + 2) = nI b := eb
  unfold f_X6_bathes
  rw [tn4, tn2, nm_eq, nm_eq, p_isHoly hm hm6 hl, bd_eq, p_helps hq hi hw.2 ei' ew, bd_eq, p_spot hq (show 2 < 3 by decide) (x := (2 : Int32)) rfl, bd_eq, ck_pos (inb_nI (by omega) (by decide)), nm_eq, p_isOf hq (show 2 < 3 by decide) (x := (2 : Int32)) rfl, bd_eq, nI_clamp (by omega), sR_same, upd_ne (by omega), eb']
  simp only [nm_eq, w1_sR, sR_sR, sR_same]
  have e2 : bathT (getT (u.1 20) (37 + 3 * q)) (hb (u.1 20) (u.1 20 4) (u.1 20 2)) (u.1 20 3) = (nI (watN i (hb (u.1 20) (u.1 20 4) (u.1 20 2)) w), u.1 20 (37 + 3 * q + 1), nI (min 9999 (b + 1))) := by
    show (watI (u.1 20 (37 + 3 * q)) _ (u.1 20 3), u.1 20 (37 + 3 * q + 1), mnI 9999 (u.1 20 (37 + 3 * q + 2) + 1)) = _
    rw [ei', ew, wat_nat hi hw.2, eb']
    exact congrArg _ (congrArg _ (min_up (N := 9999) hb' (by decide)))
  have e3 : ∀ v, upd (upd (u.1 20) (37 + 3 * q) (nI (watN i (hb (u.1 20) (u.1 20 4) (u.1 20 2)) w))) (37 + 3 * q + 2) v = setT (u.1 20) (37 + 3 * q) (nI (watN i (hb (u.1 20) (u.1 20 4) (u.1 20 2)) w), u.1 20 (37 + 3 * q + 1), v) := by
    intro v
    unfold setT
    dsimp only
    congr 1
    funext k
    unfold upd
    split
    · rw [if_neg (by omega)]
    · split
      · rename_i z; rw [z]
      · rfl
  rw [e2, ← e3, ← min_mod (N := 9999) hb' (by decide), show (9999 : Int32) = nI 9999 from rfl]
  split <;> rfl
end Mod2
/-! a day -/
def pilsS (h : Int32 → Bool) (tr pw : Int32) : Nat → Nat → (Nat → Int32) → (Nat → Int32)
  | _, 0, s => s
  | q, j + 1, s => pilsS h tr pw (q + 1) j (setT s (37 + 3 * q) (passT (getT s (37 + 3 * q)) h tr pw))
def jugS (h : Int32 → Bool) (s : Nat → Int32) : Nat → Int32 := if s 2 - s 2 / 7 * 7 = 2 then (if h (s 4) = true then upd s 5 (mnI 99 (s 5 + 1)) else upd s 6 (mnI 99 (s 6 + 1))) else s
def endS (h : Int32 → Bool) (s : Nat → Int32) : Nat → Int32 := upd (jugS h s) 2 (s 2 + 1)
def dayS (s : Nat → Int32) : Nat → Int32 := endS (fun x => hb s x (s 2)) (pilsS (fun x => hb s x (s 2)) (s 4) (s 3) 0 (s 1).toNatClampNeg s)
theorem jugS_2 {h : Int32 → Bool} {s : Nat → Int32} : jugS h s 2 = s 2 := by
  unfold jugS
  split
  · split <;> exact upd_ne (by decide)
  · rfl
theorem pilsS_lo {h : Int32 → Bool} {tr pw : Int32} : ∀ (j q : Nat) (s : Nat → Int32) (k : Nat), k < 37 + 3 * q → pilsS h tr pw q j s k = s k := by
  intro j
  induction j with
  | zero => intro q s k _; rfl
  | succ j ih =>
    intro q s k hk
    rw [pilsS, ih (q + 1) _ k (by omega), setT_ne (Or.inl hk)]
section Day
variable {r : Nat} {u : Uw}
theorem p_drawJug (hr : r < 3) (g : Bool) {s : Nat → Int32} : f_X3_drawJug (23 * r) (bI g) (sR u r s) = some ((), sR u r (if g = true then upd s 5 (mnI 99 (s 5 + 1)) else upd s 6 (mnI 99 (s 6 + 1)))) := by
  unfold f_X3_drawJug
  rw [ck_pos (sp_t r hr), ck_pos (sp_t r hr), sp_r r hr, sp_o r hr]
  cases g with
  | true => rw [if_neg (show ¬ bI true = 0 by decide), nm_eq, w1_sR, sR_sR, sR_same]; rfl
  | false => rw [if_pos (show bI false = 0 from rfl), nm_eq, w1_sR, sR_sR, sR_same]; rfl
theorem l_passDay (hr : r < 3) {p : Nat} (hp8 : p ≤ 8) (a : Int32) (tr pw : Int32) : ∀ (j q n : Nat) (s : Nat → Int32), q + j = p → j < n → s 1 = nI p → s 4 = tr → s 3 = pw → lp b_X3_passDay_11 n (23 * r, a, nI q, sR u r s) = some ((), sR u r (endS (isInB a) (pilsS (isInB a) tr pw q j s))) := by
  intro j
  induction j with
  | zero =>
    intro q n s h1 h2 hp h4 h3
    obtain ⟨n, rfl⟩ : ∃ k, n = k + 1 := ⟨n - 1, by omega⟩
    rw [lp_s]
    generalize lp b_X3_passDay_11 n = g
    unfold b_X3_passDay_11
    dsimp only
    rw [ck_pos (sp_t r hr), sp_r r hr, sp_o r hr, sR_same, hp, if_pos (nI_le (by omega) (by omega)), pilsS]
    simp only [p_isIn, bd_eq, p_drawJug hr, nm_eq, w1_sR, sR_sR, sR_same, Nat.zero_add]
    unfold endS jugS
    split
    · congr 4
      split
      · rw [upd_ne (by decide)]
      · rw [upd_ne (by decide)]
    · rfl
  | succ j ih =>
    intro q n s h1 h2 hp h4 h3
    obtain ⟨n, rfl⟩ : ∃ k, n = k + 1 := ⟨n - 1, by omega⟩
    have hq : q < p := by omega
    have ih2 := fun s' => ih (q + 1) n s' (by omega) (by omega)
    rw [lp_s]
    generalize lp b_X3_passDay_11 n = g at ih2 ⊢
    unfold b_X3_passDay_11
    dsimp only
    rw [ck_pos (sp_t r hr), sp_r r hr, sp_o r hr, sR_same, hp, if_neg (nI_ge hq (by omega)), ck_pos (sp_2 r hr), if_neg (show ¬ (8 : Int32) ≤ nI q from nI_ge (b := 8) (by omega) (by decide)), ck_pos (inb_nI (by omega) (by decide)), nm_eq, nI_clamp (by omega), pp_eq, ck_pos (pil_at hr (show q < 8 by omega)).1, p_passDay (pil_at hr (by omega)), bd_eq, nI_1, sR_sR, sR_same, Nat.zero_add, Nat.zero_add, h4, h3, pilsS]
    exact ih2 _ (by rw [setT_ne (by omega)]; exact hp) (by rw [setT_ne (by omega)]; exact h4) (by rw [setT_ne (by omega)]; exact h3)
theorem p_X3_passDay (hr : r < 3) {m p w : Nat} (h : GdW (u.1 r) m p w) : f_X3_passDay (23 * r) u = some ((), sR u r (dayS (u.1 r))) := by
  obtain ⟨hm, hm6, hp, hp8, -⟩ := h
  unfold f_X3_passDay dayS
  rw [ck_pos (sp_t r hr), sp_r r hr, sp_o r hr, Nat.zero_add, p_holySet hr hm hm6, bd_eq]
  have e : isInB (hset (u.1 r) (u.1 r 2)) = fun x => hb (u.1 r) x (u.1 r 2) := funext fun x => isIn_hset hm hm6 x _
  have h := l_passDay (u := u) hr hp8 (hset (u.1 r) (u.1 r 2)) (u.1 r 4) (u.1 r 3) p 0 2100 (u.1 r) (by omega) (by omega) hp rfl rfl
  rw [sR_self, e] at h
  rw [hp, nI_clamp (by omega)]
  exact h
end Day
/-- what a day keeps of the bounds, pilgrim by pilgrim -/
def PsAll (s : Nat → Int32) (m p : Nat) : Prop := ∀ q, q < p → Ps m (getT s (37 + 3 * q))
theorem PsAll.set {s : Nat → Int32} {m p q : Nat} {t : Tr} (h : PsAll s m p) (ht : Ps m t) : PsAll (setT s (37 + 3 * q) t) m p := by
  intro k hk
  by_cases e : k = q
  · subst e; rw [getT_set]; exact ht
  · have := h k hk
    have e2 : getT (setT s (37 + 3 * q) t) (37 + 3 * k) = getT s (37 + 3 * k) := by
      unfold getT
      rw [setT_ne (by omega), setT_ne (by omega), setT_ne (by omega)]
    rw [e2]; exact this
theorem GdW.lo {s s' : Nat → Int32} {m p w : Nat} (h : GdW s m p w) (hs : ∀ k, k < 37 → s' k = s k) (hp : PsAll s' m p) : GdW s' m p w := by
  obtain ⟨a1, a2, a3, a4, a5, a6, a7, a8, a9, a10⟩ := h
  refine ⟨by rw [hs 0 (by decide)]; exact a1, a2, by rw [hs 1 (by decide)]; exact a3, a4, by rw [hs 3 (by decide)]; exact a5, a6, by rw [hs 5 (by decide)]; exact a7, by rw [hs 6 (by decide)]; exact a8, fun c hc => ?_, hp⟩
  have e : ∀ k, k < 5 → row5 s' (7 + 5 * c) k = row5 s (7 + 5 * c) k := fun k hk => hs _ (by omega)
  have := a9 c hc
  unfold CalOk at this ⊢
  rw [e 0 (by decide), e 1 (by decide), e 2 (by decide), e 3 (by decide), e 4 (by decide)]
  exact this
theorem nI_nm1 {c : Nat} (hc : c < 2 ^ 31) : ¬ nI c = -1 := fun z => by
  have h5 : (nI c).toInt = (-1 : Int32).toInt := by rw [z]
  rw [nI_toInt hc] at h5
  have h6 : (-1 : Int32).toInt = -1 := rfl
  omega
section Day2
variable {u : Uw}
theorem l_day {m p w : Nat} {s0 : Nat → Int32} (h0 : GdW s0 m p w) : ∀ (j q n : Nat) (s : Nat → Int32), q + j = p → j < n → (∀ k, k < 37 → s k = s0 k) → PsAll s m p → lp b_X6_day_2 n (nI q, sR u 20 s) = some ((), sR u 20 (endS (fun x => hb s0 x (s0 2)) (pilsS (fun x => hb s0 x (s0 2)) (s0 4) (s0 3) q j s))) := by
  obtain ⟨hm, hm6, hp, hp8, ew, hw, ⟨g5, hg5, e5⟩, ⟨g6, hg6, e6⟩, -, -⟩ := id h0
  intro j
  induction j with
  | zero =>
    intro q n s h1 h2 hs hps
    have hG := h0.lo hs hps
    have hl := hG.len
    have hm' : s 0 = nI m := hG.1
    obtain ⟨n, rfl⟩ : ∃ k, n = k + 1 := ⟨n - 1, by omega⟩
    rw [lp_s]
    generalize lp b_X6_day_2 n = g
    unfold b_X6_day_2
    dsimp only
    rw [sR_same, tn1, tn2, tn4, tn5, tn6, nm_eq, hG.2.2.1, if_pos (nI_le (by omega) (by omega)), nm_eq, nm_eq, nm_eq, nm_eq, p_isHoly (u := sR u 20 s) (m := m) (by rw [sR_same]; exact hm') hm6 (by rw [sR_same]; exact hl), bd_eq, sR_same, pilsS]
    simp only [nm_eq, w1_sR, sR_sR, sR_same]
    unfold endS jugS
    rw [hb_congr hs hm hm6, hs 2 (by decide), hs 4 (by decide), hs 5 (by decide), hs 6 (by decide), e5, e6, show (99 : Int32) = nI 99 from rfl, min_up hg5 (by decide), min_up hg6 (by decide), ← min_mod (N := 99) hg5 (by decide), ← min_mod (N := 99) hg6 (by decide)]
    split
    · split
      · split
        · rw [upd_ne (show (2 : Nat) ≠ 5 by decide), hs 2 (by decide)]
        · rw [upd_ne (show (2 : Nat) ≠ 5 by decide), hs 2 (by decide)]
      · split
        · rw [upd_ne (show (2 : Nat) ≠ 6 by decide), hs 2 (by decide)]
        · rw [upd_ne (show (2 : Nat) ≠ 6 by decide), hs 2 (by decide)]
    · rfl
  | succ j ih =>
    intro q n s h1 h2 hs hps
    have hG := h0.lo hs hps
    have hl := hG.len
    have hm' : s 0 = nI m := hG.1
    obtain ⟨n, rfl⟩ : ∃ k, n = k + 1 := ⟨n - 1, by omega⟩
    have hq : q < p := by omega
    have hq8 : q < 8 := by omega
    have hPs := hps q hq
    have ih2 : Ps m (passT (getT s (37 + 3 * q)) (fun x => hb s0 x (s0 2)) (s0 4) (s0 3)) → _ := fun hx => ih (q + 1) n (setT s (37 + 3 * q) (passT (getT s (37 + 3 * q)) (fun x => hb s0 x (s0 2)) (s0 4) (s0 3))) (by omega) (by omega) (fun k hk => by rw [setT_ne (by omega)]; exact hs k hk) (hps.set hx)
    have ih3 := ih2 (by rw [ew]; exact pass_Ps hPs hw.2 _ _)
    clear ih2 ih
    rw [lp_s, pilsS, ← ih3]
    clear ih3
    generalize lp b_X6_day_2 n = g
    have hbt := p_bathes (u := sR u 20 s) (q := q) hq8 (m := m) (p := p) (w := w) (by rw [sR_same]; exact hG) hq
    rw [sR_same, sR_sR, hs 4 (by decide), hs 2 (by decide), hs 3 (by decide), hb_congr hs hm hm6] at hbt
    unfold b_X6_day_2
    dsimp only
    rw [sR_same, tn1, tn2, nm_eq, hG.2.2.1, if_neg (nI_ge hq (by omega)), p_isOf hq8 (show 1 < 3 by decide) (x := (1 : Int32)) rfl, bd_eq, p_isOf hq8 (show 0 < 3 by decide) (x := (0 : Int32)) rfl, bd_eq, nm_eq, p_isHoly (u := sR u 20 s) (m := m) (by rw [sR_same]; exact hm') hm6 (by rw [sR_same]; exact hl)]
    simp only [hbt, bd_eq]
    rw [sR_same, hs 2 (by decide), hb_congr hs hm hm6, nI_1]
    unfold passT
    rw [show (getT s (37 + 3 * q)).1 = s (37 + 3 * q + 0) from rfl, show (getT s (37 + 3 * q)).2.1 = s (37 + 3 * q + 1) from rfl]
    split
    · rw [setT_get]
    · rcases hPs.2.1 with e | ⟨c, hc, e⟩
      · have e' : s (37 + 3 * q + 1) = -1 := e
        rw [e', if_pos (by decide), if_pos rfl]
      · have e' : s (37 + 3 * q + 1) = nI c := e
        rw [e', if_neg (nI_pos (by omega)), if_neg (show ¬ nI c = -1 from nI_nm1 (by omega))]
        split
        · rfl
        · rw [setT_get]
theorem p_day {m p w : Nat} (h : GdW (u.1 20) m p w) : f_X6_day u = some ((), sR u 20 (dayS (u.1 20))) := by
  unfold f_X6_day dayS
  have h2 := l_day (u := u) h p 0 2100 (u.1 20) (by omega) (by have := h.2.2.2.1; omega) (fun _ _ => rfl) h.2.2.2.2.2.2.2.2.2
  rw [sR_self] at h2
  rw [h.2.2.1, nI_clamp (by have := h.2.2.2.1; omega)]
  exact h2
end Day2
