/-! PURE 29: read -/
def vC (e : Nat) : Int32 := nI e - 1
theorem vC_0 : (-1 : Int32) = vC 0 := by decide
theorem vC_s (e : Nat) : vC (e + 1) = nI e := nI_pred e
theorem vC_1 (e : Nat) : vC e + 1 = vC (e + 1) := by
  rw [vC_s]
  unfold vC
  rw [Int32.sub_eq_add_neg, Int32.add_assoc]
  exact Int32.add_zero _
theorem vC_lt {e m : Nat} (h : e ≤ m) (hm : m ≤ 6) : ¬ nI m ≤ vC e := by
  unfold vC
  rw [fa_le, nI_toInt (by omega), nI_m1 (by omega)]
  omega
theorem vC_ge {m : Nat} : nI m ≤ vC (m + 1) := by
  rw [vC_s]
  exact Int32.le_refl _
theorem vC_ok {e m : Nat} (h : e ≤ m) : vC e = -1 ∨ ∃ c, c < m ∧ vC e = nI c := by
  cases e with
  | zero => exact Or.inl vC_0.symm
  | succ e => exact Or.inr ⟨e, by omega, vC_s e⟩
def jsB (num : Nat → Int64) (H : Nat → Int32 → Bool) (tr pw : Int32) : Nat → Nat → Tr → Bool
  | 0, _, _ => true
  | j + 1, i, t => if num i = t.1.toInt64 then jsB num H tr pw j (i + 1) (passT t (H i) tr pw) else false
theorem jsB_congr {num num' : Nat → Int64} {H : Nat → Int32 → Bool} {tr pw : Int32} : ∀ (j i : Nat) (t : Tr), (∀ k, k < i + j → num k = num' k) → jsB num H tr pw j i t = jsB num' H tr pw j i t := by
  intro j
  induction j with
  | zero => intro i t _; rfl
  | succ j ih =>
    intro i t h
    rw [jsB, jsB, h i (by omega), ih (i + 1) _ (fun k hk => h k (by omega))]
theorem l_jsC {m n d a : Nat} {s : Nat → Int32} {tr : Int32} (ha : a < 4) (hn : n ≤ 40) (hm6 : m ≤ 6) (hm : s 0 = nI m) : ∀ (j i f : Nat) (u : Uw), u.1 0 = s → (∀ k, k < n → u.1 4 k = hset s (nI (d + k))) → u.1 (10 + a) 1 = nI n → i + j = n → j < f → ∃ z, lp b_X5_makesJustSo_20 f (73 + a, tr, nI i, u) = some (jsB (u.2 (10 + a)) (HF s d) tr (s 3) j i (getT (u.1 5) 0), sR u 5 z) := by
  intro j
  induction j with
  | zero =>
    intro i f u hs h4 hz h1 h3
    obtain ⟨f, rfl⟩ : ∃ k, f = k + 1 := ⟨f - 1, by omega⟩
    refine ⟨u.1 5, ?_⟩
    rw [lp_s]
    generalize lp b_X5_makesJustSo_20 f = g
    unfold b_X5_makesJustSo_20
    dsimp only
    rw [ck_pos (sh_t a ha), sh_r a ha, sh_o a ha, Nat.zero_add, hz, if_pos (nI_le (by omega) (by omega)), sR_self, jsB]
  | succ j ih =>
    intro i f u hs h4 hz h1 h3
    obtain ⟨f, rfl⟩ : ∃ k, f = k + 1 := ⟨f - 1, by omega⟩
    have eH : isInB (hset s (nI (d + i))) = HF s d i := funext fun x => isIn_hset hm hm6 x _
    have hN := p_numberAt (i := i) ha hn (by omega) hz
    have hD := p_passDay (u := u) pil_83 (hset s (nI (d + i))) tr (s 3)
    rw [eH] at hD
    obtain ⟨z, hz2⟩ := ih (i + 1) f (sR u 5 (setT (u.1 5) 0 (passT (getT (u.1 5) 0) (HF s d i) tr (s 3)))) (by rw [sR_ne (by decide)]; exact hs) (fun k hk => by rw [sR_ne (by decide)]; exact h4 k hk) (by rw [sR_ne (by omega)]; exact hz) (by omega) (by omega)
    rw [sR_same, getT_set, sR_sR, sR_2] at hz2
    rw [lp_s]
    generalize lp b_X5_makesJustSo_20 f = g at hz2 ⊢
    unfold b_X5_makesJustSo_20
    dsimp only
    rw [ck_pos (sh_t a ha), sh_r a ha, sh_o a ha, Nat.zero_add, hz, if_neg (nI_ge (by omega) (by omega)), if_neg (show ¬ (400 : Int32) ≤ nI i from nI_ge (b := 400) (by omega) (by decide)), hN, bd_eq, ck_pos (inb_nI (show i < 400 by omega) (by decide)), nm_eq, nI_clamp (by omega), h4 i (by omega), hs, hD, bd_eq, nI_1, jsB]
    by_cases hx : u.2 (10 + a) i = (u.1 5 0).toInt64
    · rw [if_pos ((lg_cmp_eq _ _).mpr hx), if_pos (show u.2 (10 + a) i = (getT (u.1 5) 0).1.toInt64 from hx)]
      exact ⟨z, hz2⟩
    · rw [if_neg (fun q => hx ((lg_cmp_eq _ _).mp q)), if_neg (show ¬ u.2 (10 + a) i = (getT (u.1 5) 0).1.toInt64 from hx)]
      exact ⟨u.1 5, by rw [sR_self]⟩
/-- just so, with this truth and this trust -/
def JS (num : Nat → Int64) (s : Nat → Int32) (d n q : Nat) (tr x : Int32) : Bool := jsB num (HF s d) tr (s 3) n 0 (s (37 + 3 * q), x, s (37 + 3 * q + 2))
theorem p_jsC {m n d a q : Nat} {s : Nat → Int32} (ha : a < 4) (hn : n ≤ 40) (hm6 : m ≤ 6) (hm : s 0 = nI m) (hq : q < 8) (tr x : Int32) {u : Uw} (hs : u.1 0 = s) (h4 : ∀ k, k < n → u.1 4 k = hset s (nI (d + k))) (hz : u.1 (10 + a) 1 = nI n) : ∃ z, f_X5_makesJustSo (73 + a) (pp 0 q) tr x u = some (JS (u.2 (10 + a)) s d n q tr x, sR u 5 z) := by
  have er : upd (setT (u.1 5) 0 (getT (u.1 0) (37 + 3 * q))) 1 x = setT (u.1 5) 0 (s (37 + 3 * q), x, s (37 + 3 * q + 2)) := by
    rw [hs]
    unfold setT getT
    funext k
    simp only [upd]
    by_cases k1 : k = 1
    · subst k1; rfl
    · rw [if_neg k1]
      by_cases k2 : k = 0 + 2
      · rw [if_pos k2, if_pos k2]
      · rw [if_neg k2, if_neg k2, if_neg (show ¬ k = 0 + 1 by omega), if_neg (show ¬ k = 0 + 1 by omega)]
  obtain ⟨z, h⟩ := l_jsC (d := d) (tr := tr) ha hn hm6 hm n 0 2100 (sR u 5 (setT (u.1 5) 0 (s (37 + 3 * q), x, s (37 + 3 * q + 2)))) (by rw [sR_ne (by decide)]; exact hs) (fun k hk => by rw [sR_ne (by decide)]; exact h4 k hk) (by rw [sR_ne (by omega)]; exact hz) (by omega) (by omega)
  refine ⟨z, ?_⟩
  unfold f_X5_makesJustSo JS
  rw [p_X1_copy pil_83 (q_pil hq) (by decide), bd_eq, nm_eq, w1_sR, sR_same, sR_sR, er]
  rw [sR_same, getT_set, sR_sR, sR_2] at h
  exact h
theorem l_jsM {m p w n d a q : Nat} {s : Nat → Int32} (ha : a < 4) (hn : n ≤ 40) (hq : q < p) (hG : GdW s m p w) (h2 : s 2 = nI d) : ∀ (j i f : Nat) (u : Uw), u.1 20 = itS i s → u.1 28 a = nI n → i + j = n → j < f → ∃ k, lp b_X6_isBook_2 f (nI a, nI q, nI i, u) = some (jsB (fun k => u.2 29 (40 * a + k)) (HF s d) (s 4) (s 3) j i (getT (itS i s) (37 + 3 * q)), sR u 20 (itS k s)) := by
  have hp8 := hG.2.2.2.1
  intro j
  induction j with
  | zero =>
    intro i f u hs hz h1 h3
    obtain ⟨f, rfl⟩ : ∃ k, f = k + 1 := ⟨f - 1, by omega⟩
    refine ⟨i, ?_⟩
    rw [lp_s]
    generalize lp b_X6_isBook_2 f = g
    unfold b_X6_isBook_2
    dsimp only
    rw [ck_pos (inb_nI ha (by decide)), nm_eq, nI_clamp (by omega), hz, if_pos (nI_le (by omega) (by omega)), ← hs, sR_self, jsB]
  | succ j ih =>
    intro i f u hs hz h1 h3
    obtain ⟨f, rfl⟩ : ∃ k, f = k + 1 := ⟨f - 1, by omega⟩
    have hD := p_day (u := u) (m := m) (p := p) (w := w) (by rw [hs]; exact GdW.it i hG)
    rw [hs, ← it_succ] at hD
    obtain ⟨k, hk⟩ := ih (i + 1) f (sR u 20 (itS (i + 1) s)) (by rw [sR_same]) (by rw [sR_ne (by decide)]; exact hz) (by omega) (by omega)
    rw [it_pass hq hG h2, sR_sR, sR_2] at hk
    rw [lp_s]
    generalize lp b_X6_isBook_2 f = g at hk ⊢
    unfold b_X6_isBook_2
    dsimp only
    rw [ck_pos (inb_nI ha (by decide)), nm_eq, nI_clamp (show a < 2 ^ 31 by omega), hz, if_neg (nI_ge (by omega) (by omega)), ix160, ck_pos (inb_nI (show 40 * a + i < 160 by omega) (by decide)), nm_eq, nI_clamp (show 40 * a + i < 2 ^ 31 by omega), p_isOf (show q < 8 by omega) (show 0 < 3 by decide) (x := (0 : Int32)) rfl, bd_eq, hD, bd_eq, nI_1, hs, Nat.add_zero, jsB]
    by_cases hx : u.2 29 (40 * a + i) = (itS i s (37 + 3 * q)).toInt64
    · rw [if_pos ((lg_cmp_eq _ _).mpr hx), if_pos (show u.2 29 (40 * a + i) = (getT (itS i s) (37 + 3 * q)).1.toInt64 from hx)]
      exact ⟨k, hk⟩
    · rw [if_neg (fun q => hx ((lg_cmp_eq _ _).mp q)), if_neg (show ¬ u.2 29 (40 * a + i) = (getT (itS i s) (37 + 3 * q)).1.toInt64 from hx)]
      exact ⟨i, by rw [← hs, sR_self]⟩
theorem p_jsM {m p w n d a q : Nat} {s : Nat → Int32} (ha : a < 4) (hn : n ≤ 40) (hq : q < p) (hG : GdW s m p w) (h2 : s 2 = nI d) (tr : Int32) {x : Int32} (hx : x = -1 ∨ ∃ c, c < m ∧ x = nI c) {v : Uw} (hz : v.1 28 a = nI n) : ∃ z, (∀ k, 61 ≤ k → z k = s k) ∧ f_X6_isBook (nI a) (nI q) (sR v 20 (upd (upd s 4 tr) (37 + 3 * q + 1) x)) = some (JS (fun k => v.2 29 (40 * a + k)) s d n q tr x, sR v 20 z) := by
  have hp8 := hG.2.2.2.1
  have hG1 := hG.sc (Or.inr rfl : (4 : Nat) = 2 ∨ (4 : Nat) = 4) tr
  have hG' : GdW (upd (upd s 4 tr) (37 + 3 * q + 1) x) m p w := by
    rw [set_trust]
    have hps := hG1.2.2.2.2.2.2.2.2.2 q hq
    exact hG1.setT ⟨hps.1, hx, hps.2.2⟩
  obtain ⟨k, h⟩ := l_jsM (d := d) ha hn hq hG' (by rw [upd_ne (by omega), upd_ne (by omega)]; exact h2) n 0 2100 (sR v 20 (upd (upd s 4 tr) (37 + 3 * q + 1) x)) (by rw [sR_same]; rfl) (by rw [sR_ne (by decide)]; exact hz) (by omega) (by omega)
  refine ⟨itS k (upd (upd s 4 tr) (37 + 3 * q + 1) x), fun j hj => by rw [it_hi k _ hG' j hj, upd_ne (by omega), upd_ne (by omega)], ?_⟩
  have eH : HF (upd (upd s 4 tr) (37 + 3 * q + 1) x) d = HF s d := by
    unfold HF
    funext i y
    rw [hb_trust hG1]
    exact hb_cal (s := s) (s' := upd s 4 tr) (fun j hj => upd_ne (by omega)) hG.1 hG.2.1 y _
  have eG : getT (itS 0 (upd (upd s 4 tr) (37 + 3 * q + 1) x)) (37 + 3 * q) = (s (37 + 3 * q), x, s (37 + 3 * q + 2)) := by
    rw [itS]
    unfold getT
    rw [upd_ne (show 37 + 3 * q ≠ 37 + 3 * q + 1 by omega), upd_at, upd_ne (show 37 + 3 * q + 2 ≠ 37 + 3 * q + 1 by omega), upd_ne (by omega), upd_ne (by omega)]
  rw [eH, eG, upd_ne (show 4 ≠ 37 + 3 * q + 1 by omega), upd_at, upd_ne (show 3 ≠ 37 + 3 * q + 1 by omega), upd_ne (show 3 ≠ 4 by decide), sR_sR, sR_2] at h
  unfold f_X6_isBook JS
  exact h
def rdI (J : Int32 → Bool) : Nat → Nat → Int32 → Int32
  | 0, _, acc => acc
  | j + 1, e, acc => rdI J j (e + 1) (if J (vC e) = true then acc + 1 else acc)
def rdO (J : Int32 → Int32 → Bool) (m : Nat) : Nat → Nat → Int32 → Int32
  | 0, _, acc => acc
  | j + 1, t, acc => rdO J m j (t + 1) (rdI (J (nI t)) (m + 1) 0 acc)
theorem l_rdC1 {m n d a q t : Nat} {s : Nat → Int32} {num : Nat → Int64} (ha : a < 4) (hn : n ≤ 40) (hm6 : m ≤ 6) (hm : s 0 = nI m) (hq : q < 8) (g : Nat × Nat × Int32 × Int32 × Uw → Option (Int32 × Uw)) : ∀ (j e f : Nat) (acc : Int32) (u : Uw), u.1 0 = s → (∀ k, k < n → u.1 4 k = hset s (nI (d + k))) → u.1 (10 + a) 1 = nI n → u.2 (10 + a) = num → e + j = m + 1 → j < f → ∃ z, lp (b_X5_read_82 g) f (73 + a, pp 0 q, acc, nI t, vC e, u) = g (73 + a, pp 0 q, rdI (JS num s d n q (nI t)) j e acc, nI (t + 1), sR u 5 z) := by
  intro j
  induction j with
  | zero =>
    intro e f acc u hs h4 hz hu h1 h3
    obtain ⟨f, rfl⟩ : ∃ k, f = k + 1 := ⟨f - 1, by omega⟩
    refine ⟨u.1 5, ?_⟩
    have ee : e = m + 1 := by omega
    subst ee
    rw [lp_s]
    generalize lp (b_X5_read_82 g) f = g2
    unfold b_X5_read_82
    dsimp only
    rw [hs, hm, if_pos vC_ge, nI_1, sR_self, rdI]
  | succ j ih =>
    intro e f acc u hs h4 hz hu h1 h3
    obtain ⟨f, rfl⟩ : ∃ k, f = k + 1 := ⟨f - 1, by omega⟩
    obtain ⟨z, hJ⟩ := p_jsC (d := d) ha hn hm6 hm hq (nI t) (vC e) hs h4 hz
    rw [hu] at hJ
    have ih2 := fun acc' => ih (e + 1) f acc' (sR u 5 z) (by rw [sR_ne (by decide)]; exact hs) (fun k hk => by rw [sR_ne (by decide)]; exact h4 k hk) (by rw [sR_ne (by omega)]; exact hz) hu (by omega) (by omega)
    rw [lp_s]
    generalize lp (b_X5_read_82 g) f = g2 at ih2 ⊢
    unfold b_X5_read_82
    dsimp only
    rw [hs, hm, if_neg (vC_lt (by omega) hm6), hJ, bd_eq, vC_1, rdI]
    split
    · obtain ⟨z', h⟩ := ih2 (acc + 1)
      rw [sR_sR] at h
      exact ⟨z', h⟩
    · obtain ⟨z', h⟩ := ih2 acc
      rw [sR_sR] at h
      exact ⟨z', h⟩
theorem l_rdC {m n d a q : Nat} {s : Nat → Int32} {num : Nat → Int64} (ha : a < 4) (hn : n ≤ 40) (hm6 : m ≤ 6) (hm : s 0 = nI m) (hq : q < 8) : ∀ (j t f : Nat) (acc : Int32) (u : Uw), u.1 0 = s → (∀ k, k < n → u.1 4 k = hset s (nI (d + k))) → u.1 (10 + a) 1 = nI n → u.2 (10 + a) = num → t + j = m → j < f → ∃ z, lp b_X5_read_67 f (73 + a, pp 0 q, acc, nI t, u) = some (rdO (JS num s d n q) m j t acc, sR u 5 z) := by
  intro j
  induction j with
  | zero =>
    intro t f acc u hs h4 hz hu h1 h3
    obtain ⟨f, rfl⟩ : ∃ k, f = k + 1 := ⟨f - 1, by omega⟩
    refine ⟨u.1 5, ?_⟩
    rw [lp_s]
    generalize lp b_X5_read_67 f = g
    unfold b_X5_read_67
    dsimp only
    rw [hs, hm, if_pos (nI_le (by omega) (by omega)), sR_self, rdO]
  | succ j ih =>
    intro t f acc u hs h4 hz hu h1 h3
    obtain ⟨f, rfl⟩ : ∃ k, f = k + 1 := ⟨f - 1, by omega⟩
    obtain ⟨z, hI⟩ := l_rdC1 (t := t) (d := d) ha hn hm6 hm hq (lp b_X5_read_67 f) (m + 1) 0 2100 acc u hs h4 hz hu (by omega) (by omega)
    obtain ⟨z', h⟩ := ih (t + 1) f (rdI (JS num s d n q (nI t)) (m + 1) 0 acc) (sR u 5 z) (by rw [sR_ne (by decide)]; exact hs) (fun k hk => by rw [sR_ne (by decide)]; exact h4 k hk) (by rw [sR_ne (by omega)]; exact hz) hu (by omega) (by omega)
    rw [sR_sR] at h
    refine ⟨z', ?_⟩
    rw [lp_s]
    generalize lp b_X5_read_67 f = g at hI h ⊢
    unfold b_X5_read_67
    dsimp only
    rw [hs, hm, if_neg (nI_ge (by omega) (by omega)), vC_0, hI, h, rdO]
theorem l_rdM1 {m p w n d a q t : Nat} {u : Uw} {num : Nat → Int64} (ha : a < 4) (hn : n ≤ 40) (hq : q < p) (hG : GdW (u.1 20) m p w) (h2 : u.1 20 2 = nI d) (hz : u.1 28 a = nI n) (hu : (fun k => u.2 29 (40 * a + k)) = num) (g : Int32 × Int32 × Int32 × Int32 × Uw → Option (Int32 × Uw)) : ∀ (j e f : Nat) (acc : Int32), e + j = m + 1 → j < f → lp (b_X6_read_41 g) f (nI a, nI q, acc, nI t, vC e, asU u) = g (nI a, nI q, rdI (JS num (u.1 20) d n q (nI t)) j e acc, nI (t + 1), asU u) := by
  have hm6 := hG.2.1
  have hp8 := hG.2.2.2.1
  intro j
  induction j with
  | zero =>
    intro e f acc h1 h3
    obtain ⟨f, rfl⟩ : ∃ k, f = k + 1 := ⟨f - 1, by omega⟩
    have ee : e = m + 1 := by omega
    subst ee
    rw [lp_s]
    generalize lp (b_X6_read_41 g) f = g2
    unfold b_X6_read_41
    dsimp only
    rw [tn0, nm_eq, asU_20, hG.1, if_pos vC_ge, nI_1, rdI]
  | succ j ih =>
    intro e f acc h1 h3
    obtain ⟨f, rfl⟩ : ∃ k, f = k + 1 := ⟨f - 1, by omega⟩
    obtain ⟨z, hzk, hJ⟩ := p_jsM (d := d) (s := u.1 20) (v := asU u) ha hn hq hG h2 (nI t) (vC_ok (e := e) (m := m) (by omega)) (show (asU u).1 28 a = nI n from hz)
    rw [show (fun k => (asU u).2 29 (40 * a + k)) = num from hu] at hJ
    have hB := fun x => p_back (u := u) (s' := z) hzk x
    have ih2 := fun acc' => ih (e + 1) f acc' (by omega) (by omega)
    have hw1 : w1 (asU u) 20 4 (nI t) = sR (asU u) 20 (upd (u.1 20) 4 (nI t)) := by rw [w1_sR, asU_20]
    have hw2 : w1 (sR (asU u) 20 (upd (u.1 20) 4 (nI t))) 20 (37 + 3 * q + 1) (vC e) = sR (asU u) 20 (upd (upd (u.1 20) 4 (nI t)) (37 + 3 * q + 1) (vC e)) := by rw [w1_sR, sR_same, sR_sR]
    rw [lp_s]
    generalize lp (b_X6_read_41 g) f = g2 at ih2 ⊢
    unfold b_X6_read_41
    dsimp only
    rw [tn0, tn4, nm_eq, asU_20, hG.1, if_neg (vC_lt (by omega) hm6), nm_eq, hw1, p_spot (show q < 8 by omega) (show 1 < 3 by decide) (x := (1 : Int32)) rfl, bd_eq, ck_pos (inb_nI (show 37 + 3 * q + 1 < 61 by omega) (by decide)), nm_eq, nI_clamp (show 37 + 3 * q + 1 < 2 ^ 31 by omega), hw2, hJ, bd_eq, vC_1]
    rw [show f_X6_takesBack (acc + 1) (sR (asU u) 20 z) = some (acc + 1, asU u) from hB _, show f_X6_takesBack (acc + 0) (sR (asU u) 20 z) = some (acc + 0, asU u) from hB _, bd_eq, bd_eq, Int32.add_zero, ih2, ih2, rdI]
    split <;> rfl
theorem l_rdM {m p w n d a q : Nat} {u : Uw} {num : Nat → Int64} (ha : a < 4) (hn : n ≤ 40) (hq : q < p) (hG : GdW (u.1 20) m p w) (h2 : u.1 20 2 = nI d) (hz : u.1 28 a = nI n) (hu : (fun k => u.2 29 (40 * a + k)) = num) : ∀ (j t f : Nat) (acc : Int32), t + j = m → j < f → lp b_X6_read_27 f (nI a, nI q, acc, nI t, asU u) = some (rdO (JS num (u.1 20) d n q) m j t acc, asU u) := by
  have hm6 := hG.2.1
  intro j
  induction j with
  | zero =>
    intro t f acc h1 h3
    obtain ⟨f, rfl⟩ : ∃ k, f = k + 1 := ⟨f - 1, by omega⟩
    rw [lp_s]
    generalize lp b_X6_read_27 f = g
    unfold b_X6_read_27
    dsimp only
    rw [tn0, nm_eq, asU_20, hG.1, if_pos (nI_le (by omega) (by omega)), rdO]
  | succ j ih =>
    intro t f acc h1 h3
    obtain ⟨f, rfl⟩ : ∃ k, f = k + 1 := ⟨f - 1, by omega⟩
    have hI := l_rdM1 (t := t) ha hn hq hG h2 hz hu (lp b_X6_read_27 f) (m + 1) 0 2100 acc (by omega) (by omega)
    have ih2 := ih (t + 1) f (rdI (JS num (u.1 20) d n q (nI t)) (m + 1) 0 acc) (by omega) (by omega)
    rw [lp_s]
    generalize lp b_X6_read_27 f = g at hI ih2 ⊢
    unfold b_X6_read_27
    dsimp only
    rw [tn0, nm_eq, asU_20, hG.1, if_neg (nI_ge (by omega) (by omega)), vC_0, hI, ih2, rdO]
theorem JS_congr {num num' : Nat → Int64} {s : Nat → Int32} {d n q : Nat} (h : ∀ k, k < n → num k = num' k) : JS num s d n q = JS num' s d n q := by
  funext tr x
  exact jsB_congr n 0 _ (fun k hk => h k (by omega))
theorem st_read (a1 a2 : Int32) : StepT Rel (fun u => f_X5_read a1 a2 u) (fun u => f_X6_read a1 a2 u) := by
  intro u hu
  obtain ⟨e0, ⟨m, p, w, d, t, hG, h2, hd, h4, ht⟩, -, -, -, hS⟩ := id hu
  obtain ⟨hm, hm6, hp, hp8, ew, hw, -, -, -, hps⟩ := id hG
  have hm0 : u.1 0 0 = nI m := by rw [e0]; exact hm
  have h20 : u.1 0 2 = nI d := by rw [e0]; exact h2
  have hp0 : u.1 0 1 = nI p := by rw [e0]; exact hp
  have out1 : (a1 < 0 ∨ nI 4 ≤ a1) → ∃ r u1 u2, f_X5_read a1 a2 u = some (r, u1) ∧ f_X6_read a1 a2 u1 = some (r, u2) ∧ Rel u2 := fun h => by
    refine ⟨-1000000001, fdC u 0, fdM (fdC u 0) 0, ?_, ?_, hu.fd (by decide)⟩
    · unfold f_X5_read
      rw [p_sheetAt_out h, bd_eq, ro_none, c0, bd_eq]
    · unfold f_X6_read
      rw [p_wb_out h, bd_eq, if_neg (by decide), m0, bd_eq]
  rcases pk_ix a1 (n := 4) (by omega) with h | h | ⟨a, ha, rfl⟩
  · exact out1 (Or.inl h)
  · exact out1 (Or.inr h)
  obtain ⟨s1, s2, s3, ⟨n, hn, sn⟩, s5⟩ := hS a ha
  by_cases hb : u.1 27 a = 0
  · refine ⟨-1000000006, fdC u 5, fdM (fdC u 5) 5, ?_, ?_, hu.fd (by decide)⟩
    · show f_X5_read (nI a) a2 u = _
      unfold f_X5_read
      rw [p_sheetAt_in ha, bd_eq, ro_some, ck_pos (sh_t a ha), p_isMissing ha, s1, decide_eq_true hb, bd_eq, if_pos rfl, c5, bd_eq]
    · show f_X6_read (nI a) a2 _ = _
      unfold f_X6_read
      rw [p_wb_0 ha (by rw [fd_27]; exact hb), bd_eq, if_neg (by decide), m5, bd_eq]
  have out2 : (a2 < 0 ∨ nI p ≤ a2) → ∃ r u1 u2, f_X5_read (nI a) a2 u = some (r, u1) ∧ f_X6_read (nI a) a2 u1 = some (r, u2) ∧ Rel u2 := fun h => by
    refine ⟨-1000000001, fdC u 0, fdM (fdC u 0) 0, ?_, ?_, hu.fd (by decide)⟩
    · unfold f_X5_read
      rw [p_sheetAt_in ha, bd_eq, ro_some, ck_pos (sh_t a ha), p_isMissing ha, s1, decide_eq_false hb, bd_eq, if_neg (by decide), q_pilAt_out hp0 h, bd_eq, ro_none, c0, bd_eq]
    · unfold f_X6_read
      rw [p_wb_p ha (by rw [fd_27]; exact hb) (by rw [fd_20]; exact hp) hp8 h, bd_eq, if_neg (by decide), m0, bd_eq]
  rcases pk_ix a2 (n := p) (by omega) with h | h | ⟨q, hq, rfl⟩
  · exact out2 (Or.inl h)
  · exact out2 (Or.inr h)
  have hq8 : q < 8 := by omega
  have hne4 : 10 + a ≠ 4 := by omega
  obtain ⟨z, hC⟩ := l_rdC (s := u.1 20) (num := u.2 (10 + a)) (d := d) ha hn hm6 hm hq8 m 0 2100 0 (sR u 4 (cpF (u.1 4) (ahF (u.1 0) d) 0 n)) (by rw [sR_ne (by decide)]; exact e0) (fun k hk => by rw [sR_same, cpF_in hk, e0]; rfl) (by rw [sR_ne hne4]; exact s2.trans sn) rfl (by omega) (by omega)
  have hF : Fr [2, 4, 5, 6] u (sR (sR u 4 (cpF (u.1 4) (ahF (u.1 0) d) 0 n)) 5 z) := (Fr.sR (by decide)).tr (Fr.sR (by decide))
  generalize sR (sR u 4 (cpF (u.1 4) (ahF (u.1 0) d) 0 n)) 5 z = v at hC hF
  have hv : Rel v := hu.fr (fun r hr => by simp at hr; omega) hF
  have e20 : v.1 20 = u.1 20 := hF.1 20 (by decide)
  have e27 : v.1 27 = u.1 27 := hF.1 27 (by decide)
  have e28 : v.1 28 = u.1 28 := hF.1 28 (by decide)
  have hM := l_rdM (num := fun k => u.2 29 (40 * a + k)) (u := v) (d := d) ha hn hq (by rw [e20]; exact hG) (by rw [e20]; exact h2) (by rw [e28]; exact sn) (by rw [hF.2]) m 0 2100 0 (by omega) (by omega)
  rw [e20, ← JS_congr (num := u.2 (10 + a)) (fun k hk => s5 k (by omega))] at hM
  refine ⟨rdO (JS (u.2 (10 + a)) (u.1 20) d n q) m m 0 0, v, asU v, ?_, ?_, ?_⟩
  · show f_X5_read (nI a) (nI q) u = _
    unfold f_X5_read
    rw [p_sheetAt_in ha, bd_eq, ro_some, ck_pos (sh_t a ha), p_isMissing ha, s1, decide_eq_false hb, bd_eq, if_neg (by decide), q_pilAt_in hp0 hp8 hq, bd_eq, ro_some, sh_r a ha, sh_o a ha, Nat.zero_add, s2, sn, p_look (by omega) hd hm6 hm0 h20, bd_eq]
    exact hC
  · show f_X6_read (nI a) (nI q) v = _
    unfold f_X6_read
    rw [p_wb_n ha (by rw [e27]; exact hb) (by rw [e20]; exact hp) hp8 hq, bd_eq, if_pos rfl, p_aside, bd_eq]
    exact hM
  · exact hv.fr (L := [23]) (fun r hr => by simp at hr; omega) (Fr.sR (by decide))
