/-! PURE 2: a spring's calendars, the set of those by which a day is holy; pilgrims; a day -/
/-- a row of ints in place of another -/
def sR (u : Uw) (r : Nat) (s : Nat → Int32) : Uw := (fun a b => if a = r then s b else u.1 a b, u.2)
theorem sR_same {u : Uw} {r : Nat} {s : Nat → Int32} : (sR u r s).1 r = s := by
  funext b
  exact if_pos rfl
theorem sR_ne {u : Uw} {r a : Nat} {s : Nat → Int32} (h : a ≠ r) : (sR u r s).1 a = u.1 a := by
  funext b
  exact if_neg h
theorem sR_2 {u : Uw} {r : Nat} {s : Nat → Int32} : (sR u r s).2 = u.2 := rfl
theorem sR_sR {u : Uw} {r : Nat} {s s' : Nat → Int32} : sR (sR u r s) r s' = sR u r s' := by
  unfold sR
  simp only [Prod.mk.injEq, and_true]
  funext a b
  by_cases h : a = r <;> simp [h]
theorem sR_self {u : Uw} {r : Nat} : sR u r (u.1 r) = u := by
  unfold sR
  obtain ⟨f, g⟩ := u
  simp only [Prod.mk.injEq, and_true]
  funext a b
  by_cases h : a = r <;> simp [h]
theorem w1_sR {u : Uw} {r k : Nat} {x : Int32} : w1 u r k x = sR u r (upd (u.1 r) k x) := by
  unfold w1 sR upd
  simp only [Prod.mk.injEq, and_true]
  funext a b
  by_cases h : a = r <;> by_cases h2 : b = k <;> simp [h, h2]
theorem upd_upd {f : Nat → Int32} {k : Nat} {x y : Int32} : upd (upd f k x) k y = upd f k y := by
  funext j
  unfold upd
  split <;> simp_all
theorem upd_at {f : Nat → Int32} {k : Nat} {x : Int32} : upd f k x k = x := if_pos rfl
theorem upd_ne {f : Nat → Int32} {k j : Nat} {x : Int32} (h : j ≠ k) : upd f k x j = f j := if_neg h
theorem upd_self {f : Nat → Int32} {k : Nat} : upd f k (f k) = f := by
  funext j
  unfold upd
  split
  · rename_i h; rw [h]
  · rfl
section Spring
variable {r : Nat} {u : Uw} {m : Nat}
theorem p_calAt_in (hr : r < 3) (hm : u.1 r 0 = nI m) (hm6 : m ≤ 6) {c : Nat} (hc : c < m) : f_X3_calendarAt (23 * r) (nI c) u = some (some (cc r c), u) := by
  unfold f_X3_calendarAt
  rw [if_neg (nI_pos (by omega)), ck_pos (sp_t r hr), sp_r r hr, sp_o r hr, hm, if_neg (nI_ge hc (by omega)), ck_pos (sp_1 r hr), if_neg (show ¬ (6 : Int32) ≤ nI c from nI_ge (b := 6) (by omega) (by decide)), ck_pos (inb_nI (by omega) (by decide)), nm_eq, nI_clamp (by omega), cc_eq]
theorem p_calAt_out (hr : r < 3) (hm : u.1 r 0 = nI m) {x : Int32} (hx : x < 0 ∨ nI m ≤ x) : f_X3_calendarAt (23 * r) x u = some (none, u) := by
  unfold f_X3_calendarAt
  by_cases h0 : x < 0
  · rw [if_pos h0]
  · rw [if_neg h0, ck_pos (sp_t r hr), sp_r r hr, sp_o r hr, hm, if_pos (hx.resolve_left h0)]
theorem p_pilAt_in (hr : r < 3) (hm : u.1 r 1 = nI m) (hm6 : m ≤ 8) {c : Nat} (hc : c < m) : f_X3_pilgrimAt (23 * r) (nI c) u = some (some (pp r c), u) := by
  unfold f_X3_pilgrimAt
  rw [if_neg (nI_pos (by omega)), ck_pos (sp_t r hr), sp_r r hr, sp_o r hr, hm, if_neg (nI_ge hc (by omega)), ck_pos (sp_2 r hr), if_neg (show ¬ (8 : Int32) ≤ nI c from nI_ge (b := 8) (by omega) (by decide)), ck_pos (inb_nI (by omega) (by decide)), nm_eq, nI_clamp (by omega), pp_eq]
theorem p_pilAt_out (hr : r < 3) (hm : u.1 r 1 = nI m) {x : Int32} (hx : x < 0 ∨ nI m ≤ x) : f_X3_pilgrimAt (23 * r) x u = some (none, u) := by
  unfold f_X3_pilgrimAt
  by_cases h0 : x < 0
  · rw [if_pos h0]
  · rw [if_neg h0, ck_pos (sp_t r hr), sp_r r hr, sp_o r hr, hm, if_pos (hx.resolve_left h0)]
theorem p_isHolyBy (hr : r < 3) (hm : u.1 r 0 = nI m) (hm6 : m ≤ 6) (x d : Int32) : f_X3_isHolyBy (23 * r) x d u = some (hb (u.1 r) x d, u) := by
  unfold f_X3_isHolyBy
  rcases pk_ix x (n := m) (by omega) with h | h | ⟨c, hc, rfl⟩
  · rw [ck_pos (sp_t r hr), p_calAt_out hr hm (Or.inl h), bd_eq, ro_none, hb_out hm (Or.inl h)]
  · rw [ck_pos (sp_t r hr), p_calAt_out hr hm (Or.inr h), bd_eq, ro_none, hb_out hm (Or.inr h)]
  · rw [ck_pos (sp_t r hr), p_calAt_in hr hm hm6 hc, bd_eq, ro_some, ck_pos (cal_at hr (show c < 6 by omega)).1, p_X0_isHoly (cal_at hr (by omega)), bd_eq, hb_in hm hm6 hc, ite_bool]
/-- the bits of those from c on, j of them, that f says -/
def hsG (f : Nat → Bool) : Nat → Nat → Int32 → Int32
  | _, 0, acc => acc
  | c, j + 1, acc => hsG f (c + 1) j (if f c = true then acc ||| ((1 : Int32) <<< (nI c &&& 31)) else acc)
def hset (s : Nat → Int32) (d : Int32) : Int32 := hsG (fun c => holyF (row5 s (7 + 5 * c)) d) 0 (s 0).toNatClampNeg 0
theorem l_holySet (hr : r < 3) (hm : u.1 r 0 = nI m) (hm6 : m ≤ 6) (d : Int32) : ∀ (j c : Nat) (acc : Int32) (n : Nat), c + j = m → j < n → lp b_X3_holySet_4 n (23 * r, d, acc, nI c, u) = some (hsG (fun c => holyF (row5 (u.1 r) (7 + 5 * c)) d) c j acc, u) := by
  intro j
  induction j with
  | zero =>
    intro c acc n h1 h2
    obtain ⟨n, rfl⟩ : ∃ k, n = k + 1 := ⟨n - 1, by omega⟩
    rw [lp_s]
    unfold b_X3_holySet_4
    dsimp only
    rw [ck_pos (sp_t r hr), sp_r r hr, sp_o r hr, hm, if_pos (nI_le (by omega) (by omega))]
    rfl
  | succ j ih =>
    intro c acc n h1 h2
    obtain ⟨n, rfl⟩ : ∃ k, n = k + 1 := ⟨n - 1, by omega⟩
    have hc : c < m := by omega
    have ih2 := fun acc' => ih (c + 1) acc' n (by omega) (by omega)
    rw [lp_s]
    generalize lp b_X3_holySet_4 n = g at ih2 ⊢
    unfold b_X3_holySet_4
    dsimp only
    rw [ck_pos (sp_t r hr), sp_r r hr, sp_o r hr, hm, if_neg (nI_ge hc (by omega)), ck_pos (sp_1 r hr), if_neg (show ¬ (6 : Int32) ≤ nI c from nI_ge (b := 6) (by omega) (by decide)), ck_pos (inb_nI (by omega) (by decide)), nm_eq, nI_clamp (by omega), cc_eq, ck_pos (cal_at hr (show c < 6 by omega)).1, p_X0_isHoly (cal_at hr (by omega)), bd_eq, nI_1]
    rw [hsG]
    split
    · exact ih2 _
    · exact ih2 _
theorem p_holySet (hr : r < 3) (hm : u.1 r 0 = nI m) (hm6 : m ≤ 6) (d : Int32) : f_X3_holySet (23 * r) d u = some (hset (u.1 r) d, u) := by
  unfold f_X3_holySet hset
  rw [hm, nI_clamp (by omega)]
  exact l_holySet hr hm hm6 d m 0 0 2100 (by omega) (by omega)
end Spring
def isInB (a x : Int32) : Bool := !decide (x < 0) && !decide (6 ≤ x) && decide (((a >>> (x &&& 31)) &&& 1) = 1)
theorem p_isIn (a x : Int32) (u : Uw) : f_X5_isIn a x u = some (isInB a x, u) := by
  unfold f_X5_isIn isInB
  by_cases h0 : x < 0
  · simp [h0]
  · by_cases h6 : (6 : Int32) ≤ x
    · simp [h0, h6]
    · rw [if_neg h0, if_neg h6, ite_dec]
      simp [h0, h6]
def bL (b0 b1 b2 b3 b4 b5 : Bool) (c : Nat) : Bool := [b0, b1, b2, b3, b4, b5].getD c false
theorem bits6 : ∀ b0 b1 b2 b3 b4 b5 : Bool, ∀ m, m < 7 → ∀ c, c < 6 → (decide (((hsG (bL b0 b1 b2 b3 b4 b5) 0 m 0 >>> (nI c &&& 31)) &&& 1) = 1)) = (decide (c < m) && bL b0 b1 b2 b3 b4 b5 c) := by decide +kernel
theorem hsG_congr {f g : Nat → Bool} : ∀ (j c : Nat) (acc : Int32), (∀ k, k < c + j → f k = g k) → hsG f c j acc = hsG g c j acc := by
  intro j
  induction j with
  | zero => intro c acc _; rfl
  | succ j ih =>
    intro c acc h
    rw [hsG, hsG, h c (by omega), ih (c + 1) _ (fun k hk => h k (by omega))]
theorem isIn_hsG {f : Nat → Bool} {m c : Nat} (hm : m ≤ 6) (hc : c < 6) : isInB (hsG f 0 m 0) (nI c) = (decide (c < m) && f c) := by
  have e : hsG f 0 m 0 = hsG (bL (f 0) (f 1) (f 2) (f 3) (f 4) (f 5)) 0 m 0 := by
    refine hsG_congr m 0 0 (fun k hk => ?_)
    rcases (show k = 0 ∨ k = 1 ∨ k = 2 ∨ k = 3 ∨ k = 4 ∨ k = 5 by omega) with rfl | rfl | rfl | rfl | rfl | rfl <;> rfl
  have h := bits6 (f 0) (f 1) (f 2) (f 3) (f 4) (f 5) m (by omega) c hc
  have h0 : ¬ nI c < 0 := nI_pos (by omega)
  have h6 : ¬ (6 : Int32) ≤ nI c := nI_ge (b := 6) (by omega) (by decide)
  unfold isInB
  rw [e, h]
  simp only [h0, h6, decide_false, Bool.not_false, Bool.true_and]
  congr 1
  rcases (show c = 0 ∨ c = 1 ∨ c = 2 ∨ c = 3 ∨ c = 4 ∨ c = 5 by omega) with rfl | rfl | rfl | rfl | rfl | rfl <;> rfl
theorem isIn_hset {s : Nat → Int32} {m : Nat} (hm : s 0 = nI m) (hm6 : m ≤ 6) (x d : Int32) : isInB (hset s d) x = hb s x d := by
  rcases pk_ix x (n := 6) (by decide) with h | h | ⟨c, hc, rfl⟩
  · rw [hb_out hm (Or.inl h)]
    simp [isInB, h]
  · rw [hb_out hm (Or.inr (by rw [fa_le] at h ⊢; rw [nI_toInt (by omega)] at h ⊢; omega))]
    have h' : (6 : Int32) ≤ x := h
    simp [isInB, h']
  · unfold hset
    rw [hm, nI_clamp (by omega), isIn_hsG hm6 hc]
    by_cases h : c < m
    · rw [hb_in hm hm6 h]
      simp [h]
    · rw [hb_out hm (Or.inr (nI_le (by omega) (by omega)))]
      simp [h]
/-! pilgrims -/
abbrev Tr : Type := Int32 × Int32 × Int32
def getT (s : Nat → Int32) (o : Nat) : Tr := (s o, s (o + 1), s (o + 2))
def setT (s : Nat → Int32) (o : Nat) (t : Tr) : Nat → Int32 := upd (upd (upd s o t.1) (o + 1) t.2.1) (o + 2) t.2.2
theorem setT_get {s : Nat → Int32} {o : Nat} : setT s o (getT s o) = s := by
  unfold setT getT
  funext k
  simp only [upd]
  split
  · rename_i h; rw [h]
  · split
    · rename_i h; rw [h]
    · split
      · rename_i h; rw [h]
      · rfl
theorem getT_set {s : Nat → Int32} {o : Nat} {t : Tr} : getT (setT s o t) o = t := by
  unfold setT getT upd
  simp
theorem setT_ne {s : Nat → Int32} {o k : Nat} {t : Tr} (h : k < o ∨ o + 2 < k) : setT s o t k = s k := by
  unfold setT
  rw [upd_ne (by omega), upd_ne (by omega), upd_ne (by omega)]
def watI (ill : Int32) (g : Bool) (pw : Int32) : Int32 := if g = true then mxI 0 (ill - pw) else mnI 99 (ill + pw / 2)
def bathT (t : Tr) (g : Bool) (pw : Int32) : Tr := (watI t.1 g pw, t.2.1, mnI 9999 (t.2.2 + 1))
/-- a day goes for one pilgrim; h: by which it is holy -/
def passT (t : Tr) (h : Int32 → Bool) (tr pw : Int32) : Tr := if t.1 ≤ 0 then t else if t.2.1 = -1 then bathT t (h tr) pw else if h t.2.1 = true then bathT t (h tr) pw else t
section Pil
variable {e r o : Nat} {u : Uw}
theorem p_takeWater (h : PilAt e r o) (g : Bool) (pw : Int32) : f_X1_takeWater e (bI g) pw u = some ((), sR u r (upd (u.1 r) o (watI (u.1 r o) g pw))) := by
  obtain ⟨h1, h2, h3⟩ := h
  unfold f_X1_takeWater
  rw [ck_pos h1, ck_pos h1, h2, h3]
  cases g with
  | false => rw [if_pos (show bI false = 0 from rfl), nm_eq, w1_sR]; rfl
  | true => rw [if_neg (show ¬ bI true = 0 by decide), nm_eq, w1_sR]; rfl
theorem p_takeBath (h : PilAt e r o) (g : Bool) (pw : Int32) : f_X1_takeBath e (bI g) pw u = some ((), sR u r (setT (u.1 r) o (bathT (getT (u.1 r) o) g pw))) := by
  have hw := p_takeWater (u := u) h g pw
  obtain ⟨h1, h2, h3⟩ := h
  unfold f_X1_takeBath
  rw [ck_pos h1, hw, bd_eq, nm_eq, h2, h3, w1_sR, sR_sR, sR_same]
  congr 3
  unfold setT bathT getT
  dsimp only
  funext k
  simp only [upd]
  split
  · rw [if_neg (by omega)]
  · split
    · rename_i h5
      rw [if_neg (by omega)]
    · split
      · rename_i h6; rw [h6]
      · rfl
theorem p_passDay (h : PilAt e r o) (a tr pw : Int32) : f_X1_passDay e a tr pw u = some ((), sR u r (setT (u.1 r) o (passT (getT (u.1 r) o) (isInB a) tr pw))) := by
  have hw := fun g => p_takeBath (u := u) h g pw
  obtain ⟨h1, h2, h3⟩ := h
  unfold f_X1_passDay passT
  simp only [ck_pos h1, h2, h3, p_isIn, bd_eq, hw]
  rw [show (getT (u.1 r) o).1 = u.1 r (o + 0) from rfl, show (getT (u.1 r) o).2.1 = u.1 r (o + 1) from rfl]
  split
  · rw [setT_get, sR_self]
  · split
    · rfl
    · split
      · rfl
      · rw [setT_get, sR_self]
end Pil
