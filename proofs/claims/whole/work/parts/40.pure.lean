/-! PURE 1: rows, cells, numbers -/
theorem ck_t {α : Type} {o : Option α} : ck true o = o := rfl
theorem ck_pos {α : Type} {c : Bool} {o : Option α} (h : c = true) : ck c o = o := by rw [h]; rfl
theorem nm_eq {α β : Type} {v : α} {f : α → β} : nm v f = f v := rfl
theorem bd_eq {β γ : Type} {a : β} {w : Uw} {k : β → Uw → Option γ} : bd (some (a, w)) k = k a w := rfl
theorem ro_none {γ : Type} {a : γ} {b : Nat → γ} : ro none a b = a := rfl
theorem ro_some {γ : Type} {e : Nat} {a : γ} {b : Nat → γ} : ro (some e) a b = b e := rfl
theorem lp_s {σ β : Type} {b : (σ → Option β) → σ → Option β} {n : Nat} {s : σ} : lp b (n + 1) s = b (lp b n) s := rfl
theorem inb_nI {j n : Nat} (h : j < n) (hn : n < 2 ^ 31) : inb (nI j) n = true := by
  unfold inb
  have h1 : ¬ nI j < 0 := nI_pos (by omega)
  have h2 : ¬ n ≤ (nI j).toNatClampNeg := by rw [nI_clamp (by omega)]; omega
  simp [h1, h2]
-- cells of a spring
theorem sp_t : ∀ r, r < 3 → (kT (23 * r) == 3) = true := by decide +kernel
theorem sp_1 : ∀ r, r < 3 → (kT (23 * r + 1) == 13) = true := by decide +kernel
theorem sp_2 : ∀ r, r < 3 → (kT (23 * r + 2) == 14) = true := by decide +kernel
theorem sp_r : ∀ r, r < 3 → kR (23 * r) = r := by decide +kernel
theorem sp_o : ∀ r, r < 3 → kO (23 * r) = 0 := by decide +kernel
/-- a calendar's cell -/
def cc (r c : Nat) : Nat := 23 * r + 3 + c
def pp (r p : Nat) : Nat := 23 * r + 15 + p
theorem cc_eq (r c : Nat) : 23 * r + 1 + 2 + c = cc r c := by unfold cc; omega
theorem pp_eq (r p : Nat) : 23 * r + 2 + 13 + p = pp r p := by unfold pp; omega
theorem cc_t : ∀ r, r < 3 → ∀ c, c < 6 → (kT (cc r c) == 0) = true := by decide +kernel
theorem cc_n : ∀ r, r < 3 → ∀ c, c < 6 → (kT (kN (cc r c)) == 10) = true := by decide +kernel
theorem cc_r : ∀ r, r < 3 → ∀ c, c < 6 → kR (kN (cc r c)) = r := by decide +kernel
theorem cc_o : ∀ r, r < 3 → ∀ c, c < 6 → kO (kN (cc r c)) = 7 + 5 * c := by decide +kernel
theorem cc_l : ∀ r, r < 3 → ∀ c, c < 6 → kL (kN (cc r c)) = 5 := by decide +kernel
theorem pp_t : ∀ r, r < 3 → ∀ p, p < 8 → (kT (pp r p) == 1) = true := by decide +kernel
theorem pp_r : ∀ r, r < 3 → ∀ p, p < 8 → kR (pp r p) = r := by decide +kernel
theorem pp_o : ∀ r, r < 3 → ∀ p, p < 8 → kO (pp r p) = 37 + 3 * p := by decide +kernel
/-- a calendar's five numbers, wherever it is: a cell with its row -/
def CalAt (e r o : Nat) : Prop := (kT e == 0) = true ∧ (kT (kN e) == 10) = true ∧ kR (kN e) = r ∧ kO (kN e) = o ∧ kL (kN e) = 5
def PilAt (e r o : Nat) : Prop := (kT e == 1) = true ∧ kR e = r ∧ kO e = o
theorem cal_at {r c : Nat} (hr : r < 3) (hc : c < 6) : CalAt (cc r c) r (7 + 5 * c) := ⟨cc_t r hr c hc, cc_n r hr c hc, cc_r r hr c hc, cc_o r hr c hc, cc_l r hr c hc⟩
theorem pil_at {r p : Nat} (hr : r < 3) (hp : p < 8) : PilAt (pp r p) r (37 + 3 * p) := ⟨pp_t r hr p hp, pp_r r hr p hp, pp_o r hr p hp⟩
theorem cal_84 : CalAt 84 6 0 := by unfold CalAt; decide +kernel
theorem pil_83 : PilAt 83 5 0 := by unfold PilAt; decide +kernel
theorem tn0 : (0 : Int32).toNatClampNeg = 0 := rfl
theorem tn1 : (1 : Int32).toNatClampNeg = 1 := rfl
theorem tn2 : (2 : Int32).toNatClampNeg = 2 := rfl
theorem tn3 : (3 : Int32).toNatClampNeg = 3 := rfl
theorem tn4 : (4 : Int32).toNatClampNeg = 4 := rfl
theorem tn5 : (5 : Int32).toNatClampNeg = 5 := rfl
theorem tn6 : (6 : Int32).toNatClampNeg = 6 := rfl
theorem ib0 : inb (0 : Int32) 5 = true := rfl
theorem ib1 : inb (1 : Int32) 5 = true := rfl
theorem ib2 : inb (2 : Int32) 5 = true := rfl
theorem ib3 : inb (3 : Int32) 5 = true := rfl
theorem ib4 : inb (4 : Int32) 5 = true := rfl
/-! numbers (fa_ rows: kit/laws/NUMBERS) -/
theorem fa_lt (a b : Int32) : a < b ↔ a.toInt < b.toInt := Int32.lt_iff_toInt_lt
theorem fa_le (a b : Int32) : a ≤ b ↔ a.toInt ≤ b.toInt := Int32.le_iff_toInt_le
theorem fa_eq (a b : Int32) : a = b ↔ a.toInt = b.toInt := Int32.toInt_inj.symm
theorem fa_wide_lt (a b : Int32) : a.toInt64 < b.toInt64 ↔ a < b := by rw [Int64.lt_iff_toInt_lt, fa_lt, Int32.toInt_toInt64, Int32.toInt_toInt64]
theorem fa_wide_le (a b : Int32) : a.toInt64 ≤ b.toInt64 ↔ a ≤ b := by rw [Int64.le_iff_toInt_le, fa_le, Int32.toInt_toInt64, Int32.toInt_toInt64]
theorem fa_wide_eq (a b : Int32) : a.toInt64 = b.toInt64 ↔ a = b := by rw [← Int64.toInt_inj, fa_eq, Int32.toInt_toInt64, Int32.toInt_toInt64]
theorem add72 (d : Int32) : d + 7 - 2 = d + 5 := by rw [Int32.sub_eq_add_neg, Int32.add_assoc]; rfl
theorem ix5 (c k : Nat) : (7 : Int32) + 5 * nI c + nI k = nI (7 + 5 * c + k) := by
  rw [show (7 : Int32) = nI 7 from rfl, show (5 : Int32) = nI 5 from rfl, pk_mul, nI_add, nI_add]
theorem ix3 (p k : Nat) : (37 : Int32) + 3 * nI p + nI k = nI (37 + 3 * p + k) := by
  rw [show (37 : Int32) = nI 37 from rfl, show (3 : Int32) = nI 3 from rfl, pk_mul, nI_add, nI_add]
theorem nI_m1 {m : Nat} (h : m < 2 ^ 30) : (nI m - 1).toInt = (m : Int) - 1 := pk_sub_toInt h (by decide)
/-! what a calendar says of a day: F its five numbers -/
def lenF (F : Nat → Int32) : Int32 := if 1 ≤ F 2 then F 2 else 1
def newF (F : Nat → Int32) (d : Int32) : Int32 := if d < F 4 then (d + F 1) + 0 else (d + F 1) + F 3
def runsF (F : Nat → Int32) (d : Int32) : Int32 := if F 0 = 2 then newF F d else if F 0 = 3 then (d + F 1) + d / 7 else if F 0 = 4 then newF F d + newF F d / lenF F / 4 else if F 0 = 5 then (d + F 1) - (d + 5) / 7 else d + F 1
def dateF (F : Nat → Int32) (d : Int32) : Int32 := (runsF F d - runsF F d / lenF F * lenF F) + 1
def monthF (F : Nat → Int32) (d : Int32) : Int32 := runsF F d / lenF F
def ev2 (x : Int32) : Bool := decide (x - x / 2 * 2 = 0)
def holyF (F : Nat → Int32) (d : Int32) : Bool := if F 0 = 3 then ev2 (dateF F d + monthF F d) else if F 0 = 4 then ev2 (dateF F d) || decide (dateF F d = 1) else if F 0 = 5 then ev2 (dateF F d) && !decide (d - d / 7 * 7 = 2) else ev2 (dateF F d)
def row5 (s : Nat → Int32) (o : Nat) : Nat → Int32 := fun k => s (o + k)
theorem lenF_ne (F : Nat → Int32) : decide (¬ lenF F = 0) = true := by
  unfold lenF
  split
  · rename_i h
    refine decide_eq_true (fun q => ?_)
    rw [q] at h
    exact absurd h (by decide)
  · decide
theorem lenF_eq {F : Nat → Int32} (h : 1 ≤ F 2) : lenF F = F 2 := if_pos h
theorem ite_dec {α : Type} {p : Prop} {d : Decidable p} {u : α} : (@ite _ p d (some (true, u)) (some (false, u))) = some (@decide p d, u) := by
  cases d <;> rfl
theorem ite_decn {α : Type} {p : Prop} {d : Decidable p} {u : α} : (@ite _ p d (some (false, u)) (some (true, u))) = some (!@decide p d, u) := by
  cases d <;> rfl
theorem ite_bool {α : Type} {b : Bool} {u : α} : (if b = true then some (true, u) else some (false, u)) = some (b, u) := by
  cases b <;> rfl
section Cals
variable {e r o : Nat} {u : Uw}
theorem p_X0_length (h : CalAt e r o) : f_X0_length e u = some (lenF (row5 (u.1 r) o), u) := by
  obtain ⟨h1, h2, h3, h4, h5⟩ := h
  unfold f_X0_length lenF row5
  simp only [ck_pos h1, ck_pos h2, h3, h4, h5, ck_pos ib2, nm_eq, tn2]
  split <;> rfl
theorem p_X0_runsAsNew (h : CalAt e r o) (d : Int32) : f_X0_runsAsNew e d u = some (newF (row5 (u.1 r) o) d, u) := by
  obtain ⟨h1, h2, h3, h4, h5⟩ := h
  unfold f_X0_runsAsNew newF row5
  simp only [ck_pos h1, ck_pos h2, h3, h4, h5, ck_pos ib1, ck_pos ib3, ck_pos ib4, nm_eq, tn1, tn3, tn4]
  split <;> rfl
theorem p_X0_runsAt (h : CalAt e r o) (d : Int32) : f_X0_runsAt e d u = some (runsF (row5 (u.1 r) o) d, u) := by
  have hl := p_X0_length (u := u) h
  have hn := p_X0_runsAsNew (u := u) h d
  obtain ⟨h1, h2, h3, h4, h5⟩ := h
  unfold f_X0_runsAt runsF f_X0_jugDaysUpTo
  simp only [ck_pos h1, ck_pos h2, h3, h4, h5, ck_pos ib1, ck_pos ib0, nm_eq, tn1, tn0, hn, hl, bd_eq, ck_pos (lenF_ne _), add72]
  show _ = some ((if u.1 r (o + 0) = 2 then _ else if u.1 r (o + 0) = 3 then _ else if u.1 r (o + 0) = 4 then _ else if u.1 r (o + 0) = 5 then _ else _), u)
  repeat' split
  all_goals rfl
theorem p_X0_dateAt (h : CalAt e r o) (d : Int32) : f_X0_dateAt e d u = some (dateF (row5 (u.1 r) o) d, u) := by
  unfold f_X0_dateAt
  simp only [ck_pos h.1, p_X0_runsAt h, p_X0_length h, bd_eq, ck_pos (lenF_ne _)]
  rfl
theorem p_X0_monthAt (h : CalAt e r o) (d : Int32) : f_X0_monthAt e d u = some (monthF (row5 (u.1 r) o) d, u) := by
  unfold f_X0_monthAt
  simp only [ck_pos h.1, p_X0_runsAt h, p_X0_length h, bd_eq, ck_pos (lenF_ne _)]
  rfl
theorem p_X0_isHoly (h : CalAt e r o) (d : Int32) : f_X0_isHoly e d u = some (holyF (row5 (u.1 r) o) d, u) := by
  have hl := p_X0_length (u := u) h
  have hn := p_X0_runsAt (u := u) h d
  obtain ⟨h1, h2, h3, h4, h5⟩ := h
  unfold f_X0_isHoly
  simp only [ck_pos h1, ck_pos h2, h3, h4, h5, ck_pos ib0, nm_eq, tn0, hn, hl, bd_eq, ck_pos (lenF_ne _), ite_dec, ite_decn]
  rw [show runsF (row5 (u.1 r) o) d - runsF (row5 (u.1 r) o) d / lenF (row5 (u.1 r) o) * lenF (row5 (u.1 r) o) + 1 = dateF (row5 (u.1 r) o) d from rfl, show runsF (row5 (u.1 r) o) d / lenF (row5 (u.1 r) o) = monthF (row5 (u.1 r) o) d from rfl]
  unfold holyF ev2
  show _ = some ((if u.1 r (o + 0) = 3 then _ else if u.1 r (o + 0) = 4 then _ else if u.1 r (o + 0) = 5 then _ else _), u)
  split
  · rfl
  · split
    · split <;> simp_all
    · split
      · split <;> simp_all
      · rfl
end Cals
/-! the model's -/
section Mod
variable {u : Uw}
theorem p_its {c k : Nat} (hc : c < 6) (hk : k < 5) {x : Int32} (hx : x = nI k) : f_X6_its (nI c) x u = some (u.1 20 (7 + 5 * c + k), u) := by
  subst hx
  unfold f_X6_its
  rw [ix5, ck_pos (inb_nI (by omega) (by decide)), nm_eq, nI_clamp (by omega)]
theorem p_in (x lo hi : Int32) : f_X6_in x.toInt64 lo.toInt64 hi.toInt64 u = some (decide (lo ≤ x ∧ x ≤ hi), u) := by
  unfold f_X6_in
  simp only [lg_cmp_lt, lg_cmp_gt, fa_wide_lt]
  by_cases h1 : x < lo
  · rw [if_pos h1, decide_eq_false (fun q => Int32.not_lt.mpr q.1 h1)]
  · rw [if_neg h1]
    by_cases h2 : hi < x
    · rw [if_pos h2, decide_eq_false (fun q => Int32.not_lt.mpr q.2 h2)]
    · rw [if_neg h2, decide_eq_true ⟨Int32.not_lt.mp h1, Int32.not_lt.mp h2⟩]
theorem p_runs {c : Nat} (hc : c < 6) (hl : 1 ≤ row5 (u.1 20) (7 + 5 * c) 2) (d : Int32) : f_X6_runs (nI c) d u = some (runsF (row5 (u.1 20) (7 + 5 * c)) d, u) := by
  have hz := lenF_ne (row5 (u.1 20) (7 + 5 * c))
  rw [lenF_eq hl] at hz
  unfold f_X6_runs runsF newF
  rw [lenF_eq hl]
  unfold row5 at hz ⊢
  simp only [p_its hc (show 0 < 5 by decide) (x := (0 : Int32)) rfl, p_its hc (show 1 < 5 by decide) (x := (1 : Int32)) rfl, p_its hc (show 2 < 5 by decide) (x := (2 : Int32)) rfl, p_its hc (show 3 < 5 by decide) (x := (3 : Int32)) rfl, p_its hc (show 4 < 5 by decide) (x := (4 : Int32)) rfl, nm_eq, bd_eq, ck_pos hz]
  repeat' split
  all_goals rfl
theorem p_dateOf {c : Nat} (hc : c < 6) (hl : 1 ≤ row5 (u.1 20) (7 + 5 * c) 2) (d : Int32) : f_X6_dateOf (nI c) d u = some (dateF (row5 (u.1 20) (7 + 5 * c)) d, u) := by
  have hz := lenF_ne (row5 (u.1 20) (7 + 5 * c))
  unfold f_X6_dateOf dateF
  rw [lenF_eq hl] at hz ⊢
  simp only [p_runs hc hl, p_its hc (show 2 < 5 by decide) (x := (2 : Int32)) rfl, bd_eq]
  exact ck_pos hz
theorem p_monthOf {c : Nat} (hc : c < 6) (hl : 1 ≤ row5 (u.1 20) (7 + 5 * c) 2) (d : Int32) : f_X6_monthOf (nI c) d u = some (monthF (row5 (u.1 20) (7 + 5 * c)) d, u) := by
  have hz := lenF_ne (row5 (u.1 20) (7 + 5 * c))
  unfold f_X6_monthOf monthF
  rw [lenF_eq hl] at hz ⊢
  simp only [p_runs hc hl, p_its hc (show 2 < 5 by decide) (x := (2 : Int32)) rfl, bd_eq]
  exact ck_pos hz
theorem p_isCal_in {m c : Nat} (hm : u.1 20 0 = nI m) (hm6 : m ≤ 6) (hc : c < m) : f_X6_isCalendar (nI c) u = some (true, u) := by
  unfold f_X6_isCalendar
  rw [nm_eq, tn0, hm, show (0 : Int64) = (0 : Int32).toInt64 from rfl, p_in, bd_eq, decide_eq_true]
  refine ⟨nI_pos' (by omega), ?_⟩
  rw [fa_le, nI_toInt (by omega), nI_m1 (by omega)]
  omega
theorem p_isCal_out {m : Nat} (hm : u.1 20 0 = nI m) (hm6 : m ≤ 6) {x : Int32} (hx : x < 0 ∨ nI m ≤ x) : f_X6_isCalendar x u = some (false, u) := by
  unfold f_X6_isCalendar
  rw [nm_eq, tn0, hm, show (0 : Int64) = (0 : Int32).toInt64 from rfl, p_in, bd_eq, decide_eq_false]
  rw [fa_lt, fa_le, nI_toInt (by omega)] at hx
  rw [fa_le, fa_le, nI_m1 (by omega)]
  have h0 : (0 : Int32).toInt = 0 := rfl
  omega
theorem p_isPil_in {m c : Nat} (hm : u.1 20 1 = nI m) (hm6 : m ≤ 8) (hc : c < m) : f_X6_isPilgrim (nI c) u = some (true, u) := by
  unfold f_X6_isPilgrim
  rw [nm_eq, tn1, hm, show (0 : Int64) = (0 : Int32).toInt64 from rfl, p_in, bd_eq, decide_eq_true]
  refine ⟨nI_pos' (by omega), ?_⟩
  rw [fa_le, nI_toInt (by omega), nI_m1 (by omega)]
  omega
theorem p_isPil_out {m : Nat} (hm : u.1 20 1 = nI m) (hm6 : m ≤ 8) {x : Int32} (hx : x < 0 ∨ nI m ≤ x) : f_X6_isPilgrim x u = some (false, u) := by
  unfold f_X6_isPilgrim
  rw [nm_eq, tn1, hm, show (0 : Int64) = (0 : Int32).toInt64 from rfl, p_in, bd_eq, decide_eq_false]
  rw [fa_lt, fa_le, nI_toInt (by omega)] at hx
  rw [fa_le, fa_le, nI_m1 (by omega)]
  have h0 : (0 : Int32).toInt = 0 := rfl
  omega
/-- holy by a number that may be no calendar's -/
def hb (s : Nat → Int32) (x d : Int32) : Bool := if 0 ≤ x ∧ x < s 0 then holyF (row5 s (7 + 5 * x.toNatClampNeg)) d else false
theorem hb_in {s : Nat → Int32} {m c : Nat} {d : Int32} (hm : s 0 = nI m) (hm6 : m ≤ 6) (hc : c < m) : hb s (nI c) d = holyF (row5 s (7 + 5 * c)) d := by
  unfold hb
  rw [if_pos ⟨nI_pos' (by omega), by rw [hm]; exact nI_lt hc (by omega)⟩, nI_clamp (by omega)]
theorem hb_out {s : Nat → Int32} {m : Nat} {x d : Int32} (hm : s 0 = nI m) (hx : x < 0 ∨ nI m ≤ x) : hb s x d = false := by
  unfold hb
  rw [if_neg]
  rintro ⟨h1, h2⟩
  rw [hm] at h2
  rcases hx with h | h
  · exact Int32.not_lt.mpr h1 h
  · exact Int32.not_lt.mpr h h2
/-- lengths are 1 at least -/
def LenOk (s : Nat → Int32) (m : Nat) : Prop := ∀ c, c < m → 1 ≤ row5 s (7 + 5 * c) 2
theorem p_isHoly {m : Nat} (hm : u.1 20 0 = nI m) (hm6 : m ≤ 6) (hl : LenOk (u.1 20) m) (x d : Int32) : f_X6_isHoly x d u = some (hb (u.1 20) x d, u) := by
  rcases pk_ix x (n := m) (by omega) with h | h | ⟨c, hc, rfl⟩
  · unfold f_X6_isHoly
    rw [p_isCal_out hm hm6 (Or.inl h), bd_eq, if_neg (by decide), hb_out hm (Or.inl h)]
  · unfold f_X6_isHoly
    rw [p_isCal_out hm hm6 (Or.inr h), bd_eq, if_neg (by decide), hb_out hm (Or.inr h)]
  · have hc6 : c < 6 := by omega
    unfold f_X6_isHoly
    rw [p_isCal_in hm hm6 hc, bd_eq, if_pos rfl, p_dateOf hc6 (hl c hc), bd_eq, p_its hc6 (show 0 < 5 by decide) (x := (0 : Int32)) rfl, bd_eq, nm_eq, p_monthOf hc6 (hl c hc), bd_eq, hb_in hm hm6 hc]
    simp only [ite_dec, ite_decn]
    unfold holyF ev2
    show _ = some ((if u.1 20 (7 + 5 * c + 0) = 3 then _ else if u.1 20 (7 + 5 * c + 0) = 4 then _ else if u.1 20 (7 + 5 * c + 0) = 5 then _ else _), u)
    split
    · rfl
    · split
      · split <;> simp_all
      · split
        · split <;> simp_all
        · rfl
end Mod
