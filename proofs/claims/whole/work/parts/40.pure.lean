/-! PURE 1: rows, cells, numbers -/
theorem ck_t {α : Type} {o : Option α} : ck true o = o := rfl
theorem ck_pos {α : Type} {c : Bool} {o : Option α} (h : c = true) : ck c o = o := by rw [h]; rfl
theorem nm_eq {α β : Type} {v : α} {f : α → β} : nm v f = f v := rfl
theorem bd_eq {β γ : Type} {a : β} {w : Uw} {k : β → Uw → Option γ} : bd (some (a, w)) k = k a w := rfl
theorem ro_none {γ : Type} {a : γ} {b : Nat → γ} : ro none a b = a := rfl
theorem ro_some {γ : Type} {e : Nat} {a : γ} {b : Nat → γ} : ro (some e) a b = b e := rfl
theorem lp_s {σ β : Type} {b : (σ → Option β) → σ → Option β} {n : Nat} {s : σ} : lp b (n + 1) s = b (lp b n) s := rfl
theorem inb_nI {j n : Nat} (h : j < n) (hn : n < 2 ^ 31) : inb (nI j) n = true := by
  unfold inb
  have h1 : ¬ nI j < 0 := nI_pos (by omega)
  have h2 : ¬ n ≤ (nI j).toNatClampNeg := by rw [nI_clamp (by omega)]; omega
  simp [h1, h2]
-- cells of a spring
theorem sp_t : ∀ r, r < 3 → (kT (23 * r) == 3) = true := by decide +kernel
theorem sp_1 : ∀ r, r < 3 → (kT (23 * r + 1) == 13) = true := by decide +kernel
theorem sp_2 : ∀ r, r < 3 → (kT (23 * r + 2) == 14) = true := by decide +kernel
theorem sp_r : ∀ r, r < 3 → kR (23 * r) = r := by decide +kernel
theorem sp_o : ∀ r, r < 3 → kO (23 * r) = 0 := by decide +kernel
/-- a calendar's cell -/
def cc (r c : Nat) : Nat := 23 * r + 3 + c
def pp (r p : Nat) : Nat := 23 * r + 15 + p
theorem cc_eq (r c : Nat) : 23 * r + 1 + 2 + c = cc r c := by unfold cc; omega
theorem pp_eq (r p : Nat) : 23 * r + 2 + 13 + p = pp r p := by unfold pp; omega
theorem cc_t : ∀ r, r < 3 → ∀ c, c < 6 → (kT (cc r c) == 0) = true := by decide +kernel
theorem cc_n : ∀ r, r < 3 → ∀ c, c < 6 → (kT (kN (cc r c)) == 10) = true := by decide +kernel
theorem cc_r : ∀ r, r < 3 → ∀ c, c < 6 → kR (kN (cc r c)) = r := by decide +kernel
theorem cc_o : ∀ r, r < 3 → ∀ c, c < 6 → kO (kN (cc r c)) = 7 + 5 * c := by decide +kernel
theorem cc_l : ∀ r, r < 3 → ∀ c, c < 6 → kL (kN (cc r c)) = 5 := by decide +kernel
theorem pp_t : ∀ r, r < 3 → ∀ p, p < 8 → (kT (pp r p) == 1) = true := by decide +kernel
theorem pp_r : ∀ r, r < 3 → ∀ p, p < 8 → kR (pp r p) = r := by decide +kernel
theorem pp_o : ∀ r, r < 3 → ∀ p, p < 8 → kO (pp r p) = 37 + 3 * p := by decide +kernel
/-- a calendar's five numbers, wherever it is: a cell with its row -/
def CalAt (e r o : Nat) : Prop := (kT e == 0) = true ∧ (kT (kN e) == 10) = true ∧ kR (kN e) = r ∧ kO (kN e) = o ∧ kL (kN e) = 5
def PilAt (e r o : Nat) : Prop := (kT e == 1) = true ∧ kR e = r ∧ kO e = o
theorem cal_at {r c : Nat} (hr : r < 3) (hc : c < 6) : CalAt (cc r c) r (7 + 5 * c) := ⟨cc_t r hr c hc, cc_n r hr c hc, cc_r r hr c hc, cc_o r hr c hc, cc_l r hr c hc⟩
theorem pil_at {r p : Nat} (hr : r < 3) (hp : p < 8) : PilAt (pp r p) r (37 + 3 * p) := ⟨pp_t r hr p hp, pp_r r hr p hp, pp_o r hr p hp⟩
theorem cal_84 : CalAt 84 6 0 := by unfold CalAt; decide +kernel
theorem pil_83 : PilAt 83 5 0 := by unfold PilAt; decide +kernel
theorem tn0 : (0 : Int32).toNatClampNeg = 0 := rfl
theorem tn1 : (1 : Int32).toNatClampNeg = 1 := rfl
theorem tn2 : (2 : Int32).toNatClampNeg = 2 := rfl
theorem tn3 : (3 : Int32).toNatClampNeg = 3 := rfl
theorem tn4 : (4 : Int32).toNatClampNeg = 4 := rfl
theorem tn5 : (5 : Int32).toNatClampNeg = 5 := rfl
theorem tn6 : (6 : Int32).toNatClampNeg = 6 := rfl
theorem ib0 : inb (0 : Int32) 5 = true := rfl
theorem ib1 : inb (1 : Int32) 5 = true := rfl
theorem ib2 : inb (2 : Int32) 5 = true := rfl
theorem ib3 : inb (3 : Int32) 5 = true := rfl
theorem ib4 : inb (4 : Int32) 5 = true := rfl
/-! what a calendar says of a day: F its five numbers -/
def lenF (F : Nat → Int32) : Int32 := if F 2 < 1 then 1 else F 2
def newF (F : Nat → Int32) (d : Int32) : Int32 := (d + F 1) + (if d < F 4 then 0 else F 3)
def runsF (F : Nat → Int32) (d : Int32) : Int32 := if F 0 = 2 then newF F d else if F 0 = 3 then (d + F 1) + d / 7 else if F 0 = 4 then newF F d + newF F d / lenF F / 4 else if F 0 = 5 then (d + F 1) - (d + 5) / 7 else d + F 1
def dateF (F : Nat → Int32) (d : Int32) : Int32 := (runsF F d - runsF F d / lenF F * lenF F) + 1
def monthF (F : Nat → Int32) (d : Int32) : Int32 := runsF F d / lenF F
def evenI (x : Int32) : Bool := decide (x - x / 2 * 2 = 0)
def holyF (F : Nat → Int32) (d : Int32) : Bool := if F 0 = 3 then evenI (dateF F d + monthF F d) else if F 0 = 4 then evenI (dateF F d) || decide (dateF F d = 1) else if F 0 = 5 then evenI (dateF F d) && !decide (d - d / 7 * 7 = 2) else evenI (dateF F d)
def row5 (u : Uw) (r o : Nat) : Nat → Int32 := fun k => u.1 r (o + k)
theorem lenF_ne (F : Nat → Int32) : decide (¬ lenF F = 0) = true := by
  unfold lenF
  split
  · decide
  · rename_i h
    refine decide_eq_true (fun q => h ?_)
    rw [q]; decide
section Cals
variable {e r o : Nat} {u : Uw}
theorem p_X0_length (h : CalAt e r o) : f_X0_length e u = some (lenF (row5 u r o), u) := by
  obtain ⟨h1, h2, h3, h4, h5⟩ := h
  unfold f_X0_length lenF row5
  simp only [ck_pos h1, ck_pos h2, h3, h4, h5, ck_pos ib2, nm_eq, tn2]
  split
  · rw [if_pos (by assumption)]
  · rw [if_neg (by assumption)]
theorem p_X0_runsAsNew (h : CalAt e r o) (d : Int32) : f_X0_runsAsNew e d u = some (newF (row5 u r o) d, u) := by
  obtain ⟨h1, h2, h3, h4, h5⟩ := h
  unfold f_X0_runsAsNew newF row5
  simp only [ck_pos h1, ck_pos h2, h3, h4, h5, ck_pos ib1, ck_pos ib3, ck_pos ib4, nm_eq, tn1, tn3, tn4]
  split
  · rw [if_pos (by assumption)]
  · rw [if_neg (by assumption)]
end Cals
