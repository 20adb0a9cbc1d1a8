/-! PURE 33: steps of the two readers side by side -/
theorem bd_u {o : Option (Unit × Uw)} : (bd o fun _ v => some ((), v)) = o := by
  cases o with
  | none => rfl
  | some x => rfl
theorem upd_cp {y X : Nat → Int32} {k : Nat} {v : Int32} (hk : k < 61) : upd (cpF y X 0 61) k v = cpF y (upd X k v) 0 61 := by
  funext j
  unfold cpF
  by_cases h : j = k
  · rw [h, upd_at, if_pos (by omega), upd_at]
  · rw [upd_ne h, upd_ne h]
theorem addS_cp {y X : Nat → Int32} {m : Nat} {k : Int32} (hm : m < 6) : addS (cpF y X 0 61) m k = cpF y (addS X m k) 0 61 := by
  unfold addS
  rw [upd_cp (by omega), upd_cp (by omega), upd_cp (by omega), upd_cp (by omega), upd_cp (by omega), upd_cp (by omega)]
theorem addP_cp {y X : Nat → Int32} {p : Nat} {a b : Int32} (hp : p < 8) : addP (cpF y X 0 61) p a b = cpF y (addP X p a b) 0 61 := by
  unfold addP setT
  rw [upd_cp (by omega), upd_cp (by omega), upd_cp (by omega), upd_cp (by omega)]
def tv (B : Nat → Nat) (n e : Nat) : Nat := nM (fun k => B (tS B n e + k)) (tE B n e - tS B n e)
def nOk (B : Nat → Nat) (n e : Nat) (lo hi : Int32) : Bool := decide (tK B n e = 2 ∧ lo ≤ nI (tv B n e) ∧ nI (tv B n e) ≤ hi)
theorem tok_dg {B : Nat → Nat} {n e : Nat} (he : e ≤ n) (h : tK B n e = 2) : ∀ k, k < tE B n e - tS B n e → dgB (B (tS B n e + k)) = true := by
  obtain ⟨h1, h2⟩ := (tK_2 he).mp h
  intro k hk
  have hl : ¬ ltB (B (tS B n e)) = true := fun q => by rw [lt_dg q] at h2; cases h2
  have eE : tE B n e = runF (fun k => dgB (B k)) (n - tS B n e) (tS B n e) := by unfold tE; rw [if_neg (by omega), if_neg hl, if_pos h2]
  exact runF_in (P := fun k => dgB (B k)) (n - tS B n e) (tS B n e) (tS B n e + k) (by omega) (by omega)
theorem tS_tE {B : Nat → Nat} {n e : Nat} : tS B n e ≤ tE B n e := by
  by_cases h : tS B n e < n
  · exact Nat.le_of_lt (tE_gt h)
  · unfold tE; rw [if_pos (by omega)]; exact Nat.le_refl _
theorem nMx_lt {b : Nat → Nat} {j : Nat} (h : ∀ k, k < j → dgB (b k) = true) : nM b j < 100000 := (nC_nM j h).2
section ModSteps
variable {u : Uw}
theorem w5_0 (h5 : u.1 25 5 = 0) : w1 u 25 5 0 = u := by
  rw [w1_sR]
  have : upd (u.1 25) 5 0 = u.1 25 := by rw [← h5, upd_self]
  rw [this, sR_self]
theorem w5_1 (h5 : u.1 25 5 = 1) : w1 u 25 5 1 = u := by
  rw [w1_sR]
  have : upd (u.1 25) 5 1 = u.1 25 := by rw [← h5, upd_self]
  rw [this, sR_self]
theorem p_must1 (h5 : u.1 25 5 = 0) : f_X6_must 1 u = f_X6_token u := by
  unfold f_X6_must
  rw [if_pos h5, if_neg (show ¬ (1 : Int32) = 0 by decide), nm_eq, w5_0 h5, if_pos h5, bd_u]
theorem p_must0 (h5 : u.1 25 5 = 0) : f_X6_must 0 u = some ((), sR u 25 (upd (u.1 25) 5 1)) := by
  unfold f_X6_must
  rw [if_pos h5, if_pos (show (0 : Int32) = 0 from rfl), nm_eq, w1_sR, sR_same, upd_at, if_neg (show ¬ (1 : Int32) = 0 by decide)]
theorem p_mustW (h5 : u.1 25 5 = 1) (c : Int32) : f_X6_must c u = some ((), u) := by
  unfold f_X6_must
  rw [if_neg (show ¬ u.1 25 5 = 0 by rw [h5]; decide), nm_eq, w5_1 h5, if_neg (show ¬ u.1 25 5 = 0 by rw [h5]; decide)]
theorem l_num0 {lo hi val i : Int32} (f : Nat) : lp b_X6_number_29 (f + 1) (lo, hi, 0, val, i, u) = f_X6_must 0 (w1 u 25 4 val) := by
  rw [lp_s]
  generalize lp b_X6_number_29 f = g
  unfold b_X6_number_29
  dsimp only
  rw [if_pos (show (0 : Int32) = 0 from rfl), nm_eq, if_pos (show (0 : Int32) = 0 from rfl), bd_u]
  split <;> rfl
theorem l_num {B : Nat → Nat} {n e : Nat} {lo hi : Int32} (hn : n ≤ 120) (he : e ≤ n) (hT : TpM B n u) (hR : RM B n e (u.1 25)) (hK : tK B n e = 2) : ∀ (j k f : Nat), tS B n e + k + j = tE B n e → j < f → lp b_X6_number_29 f (lo, hi, 1, nI (nM (fun k => B (tS B n e + k)) k), nI (tS B n e + k), u) = if lo ≤ nI (nM (fun k => B (tS B n e + k)) (k + j)) ∧ nI (nM (fun k => B (tS B n e + k)) (k + j)) ≤ hi then f_X6_must 1 (w1 u 25 4 (nI (nM (fun k => B (tS B n e + k)) (k + j)))) else f_X6_must 0 (w1 u 25 4 (nI (nM (fun k => B (tS B n e + k)) (k + j)))) := by
  have hE := tE_le (B := B) he
  have hd := tok_dg he hK
  intro j
  induction j with
  | zero =>
    intro k f h1 hf
    obtain ⟨f, rfl⟩ : ∃ k, f = k + 1 := ⟨f - 1, by omega⟩
    rw [lp_s]
    generalize lp b_X6_number_29 f = g
    unfold b_X6_number_29
    dsimp only
    rw [hR.2.2, if_pos (nI_le (by omega) (by omega)), nm_eq, if_neg (show ¬ (1 : Int32) = 0 by decide), p_in, bd_eq, bd_u, bd_u, Nat.add_zero]
    by_cases hq : lo ≤ nI (nM (fun k => B (tS B n e + k)) k) ∧ nI (nM (fun k => B (tS B n e + k)) k) ≤ hi
    · rw [if_pos (decide_eq_true hq), if_pos hq]
    · rw [if_neg (by rw [decide_eq_false hq]; decide), if_neg hq]
  | succ j ih =>
    intro k f h1 hf
    obtain ⟨f, rfl⟩ : ∃ k, f = k + 1 := ⟨f - 1, by omega⟩
    have ih2 := ih (k + 1) f (by omega) (by omega)
    rw [show k + 1 + j = k + (j + 1) by omega] at ih2
    have hb : 48 ≤ B (tS B n e + k) ∧ B (tS B n e + k) ≤ 57 := of_decide_eq_true (hd k (by omega))
    have hlt := nMx_lt (b := fun k => B (tS B n e + k)) (j := k) (fun i hi => hd i (by omega))
    rw [lp_s]
    generalize lp b_X6_number_29 f = g at ih2 ⊢
    unfold b_X6_number_29
    dsimp only
    rw [hR.2.2, if_neg (nI_ge (by omega) (by omega)), if_neg (show ¬ (1 : Int32) = 0 by decide), ck_pos (inb_nI (show tS B n e + k < 120 by omega) (by decide)), nm_eq, nm_eq, nm_eq, nI_clamp (by omega), hT.2 _ (by omega), nI_1, show (10 : Int32) = nI 10 from rfl, pk_mul, nI_add, show (48 : Int32) = nI 48 from rfl, pk_sub (by omega), ← ih2, nM, show tS B n e + k + 1 = tS B n e + (k + 1) by omega]
    by_cases hq : nM (fun k => B (tS B n e + k)) k ≤ 9999
    · rw [if_pos (show nI (nM (fun k => B (tS B n e + k)) k) ≤ 9999 from nI_le (b := 9999) hq (by decide)), if_pos hq]
    · rw [if_neg (show ¬ nI (nM (fun k => B (tS B n e + k)) k) ≤ 9999 from nI_ge (a := 9999) (by omega) (by omega)), if_neg hq]
theorem p_number {B : Nat → Nat} {n e : Nat} {lo hi : Int32} (hn : n ≤ 120) (hB : ∀ k, B k < 256) (he : e ≤ n) (hT : TpM B n u) (hR : RM B n e (u.1 25)) (h5 : u.1 25 5 = 0) : ∃ x, (tK B n e = 2 → x = nI (tv B n e)) ∧ f_X6_number lo hi u = if nOk B n e lo hi = true then f_X6_must 1 (w1 u 25 4 x) else f_X6_must 0 (w1 u 25 4 x) := by
  have hse := tS_tE (B := B) (n := n) (e := e)
  have hE := tE_le (B := B) he
  obtain ⟨r, b1, b2⟩ := p_firstDg hn hB he hT
  unfold f_X6_number
  rw [if_pos h5, hR.2.1, b1, bd_eq, b2, bd_eq, nm_eq, hR.2.1]
  by_cases hK : tK B n e = 2
  · refine ⟨nI (tv B n e), fun _ => rfl, ?_⟩
    have h := l_num (lo := lo) (hi := hi) hn he hT hR hK (tE B n e - tS B n e) 0 2100 (by omega) (by omega)
    rw [Nat.zero_add, Nat.add_zero] at h
    rw [decide_eq_true hK]
    refine (show _ = _ from h).trans ?_
    show (if lo ≤ nI (tv B n e) ∧ nI (tv B n e) ≤ hi then _ else _) = _
    unfold nOk
    by_cases hq : lo ≤ nI (tv B n e) ∧ nI (tv B n e) ≤ hi
    · rw [if_pos hq, if_pos (decide_eq_true ⟨hK, hq⟩)]
      rfl
    · rw [if_neg hq, if_neg (by rw [decide_eq_false (fun z => hq z.2)]; decide)]
      rfl
  · refine ⟨0, fun z => absurd z hK, ?_⟩
    rw [decide_eq_false hK, show nOk B n e lo hi = false from decide_eq_false (fun z => hK z.1), if_neg (by decide)]
    exact l_num0 2099
theorem p_numberW {lo hi : Int32} (h5 : u.1 25 5 = 1) : f_X6_number lo hi u = some ((), u) := by
  unfold f_X6_number
  rw [if_neg (show ¬ u.1 25 5 = 0 by rw [h5]; decide)]
end ModSteps
theorem p_isNum {B : Nat → Nat} {n e : Nat} {lo hi : Int32} {u : Uw} (he : e ≤ n) (hR : RC B n e (u.1 7)) (hhi : hi.toInt ≤ 9999) : f_X4_isNumber lo hi u = some (nOk B n e lo hi, u) ∧ (nOk B n e lo hi = true → u.1 7 4 = nI (tv B n e)) := by
  obtain ⟨-, r1, r2, r3, r4⟩ := hR
  have hk4 : tK B n e ≤ 4 := by
    unfold tK
    repeat' split
    all_goals omega
  have key : tK B n e = 2 → u.1 7 4 = nI (min 10000 (tv B n e)) ∧ tv B n e < 100000 := fun hK => by
    have h := nC_nM (b := fun k => B (tS B n e + k)) (tE B n e - tS B n e) (tok_dg he hK)
    rw [r4 hK, h.1]
    exact ⟨rfl, h.2⟩
  have e98 : ∀ x : Nat, x < 100000 → nI x ≤ hi → x ≤ 9999 := fun x hx h => by
    rw [fa_le, nI_toInt (by omega)] at h
    omega
  have same : tK B n e = 2 → ((lo ≤ nI (min 10000 (tv B n e)) ∧ nI (min 10000 (tv B n e)) ≤ hi) ↔ (lo ≤ nI (tv B n e) ∧ nI (tv B n e) ≤ hi)) := fun hK => by
    have hlt := (key hK).2
    constructor
    · rintro ⟨h1, h2⟩
      have := e98 _ (by omega) h2
      rw [Nat.min_eq_right (by omega)] at h1 h2
      exact ⟨h1, h2⟩
    · rintro ⟨h1, h2⟩
      have := e98 _ hlt h2
      rw [Nat.min_eq_right (by omega)]
      exact ⟨h1, h2⟩
  refine ⟨?_, fun hz => ?_⟩
  · unfold f_X4_isNumber
    rw [r1]
    by_cases hK : tK B n e = 2
    · rw [if_pos (show nI (tK B n e) = 2 by rw [hK]; rfl), p_within, bd_eq, (key hK).1, ite_bool]
      unfold nOk
      congr 2
      rw [Bool.eq_iff_iff, decide_eq_true_iff, decide_eq_true_iff, same hK]
      exact ⟨fun z => ⟨hK, z⟩, fun z => z.2⟩
    · rw [if_neg (show ¬ nI (tK B n e) = 2 from fun z => hK ((nI_eq (b := 2) (by omega) (by omega)).mp z)), show nOk B n e lo hi = false from decide_eq_false (fun z => hK z.1)]
  · have hz' := of_decide_eq_true hz
    have h := key hz'.1
    rw [h.1]
    have := e98 _ h.2 hz'.2.2
    rw [Nat.min_eq_right (by omega)]
/-! the states -/
def OkC (B : Nat → Nat) (n : Nat) (y : Nat → Int32) (vC : Uw) (e : Nat) (X : Nat → Int32) (u : Uw) : Prop := Fr [2, 7] vC u ∧ TpC B n u ∧ RC B n e (u.1 7) ∧ u.1 2 = cpF y X 0 61
def OkM (B : Nat → Nat) (n : Nat) (k0 : Int32) (vM : Uw) (e : Nat) (X : Nat → Int32) (u : Uw) : Prop := Fr [20, 25] vM u ∧ TpM B n u ∧ RM B n e (u.1 25) ∧ u.1 25 5 = 0 ∧ u.1 25 0 = k0 ∧ u.1 20 = X
def XOk (s0 X : Nat → Int32) : Prop := Good X ∧ ∀ k, 61 ≤ k → X k = s0 k
def BadC (B : Nat → Nat) (n : Nat) (vC : Uw) (e : Nat) (u : Uw) : Prop := Fr [2, 7] vC u ∧ TpC B n u ∧ RC B n e (u.1 7)
def BadM (B : Nat → Nat) (n : Nat) (k0 : Int32) (vM : Uw) (s0 : Nat → Int32) (e : Nat) (u : Uw) : Prop := Fr [20, 25] vM u ∧ TpM B n u ∧ RM B n e (u.1 25) ∧ u.1 25 5 = 1 ∧ u.1 25 0 = k0 ∧ ∀ k, 61 ≤ k → u.1 20 k = s0 k
section Steps
variable {B : Nat → Nat} {n e : Nat} {y X s0 : Nat → Int32} {vC vM u : Uw} {k0 : Int32}
theorem OkC.bad (h : OkC B n y vC e X u) : BadC B n vC e u := ⟨h.1, h.2.1, h.2.2.1⟩
theorem OkC.rt (hn : n ≤ 120) (hB : ∀ k, B k < 256) (he : e ≤ n) (h : OkC B n y vC e X u) : ∃ u', f_X4_readToken u = some ((), u') ∧ OkC B n y vC (tE B n e) X u' := by
  obtain ⟨h1, h2, h3, h4⟩ := h
  obtain ⟨R, hR, hC⟩ := p_rt hn hB (tE_le he) h2 h3.2.2.2.1
  refine ⟨_, hR, h1.tr (Fr.sR (by decide)), h2.up (by rw [hC.1, h2.1]), by rw [sR_same]; exact hC, by rw [sR_ne (by decide)]; exact h4⟩
theorem OkC.w2 (h : OkC B n y vC e X u) {X' : Nat → Int32} : OkC B n y vC e X' (sR u 2 (cpF y X' 0 61)) := by
  obtain ⟨h1, h2, h3, h4⟩ := h
  refine ⟨h1.tr (Fr.sR (by decide)), ⟨by rw [sR_ne (by decide)]; exact h2.1, fun k hk => by rw [sR_ne (by decide)]; exact h2.2 k hk⟩, by rw [sR_ne (by decide)]; exact h3, sR_same⟩
theorem OkM.tk (hn : n ≤ 120) (hB : ∀ k, B k < 256) (he : e ≤ n) (h : OkM B n k0 vM e X u) : ∃ u', f_X6_must 1 u = some ((), u') ∧ OkM B n k0 vM (tE B n e) X u' ∧ u'.1 25 4 = u.1 25 4 := by
  obtain ⟨h1, h2, h3, h4, h5, h6⟩ := h
  have hk := p_tk hn hB (tE_le (B := B) he) h2 h3.2.2
  rw [p_must1 h4]
  refine ⟨_, hk, ⟨h1.tr (Fr.sR (by decide)), h2.up (by rw [upd_ne (by decide), upd_ne (by decide)]), ⟨?_, ?_, ?_⟩, ?_, ?_, ?_⟩, ?_⟩
  · rw [sR_same, upd_ne (by decide), upd_ne (by decide)]; exact h2.1
  · rw [sR_same, upd_ne (by decide), upd_at]
  · rw [sR_same, upd_at]
  · rw [sR_same, upd_ne (by decide), upd_ne (by decide)]; exact h4
  · rw [sR_same, upd_ne (by decide), upd_ne (by decide)]; exact h5
  · rw [sR_ne (by decide)]; exact h6
  · rw [sR_same, upd_ne (by decide), upd_ne (by decide)]
theorem OkM.m0 (h : OkM B n k0 vM e X u) (hX : XOk s0 X) : ∃ u', f_X6_must 0 u = some ((), u') ∧ BadM B n k0 vM s0 e u' ∧ u'.1 20 = X := by
  obtain ⟨h1, h2, h3, h4, h5, h6⟩ := h
  refine ⟨_, p_must0 h4, ⟨h1.tr (Fr.sR (by decide)), h2.up (upd_ne (by decide)), ⟨?_, ?_, ?_⟩, ?_, ?_, fun k hk => ?_⟩, by rw [sR_ne (by decide)]; exact h6⟩
  · rw [sR_same, upd_ne (by decide)]; exact h2.1
  · rw [sR_same, upd_ne (by decide)]; exact h3.2.1
  · rw [sR_same, upd_ne (by decide)]; exact h3.2.2
  · rw [sR_same, upd_at]
  · rw [sR_same, upd_ne (by decide)]; exact h5
  · rw [sR_ne (by decide), h6]; exact hX.2 k hk
theorem OkM.w4 (h : OkM B n k0 vM e X u) (x : Int32) : OkM B n k0 vM e X (w1 u 25 4 x) := by
  obtain ⟨h1, h2, h3, h4, h5, h6⟩ := h
  rw [w1_sR]
  refine ⟨h1.tr (Fr.sR (by decide)), h2.up (upd_ne (by decide)), ⟨?_, ?_, ?_⟩, ?_, ?_, ?_⟩
  · rw [sR_same, upd_ne (by decide)]; exact h2.1
  · rw [sR_same, upd_ne (by decide)]; exact h3.2.1
  · rw [sR_same, upd_ne (by decide)]; exact h3.2.2
  · rw [sR_same, upd_ne (by decide)]; exact h4
  · rw [sR_same, upd_ne (by decide)]; exact h5
  · rw [sR_ne (by decide)]; exact h6
theorem OkM.w20 (h : OkM B n k0 vM e X u) {X' : Nat → Int32} : OkM B n k0 vM e X' (sR u 20 X') := by
  obtain ⟨h1, h2, h3, h4, h5, h6⟩ := h
  refine ⟨h1.tr (Fr.sR (by decide)), ⟨by rw [sR_ne (by decide)]; exact h2.1, fun k hk => by rw [sR_ne (by decide)]; exact h2.2 k hk⟩, by rw [sR_ne (by decide)]; exact h3, by rw [sR_ne (by decide)]; exact h4, by rw [sR_ne (by decide)]; exact h5, sR_same⟩
theorem OkM.num (hn : n ≤ 120) (hB : ∀ k, B k < 256) (he : e ≤ n) (h : OkM B n k0 vM e X u) {lo hi : Int32} (hq : nOk B n e lo hi = true) : ∃ u', f_X6_number lo hi u = some ((), u') ∧ OkM B n k0 vM (tE B n e) X u' ∧ u'.1 25 4 = nI (tv B n e) := by
  obtain ⟨x, hx, hN⟩ := p_number (lo := lo) (hi := hi) hn hB he h.2.1 h.2.2.1 h.2.2.2.1
  obtain ⟨u', k1, k2, k3⟩ := (h.w4 x).tk hn hB he
  rw [if_pos hq, k1] at hN
  refine ⟨u', hN, k2, ?_⟩
  rw [k3, w1_sR, sR_same, upd_at]
  exact hx (of_decide_eq_true hq).1
theorem OkM.numB (hn : n ≤ 120) (hB : ∀ k, B k < 256) (he : e ≤ n) (h : OkM B n k0 vM e X u) (hX : XOk s0 X) {lo hi : Int32} (hq : ¬ nOk B n e lo hi = true) : ∃ u', f_X6_number lo hi u = some ((), u') ∧ BadM B n k0 vM s0 e u' ∧ u'.1 20 = X := by
  obtain ⟨x, hx, hN⟩ := p_number (lo := lo) (hi := hi) hn hB he h.2.1 h.2.2.1 h.2.2.2.1
  obtain ⟨u', k1, k2, k3⟩ := (h.w4 x).m0 hX
  rw [if_neg hq, k1] at hN
  exact ⟨u', hN, k2, k3⟩
theorem BadM.word (hn : n ≤ 120) (hB : ∀ k, B k < 256) (he : e ≤ n) (h : BadM B n k0 vM s0 e u) : f_X6_word u = some (0, u) := p_wordW hn hB he h.2.1 h.2.2.1 (by rw [h.2.2.2.1]; decide)
end Steps
/-- what two parts of the readers do alike -/
def Sim (B : Nat → Nat) (n : Nat) (y s0 : Nat → Int32) (k0 : Int32) (vC vM : Uw) (P : (Nat → Int32) → Prop) (f : Option (Bool × Uw)) (g : Option (Unit × Uw)) (e : Nat) : Prop :=
  (∃ e' X' uC uM, f = some (true, uC) ∧ g = some ((), uM) ∧ e ≤ e' ∧ e' ≤ n ∧ OkC B n y vC e' X' uC ∧ OkM B n k0 vM e' X' uM ∧ XOk s0 X' ∧ P X') ∨ (∃ e' uC uM, f = some (false, uC) ∧ g = some ((), uM) ∧ e' ≤ n ∧ BadC B n vC e' uC ∧ BadM B n k0 vM s0 e' uM)
