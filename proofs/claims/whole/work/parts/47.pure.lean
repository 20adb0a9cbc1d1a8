/-! PURE 8: days; drink; all together; who is well; now, count, status -/
theorem pilsS_get {h : Int32 → Bool} {tr pw : Int32} : ∀ (j q : Nat) (s : Nat → Int32) (k : Nat), getT (pilsS h tr pw q j s) (37 + 3 * k) = if q ≤ k ∧ k < q + j then passT (getT s (37 + 3 * k)) h tr pw else getT s (37 + 3 * k) := by
  intro j
  induction j with
  | zero => intro q s k; rw [if_neg (by omega)]; rfl
  | succ j ih =>
    intro q s k
    rw [pilsS, ih (q + 1)]
    by_cases e : k = q
    · subst e
      rw [if_neg (by omega), if_pos (by omega), getT_set]
    · have e2 : getT (setT s (37 + 3 * q) (passT (getT s (37 + 3 * q)) h tr pw)) (37 + 3 * k) = getT s (37 + 3 * k) := by
        unfold getT
        rw [setT_ne (by omega), setT_ne (by omega), setT_ne (by omega)]
      rw [e2]
      by_cases h1 : q + 1 ≤ k ∧ k < q + 1 + j
      · rw [if_pos h1, if_pos (by omega)]
      · rw [if_neg h1, if_neg (by omega)]
theorem endS_hi {h : Int32 → Bool} {s : Nat → Int32} {k : Nat} (hk : 7 ≤ k) : endS h s k = s k := by
  unfold endS jugS
  rw [upd_ne (by omega)]
  split
  · split <;> exact upd_ne (by omega)
  · rfl
theorem endS_lo {h : Int32 → Bool} {s : Nat → Int32} {k : Nat} (h2 : k ≠ 2) (h5 : k ≠ 5) (h6 : k ≠ 6) : endS h s k = s k := by
  unfold endS jugS
  rw [upd_ne h2]
  split
  · split
    · exact upd_ne h5
    · exact upd_ne h6
  · rfl
theorem day_2 {s : Nat → Int32} : dayS s 2 = s 2 + 1 := by
  unfold dayS endS
  rw [upd_at, pilsS_lo _ _ _ _ (by omega)]
theorem day_lo {s : Nat → Int32} {k : Nat} (hk : k < 37) (h2 : k ≠ 2) (h5 : k ≠ 5) (h6 : k ≠ 6) : dayS s k = s k := by
  unfold dayS
  rw [endS_lo h2 h5 h6, pilsS_lo _ _ _ _ (by omega)]
theorem day_get {s : Nat → Int32} {m p w q : Nat} (h : GdW s m p w) (hq : q < p) : getT (dayS s) (37 + 3 * q) = passT (getT s (37 + 3 * q)) (fun x => hb s x (s 2)) (s 4) (s 3) := by
  have e : getT (dayS s) (37 + 3 * q) = getT (pilsS (fun x => hb s x (s 2)) (s 4) (s 3) 0 (s 1).toNatClampNeg s) (37 + 3 * q) := by
    unfold getT dayS
    rw [endS_hi (by omega), endS_hi (by omega), endS_hi (by omega)]
  rw [e, h.2.2.1, nI_clamp (by have := h.2.2.2.1; omega), pilsS_get, if_pos (by omega)]
theorem GdW.day {s : Nat → Int32} {m p w : Nat} (h : GdW s m p w) : GdW (dayS s) m p w := by
  have hg := fun q (hq : q < p) => day_get (q := q) h hq
  obtain ⟨a1, a2, a3, a4, a5, a6, ⟨g5, b5, e5⟩, ⟨g6, b6, e6⟩, a9, a10⟩ := h
  have jug : (∃ g, g ≤ 99 ∧ dayS s 5 = nI g) ∧ (∃ g, g ≤ 99 ∧ dayS s 6 = nI g) := by
    unfold dayS endS jugS
    rw [upd_ne (show (5 : Nat) ≠ 2 by decide), upd_ne (show (6 : Nat) ≠ 2 by decide)]
    split
    · split
      · rw [upd_at, upd_ne (show (6 : Nat) ≠ 5 by decide), pilsS_lo _ _ _ _ (by omega), pilsS_lo _ _ _ _ (by omega), e5, show (99 : Int32) = nI 99 from rfl, min_up b5 (by decide)]
        exact ⟨⟨_, by omega, rfl⟩, ⟨g6, b6, e6⟩⟩
      · rw [upd_at, upd_ne (show (5 : Nat) ≠ 6 by decide), pilsS_lo _ _ _ _ (by omega), pilsS_lo _ _ _ _ (by omega), e6, show (99 : Int32) = nI 99 from rfl, min_up b6 (by decide)]
        exact ⟨⟨g5, b5, e5⟩, ⟨_, by omega, rfl⟩⟩
    · rw [pilsS_lo _ _ _ _ (by omega), pilsS_lo _ _ _ _ (by omega)]
      exact ⟨⟨g5, b5, e5⟩, ⟨g6, b6, e6⟩⟩
  refine ⟨by rw [day_lo (by decide) (by decide) (by decide) (by decide)]; exact a1, a2, by rw [day_lo (by decide) (by decide) (by decide) (by decide)]; exact a3, a4, by rw [day_lo (by decide) (by decide) (by decide) (by decide)]; exact a5, a6, jug.1, jug.2, fun c hc => ?_, fun q hq => ?_⟩
  · have h9 := a9 c hc
    unfold CalOk row5 at h9 ⊢
    rw [day_lo (by omega) (by omega) (by omega) (by omega), day_lo (by omega) (by omega) (by omega) (by omega), day_lo (by omega) (by omega) (by omega) (by omega), day_lo (by omega) (by omega) (by omega) (by omega), day_lo (by omega) (by omega) (by omega) (by omega)]
    exact h9
  · rw [hg q hq, a5]
    exact pass_Ps (a10 q hq) a6.2 _ _
def itS : Nat → (Nat → Int32) → (Nat → Int32)
  | 0, s => s
  | n + 1, s => itS n (dayS s)
theorem GdW.it {m p w : Nat} : ∀ (n : Nat) {s : Nat → Int32}, GdW s m p w → GdW (itS n s) m p w
  | 0, _, h => h
  | n + 1, _, h => GdW.it n h.day
theorem it_2 : ∀ (n : Nat) (s : Nat → Int32) (d : Nat), s 2 = nI d → itS n s 2 = nI (d + n)
  | 0, _, _, h => h
  | n + 1, s, d, h => by
    rw [itS, it_2 n (dayS s) (d + 1) (by rw [day_2, h, nI_1]), show d + 1 + n = d + (n + 1) by omega]
theorem it_4 : ∀ (n : Nat) (s : Nat → Int32), itS n s 4 = s 4
  | 0, _ => rfl
  | n + 1, s => by rw [itS, it_4 n, day_lo (by decide) (by decide) (by decide) (by decide)]
/-! sums and sets -/
def sumG (s : Nat → Int32) (k : Nat) : Nat → Nat → Int32 → Int32
  | _, 0, acc => acc
  | q, j + 1, acc => sumG s k (q + 1) j (acc + s (37 + 3 * q + k))
def sumS (s : Nat → Int32) (k : Nat) : Int32 := sumG s k 0 (s 1).toNatClampNeg 0
def wellS (s : Nat → Int32) : Int32 := hsG (fun q => decide (s (37 + 3 * q) = 0)) 0 (s 1).toNatClampNeg 0
section Sums
variable {u : Uw} {p : Nat}
theorem l_ill (hp : u.1 0 1 = nI p) (hp8 : p ≤ 8) : ∀ (j q n : Nat) (acc : Int32), q + j = p → j < n → lp b_X3_illOfAll_4 n (0, acc, nI q, u) = some (sumG (u.1 0) 0 q j acc, u) := by
  intro j
  induction j with
  | zero =>
    intro q n acc h1 h2
    obtain ⟨n, rfl⟩ : ∃ k, n = k + 1 := ⟨n - 1, by omega⟩
    rw [lp_s]
    generalize lp b_X3_illOfAll_4 n = g
    unfold b_X3_illOfAll_4
    dsimp only
    rw [ck_pos s0t, s0r, s0o, hp, if_pos (nI_le (by omega) (by omega))]
    rfl
  | succ j ih =>
    intro q n acc h1 h2
    obtain ⟨n, rfl⟩ : ∃ k, n = k + 1 := ⟨n - 1, by omega⟩
    have ih2 := fun acc' => ih (q + 1) n acc' (by omega) (by omega)
    have hq8 : q < 8 := by omega
    obtain ⟨g1, g2, g3⟩ := q_pil hq8
    rw [lp_s]
    generalize lp b_X3_illOfAll_4 n = g at ih2 ⊢
    unfold b_X3_illOfAll_4
    dsimp only
    rw [ck_pos s0t, s0r, s0o, hp, if_neg (nI_ge (by omega) (by omega)), ck_pos s0b, if_neg (show ¬ (8 : Int32) ≤ nI q from nI_ge (b := 8) (by omega) (by decide)), ck_pos (inb_nI (by omega) (by decide)), nm_eq, nI_clamp (by omega), show 0 + 2 + 13 + q = pp 0 q from pp_eq 0 q, ck_pos g1, g2, g3, nm_eq, nI_1, ih2]
    rfl
theorem q_ill (hp : u.1 0 1 = nI p) (hp8 : p ≤ 8) : f_X3_illOfAll 0 u = some (sumS (u.1 0) 0, u) := by
  unfold f_X3_illOfAll sumS
  rw [hp, nI_clamp (by omega)]
  exact l_ill hp hp8 p 0 2100 0 (by omega) (by omega)
theorem l_bathed (hp : u.1 0 1 = nI p) (hp8 : p ≤ 8) : ∀ (j q n : Nat) (acc : Int32), q + j = p → j < n → lp b_X3_bathedOfAll_4 n (0, acc, nI q, u) = some (sumG (u.1 0) 2 q j acc, u) := by
  intro j
  induction j with
  | zero =>
    intro q n acc h1 h2
    obtain ⟨n, rfl⟩ : ∃ k, n = k + 1 := ⟨n - 1, by omega⟩
    rw [lp_s]
    generalize lp b_X3_bathedOfAll_4 n = g
    unfold b_X3_bathedOfAll_4
    dsimp only
    rw [ck_pos s0t, s0r, s0o, hp, if_pos (nI_le (by omega) (by omega))]
    rfl
  | succ j ih =>
    intro q n acc h1 h2
    obtain ⟨n, rfl⟩ : ∃ k, n = k + 1 := ⟨n - 1, by omega⟩
    have ih2 := fun acc' => ih (q + 1) n acc' (by omega) (by omega)
    have hq8 : q < 8 := by omega
    obtain ⟨g1, g2, g3⟩ := q_pil hq8
    rw [lp_s]
    generalize lp b_X3_bathedOfAll_4 n = g at ih2 ⊢
    unfold b_X3_bathedOfAll_4
    dsimp only
    rw [ck_pos s0t, s0r, s0o, hp, if_neg (nI_ge (by omega) (by omega)), ck_pos s0b, if_neg (show ¬ (8 : Int32) ≤ nI q from nI_ge (b := 8) (by omega) (by decide)), ck_pos (inb_nI (by omega) (by decide)), nm_eq, nI_clamp (by omega), show 0 + 2 + 13 + q = pp 0 q from pp_eq 0 q, ck_pos g1, g2, g3, nm_eq, nI_1, ih2]
    rfl
theorem q_bathed (hp : u.1 0 1 = nI p) (hp8 : p ≤ 8) : f_X3_bathedOfAll 0 u = some (sumS (u.1 0) 2, u) := by
  unfold f_X3_bathedOfAll sumS
  rw [hp, nI_clamp (by omega)]
  exact l_bathed hp hp8 p 0 2100 0 (by omega) (by omega)
theorem l_well (hp : u.1 0 1 = nI p) (hp8 : p ≤ 8) : ∀ (j q n : Nat) (acc : Int32), q + j = p → j < n → lp b_X3_wellSet_4 n (0, acc, nI q, u) = some (hsG (fun q => decide (u.1 0 (37 + 3 * q) = 0)) q j acc, u) := by
  intro j
  induction j with
  | zero =>
    intro q n acc h1 h2
    obtain ⟨n, rfl⟩ : ∃ k, n = k + 1 := ⟨n - 1, by omega⟩
    rw [lp_s]
    generalize lp b_X3_wellSet_4 n = g
    unfold b_X3_wellSet_4
    dsimp only
    rw [ck_pos s0t, s0r, s0o, hp, if_pos (nI_le (by omega) (by omega))]
    rfl
  | succ j ih =>
    intro q n acc h1 h2
    obtain ⟨n, rfl⟩ : ∃ k, n = k + 1 := ⟨n - 1, by omega⟩
    have ih2 := fun acc' => ih (q + 1) n acc' (by omega) (by omega)
    have hq8 : q < 8 := by omega
    obtain ⟨g1, g2, g3⟩ := q_pil hq8
    rw [lp_s]
    generalize lp b_X3_wellSet_4 n = g at ih2 ⊢
    unfold b_X3_wellSet_4
    dsimp only
    rw [ck_pos s0t, s0r, s0o, hp, if_neg (nI_ge (by omega) (by omega)), ck_pos s0b, if_neg (show ¬ (8 : Int32) ≤ nI q from nI_ge (b := 8) (by omega) (by decide)), ck_pos (inb_nI (by omega) (by decide)), nm_eq, nI_clamp (by omega), show 0 + 2 + 13 + q = pp 0 q from pp_eq 0 q, ck_pos g1, g2, g3, nm_eq, nI_1, ih2, ih2, hsG, Nat.add_zero]
    by_cases h : u.1 0 (37 + 3 * q) = 0
    · rw [if_pos h, if_pos (decide_eq_true h)]
    · rw [if_neg h, if_neg (by rw [decide_eq_false h]; decide)]
theorem q_well (hp : u.1 0 1 = nI p) (hp8 : p ≤ 8) : f_X3_wellSet 0 u = some (wellS (u.1 0), u) := by
  unfold f_X3_wellSet wellS
  rw [hp, nI_clamp (by omega)]
  exact l_well hp hp8 p 0 2100 0 (by omega) (by omega)
theorem l_tog (hp : u.1 20 1 = nI p) (hp8 : p ≤ 8) {k : Nat} (hk : k < 3) : ∀ (j q n : Nat) (acc : Int32), q + j = p → j < n → lp b_X6_together_4 n (nI k, acc, nI q, u) = some (sumG (u.1 20) k q j acc, u) := by
  intro j
  induction j with
  | zero =>
    intro q n acc h1 h2
    obtain ⟨n, rfl⟩ : ∃ k, n = k + 1 := ⟨n - 1, by omega⟩
    rw [lp_s]
    generalize lp b_X6_together_4 n = g
    unfold b_X6_together_4
    dsimp only
    rw [tn1, nm_eq, hp, if_pos (nI_le (by omega) (by omega))]
    rfl
  | succ j ih =>
    intro q n acc h1 h2
    obtain ⟨n, rfl⟩ : ∃ k, n = k + 1 := ⟨n - 1, by omega⟩
    have ih2 := fun acc' => ih (q + 1) n acc' (by omega) (by omega)
    rw [lp_s]
    generalize lp b_X6_together_4 n = g at ih2 ⊢
    unfold b_X6_together_4
    dsimp only
    rw [tn1, nm_eq, hp, if_neg (nI_ge (by omega) (by omega)), p_isOf (show q < 8 by omega) hk rfl, bd_eq, nm_eq, nI_1, ih2]
    rfl
theorem p_tog (hp : u.1 20 1 = nI p) (hp8 : p ≤ 8) {k : Nat} (hk : k < 3) {x : Int32} (hx : x = nI k) : f_X6_together x u = some (sumS (u.1 20) k, u) := by
  subst hx
  unfold f_X6_together sumS
  rw [hp, nI_clamp (by omega)]
  exact l_tog hp hp8 hk p 0 2100 0 (by omega) (by omega)
theorem or_0 (x : Int32) : x ||| 0 = x := Int32.or_zero
theorem l_wo (hp : u.1 20 1 = nI p) (hp8 : p ≤ 8) : ∀ (j q n : Nat) (acc : Int32), q + j = p → j < n → lp b_X6_wellOnes_4 n (acc, nI q, u) = some (hsG (fun q => decide (u.1 20 (37 + 3 * q) = 0)) q j acc, u) := by
  intro j
  induction j with
  | zero =>
    intro q n acc h1 h2
    obtain ⟨n, rfl⟩ : ∃ k, n = k + 1 := ⟨n - 1, by omega⟩
    rw [lp_s]
    generalize lp b_X6_wellOnes_4 n = g
    unfold b_X6_wellOnes_4
    dsimp only
    rw [tn1, nm_eq, hp, if_pos (nI_le (by omega) (by omega))]
    rfl
  | succ j ih =>
    intro q n acc h1 h2
    obtain ⟨n, rfl⟩ : ∃ k, n = k + 1 := ⟨n - 1, by omega⟩
    have ih2 := fun acc' => ih (q + 1) n acc' (by omega) (by omega)
    rw [lp_s]
    generalize lp b_X6_wellOnes_4 n = g at ih2 ⊢
    unfold b_X6_wellOnes_4
    dsimp only
    rw [tn1, nm_eq, hp, if_neg (nI_ge (by omega) (by omega)), p_isOf (show q < 8 by omega) (show 0 < 3 by decide) (x := (0 : Int32)) rfl, bd_eq, nm_eq, nm_eq, nI_1, ih2, ih2, or_0, hsG, Nat.add_zero]
    by_cases h : u.1 20 (37 + 3 * q) = 0
    · rw [if_pos h, if_pos (decide_eq_true h)]
    · rw [if_neg h, if_neg (by rw [decide_eq_false h]; decide)]
theorem p_wo (hp : u.1 20 1 = nI p) (hp8 : p ≤ 8) : f_X6_wellOnes u = some (wellS (u.1 20), u) := by
  unfold f_X6_wellOnes wellS
  rw [hp, nI_clamp (by omega)]
  exact l_wo hp hp8 p 0 2100 0 (by omega) (by omega)
end Sums
/-! how many ones -/
def bcI (a : Int32) : Int32 :=
  nm (a - ((a.toUInt32 >>> ((1 : Int32).toUInt32 &&& Int32.toUInt32 31)).toInt32 &&& 1431655765)) fun x1 =>
  nm ((x1 &&& 858993459) + ((x1.toUInt32 >>> ((2 : Int32).toUInt32 &&& Int32.toUInt32 31)).toInt32 &&& 858993459)) fun x2 =>
  nm ((x2 + (x2.toUInt32 >>> ((4 : Int32).toUInt32 &&& Int32.toUInt32 31)).toInt32) &&& 252645135) fun x3 =>
  nm (x3 + (x3.toUInt32 >>> ((8 : Int32).toUInt32 &&& Int32.toUInt32 31)).toInt32) fun x4 =>
  nm (x4 + (x4.toUInt32 >>> ((16 : Int32).toUInt32 &&& Int32.toUInt32 31)).toInt32) fun x5 => x5 &&& 63
theorem p_bc (a : Int32) (u : Uw) : f_J6_bitCount_0f7a4 a u = some (bcI a, u) := rfl
def onesP : Nat → Int32 → Int32 → Option Int32
  | 0, _, _ => none
  | n + 1, acc, x => if x = 0 then some acc else onesP n (acc + 1) (x &&& (x - 1))
theorem l_ones (u : Uw) : ∀ (n : Nat) (acc x : Int32), lp b_X6_ones_4 n (acc, x, u) = (onesP n acc x).map (fun r => (r, u)) := by
  intro n
  induction n with
  | zero => intro acc x; rfl
  | succ n ih =>
    intro acc x
    rw [lp_s]
    generalize lp b_X6_ones_4 n = g at ih ⊢
    unfold b_X6_ones_4
    dsimp only
    rw [nm_eq, ih, onesP]
    split <;> rfl
def bL8 (b0 b1 b2 b3 b4 b5 b6 b7 : Bool) (c : Nat) : Bool := [b0, b1, b2, b3, b4, b5, b6, b7].getD c false
theorem ones8 : ∀ b0 b1 b2 b3 b4 b5 b6 b7 : Bool, ∀ p, p < 9 → onesP 20 0 (hsG (bL8 b0 b1 b2 b3 b4 b5 b6 b7) 0 p 0) = some (bcI (hsG (bL8 b0 b1 b2 b3 b4 b5 b6 b7) 0 p 0)) := by decide +kernel
theorem onesP_mono : ∀ (n : Nat) (acc x r : Int32), onesP n acc x = some r → ∀ k, onesP (n + k) acc x = some r := by
  intro n
  induction n with
  | zero => intro acc x r h; cases h
  | succ n ih =>
    intro acc x r h k
    rw [onesP] at h
    rw [show n + 1 + k = (n + k) + 1 by omega, onesP]
    split
    · rename_i hx; rw [if_pos hx] at h; exact h
    · rename_i hx; rw [if_neg hx] at h; exact ih _ _ _ h k
theorem p_ones {f : Nat → Bool} {p : Nat} (hp : p ≤ 8) (u : Uw) : f_X6_ones (hsG f 0 p 0) u = some (bcI (hsG f 0 p 0), u) := by
  have e : hsG f 0 p 0 = hsG (bL8 (f 0) (f 1) (f 2) (f 3) (f 4) (f 5) (f 6) (f 7)) 0 p 0 := by
    refine hsG_congr p 0 0 (fun k hk => ?_)
    rcases (show k = 0 ∨ k = 1 ∨ k = 2 ∨ k = 3 ∨ k = 4 ∨ k = 5 ∨ k = 6 ∨ k = 7 by omega) with rfl | rfl | rfl | rfl | rfl | rfl | rfl | rfl <;> rfl
  have h := onesP_mono 20 _ _ _ (ones8 (f 0) (f 1) (f 2) (f 3) (f 4) (f 5) (f 6) (f 7) p (by omega)) 2080
  unfold f_X6_ones
  rw [l_ones, e, h]
  rfl
