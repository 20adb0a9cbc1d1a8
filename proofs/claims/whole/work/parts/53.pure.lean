/-! PURE 14: feed -/
theorem by_low (x : Int32) : (x &&& 255).toInt8 = x.toInt8 := by
  rw [Int32.toInt8_and, show (255 : Int32).toInt8 = -1 from rfl, Int8.and_neg_one]
theorem by_nat (x : Int32) : ∃ b, b < 256 ∧ x &&& 255 = nI b := by
  refine ⟨(x &&& 255).toBitVec.toNat, ?_, ?_⟩
  · show (x.toBitVec &&& (255 : Int32).toBitVec).toNat < 256
    rw [BitVec.toNat_and]
    exact Nat.lt_of_le_of_lt Nat.and_le_right (by decide)
  · show _ = Int32.ofNat _
    rw [Int32.ofNat_bitVecToNat]
    rfl
theorem sR_comm {u : Uw} {a b : Nat} {s t : Nat → Int32} (h : a ≠ b) : sR (sR u a s) b t = sR (sR u b t) a s := by
  unfold sR
  simp only [Prod.mk.injEq, and_true]
  funext x y
  by_cases h1 : x = b
  · subst h1
    simp [Ne.symm h]
  · simp [h1]
def fT (v : Nat → Int32) : Nat → Nat → (Nat → Int32) → (Nat → Int32)
  | 0, _, s => s
  | c + 1, n, s => fT v c (n + 1) (upd s n (v c))
def bC (x : Int32) (c : Nat) : Int32 := (x >>> ((8 * nI c) &&& 31)).toInt8.toInt32
def bM (x : Int32) (c : Nat) : Int32 := (x >>> ((8 * nI c) &&& 31)) &&& 255
theorem m1_eq (c : Nat) : nI c + -1 = nI c - 1 := (Int32.sub_eq_add_neg _ _).symm
theorem p_add {n : Nat} (hn : n < 120) {u : Uw} (h : u.1 7 0 = nI n) (x : Int32) : f_X4_add x.toInt8.toInt32 u = some ((), sR (sR u 8 (upd (u.1 8) n x.toInt8.toInt32)) 7 (upd (u.1 7) 0 (nI (n + 1)))) := by
  unfold f_X4_add
  rw [h, if_neg (show ¬ (120 : Int32) ≤ nI n from nI_ge (b := 120) hn (by decide)), ck_pos (inb_nI hn (by decide)), nm_eq, nm_eq, nI_clamp (by omega), Int8.toInt8_toInt32, w1_sR, w1_sR, sR_ne (show 7 ≠ 8 by decide), h, nI_1]
theorem l_feedC {x : Int32} : ∀ (c n f : Nat) (u : Uw), u.1 7 0 = nI n → n + c ≤ 120 → c < f → lp b_X5_feed_41 f (x, nI c - 1, u) = some (nI (n + c), sR (sR u 8 (fT (bC x) c n (u.1 8))) 7 (upd (u.1 7) 0 (nI (n + c)))) := by
  intro c
  induction c with
  | zero =>
    intro n f u h1 h2 h3
    obtain ⟨f, rfl⟩ : ∃ k, f = k + 1 := ⟨f - 1, by omega⟩
    rw [lp_s]
    generalize lp b_X5_feed_41 f = g
    unfold b_X5_feed_41
    dsimp only
    rw [if_pos (show nI 0 - 1 < 0 by decide), fT, sR_self, Nat.add_zero, ← h1, upd_self, sR_self]
  | succ c ih =>
    intro n f u h1 h2 h3
    obtain ⟨f, rfl⟩ : ∃ k, f = k + 1 := ⟨f - 1, by omega⟩
    have ih2 := ih (n + 1) f (sR (sR u 8 (upd (u.1 8) n (bC x c))) 7 (upd (u.1 7) 0 (nI (n + 1)))) (by rw [sR_same, upd_at]) (by omega) (by omega)
    rw [lp_s]
    generalize lp b_X5_feed_41 f = g at ih2 ⊢
    unfold b_X5_feed_41
    dsimp only
    rw [nI_pred, if_neg (nI_pos (by omega)), p_add (by omega) h1, bd_eq, m1_eq]
    show g (x, nI c - 1, sR (sR u 8 (upd (u.1 8) n (bC x c))) 7 (upd (u.1 7) 0 (nI (n + 1)))) = _
    rw [ih2, sR_same, sR_ne (show 8 ≠ 7 by decide), sR_same, upd_upd, sR_comm (show 7 ≠ 8 by decide), sR_sR, sR_sR, fT, show n + 1 + c = n + (c + 1) by omega]
theorem l_feedM {x : Int32} : ∀ (c n f : Nat) (u : Uw), u.1 25 1 = nI n → n + c ≤ 120 → c < f → lp b_X6_feed_41 f (x, nI c - 1, u) = some (nI (n + c), sR (sR u 26 (fT (bM x) c n (u.1 26))) 25 (upd (u.1 25) 1 (nI (n + c)))) := by
  intro c
  induction c with
  | zero =>
    intro n f u h1 h2 h3
    obtain ⟨f, rfl⟩ : ∃ k, f = k + 1 := ⟨f - 1, by omega⟩
    rw [lp_s]
    generalize lp b_X6_feed_41 f = g
    unfold b_X6_feed_41
    dsimp only
    rw [if_pos (show nI 0 - 1 < 0 by decide), fT, sR_self, Nat.add_zero, ← h1, upd_self, sR_self]
  | succ c ih =>
    intro n f u h1 h2 h3
    obtain ⟨f, rfl⟩ : ∃ k, f = k + 1 := ⟨f - 1, by omega⟩
    have ih2 := ih (n + 1) f (sR (sR u 26 (upd (u.1 26) n (bM x c))) 25 (upd (u.1 25) 1 (nI (n + 1)))) (by rw [sR_same, upd_at]) (by omega) (by omega)
    rw [lp_s]
    generalize lp b_X6_feed_41 f = g at ih2 ⊢
    unfold b_X6_feed_41
    dsimp only
    rw [nI_pred, if_neg (nI_pos (by omega)), h1, ck_pos (inb_nI (by omega) (by decide)), nm_eq, nm_eq, nI_clamp (by omega), w1_sR, w1_sR, sR_ne (show 25 ≠ 26 by decide), h1, nI_1, m1_eq]
    show g (x, nI c - 1, sR (sR u 26 (upd (u.1 26) n (bM x c))) 25 (upd (u.1 25) 1 (nI (n + 1)))) = _
    rw [ih2, sR_same, sR_ne (show 26 ≠ 25 by decide), sR_same, upd_upd, sR_comm (show 25 ≠ 26 by decide), sR_sR, sR_sR, fT, show n + 1 + c = n + (c + 1) by omega]
theorem fT_both {x : Int32} : ∀ (c n : Nat) (s s' : Nat → Int32), (∀ k, k < n → ∃ b, b < 256 ∧ s k = nI b ∧ s' k = (nI b).toInt8.toInt32) → ∀ k, k < n + c → ∃ b, b < 256 ∧ fT (bM x) c n s k = nI b ∧ fT (bC x) c n s' k = (nI b).toInt8.toInt32 := by
  intro c
  induction c with
  | zero => intro n s s' h k hk; exact h k hk
  | succ c ih =>
    intro n s s' h k hk
    rw [fT, fT]
    refine ih (n + 1) _ _ (fun j hj => ?_) k (by omega)
    by_cases e : j = n
    · subst e
      rw [upd_at, upd_at]
      obtain ⟨b, hb, e⟩ := by_nat (x >>> ((8 * nI c) &&& 31))
      refine ⟨b, hb, e, ?_⟩
      rw [← e, by_low]
      rfl
    · rw [upd_ne e, upd_ne e]
      exact h j (by omega)
theorem st_feed (a1 a2 : Int32) : StepT Rel (fun u => f_X5_feed a1 a2 u) (fun u => f_X6_feed a1 a2 u) := by
  intro u hu
  obtain ⟨-, -, -, -, ⟨n, hn, t1, t2, t3⟩, -⟩ := id hu
  by_cases hv : 1 ≤ a2 ∧ a2 ≤ 4
  · obtain ⟨c, k1, k4, rfl⟩ := nI_rng 1 4 (by decide) hv.1 hv.2 (by decide)
    by_cases hs : n + c ≤ 120
    · refine ⟨nI (n + c), sR (sR u 8 (fT (bC a1) c n (u.1 8))) 7 (upd (u.1 7) 0 (nI (n + c))), sR (sR (sR (sR u 8 (fT (bC a1) c n (u.1 8))) 7 (upd (u.1 7) 0 (nI (n + c)))) 26 (fT (bM a1) c n (u.1 26))) 25 (upd (u.1 25) 1 (nI (n + c))), ?_, ?_, ?_⟩
      · show f_X5_feed a1 (nI c) u = _
        unfold f_X5_feed
        rw [p_within, decide_eq_true hv, bd_eq, if_pos rfl, t1, show (120 : Int32) = nI 120 from rfl, pk_sub (by omega), if_pos (nI_le (by omega) (by omega)), nm_eq, l_feedC c n 2100 u t1 hs (by omega)]
      · show f_X6_feed a1 (nI c) _ = _
        unfold f_X6_feed
        rw [L1, L4, p_in, decide_eq_true hv, bd_eq, if_pos rfl, sR_ne (show 25 ≠ 7 by decide), sR_ne (show 25 ≠ 8 by decide), t2, nI_add, if_pos (show nI (n + c) ≤ (120 : Int32) from nI_le (b := 120) hs (by decide)), nm_eq, l_feedM c n 2100 _ (by rw [sR_ne (show 25 ≠ 7 by decide), sR_ne (show 25 ≠ 8 by decide)]; exact t2) hs (by omega), sR_ne (show 26 ≠ 7 by decide), sR_ne (show 26 ≠ 8 by decide), sR_ne (show 25 ≠ 7 by decide), sR_ne (show 25 ≠ 8 by decide)]
      · refine hu.tape (fun r h7 h8 h25 h26 => by rw [sR_ne h25, sR_ne h26, sR_ne h7, sR_ne h8]) rfl ?_ ⟨n + c, hs, ?_, ?_, fun k hk => ?_⟩
        · rw [sR_same, upd_ne (by decide)]
        · rw [sR_ne (by decide), sR_ne (by decide), sR_same, upd_at]
        · rw [sR_same, upd_at]
        · rw [sR_ne (show 26 ≠ 25 by decide), sR_same, sR_ne (show 8 ≠ 25 by decide), sR_ne (show 8 ≠ 26 by decide), sR_ne (show 8 ≠ 7 by decide), sR_same]
          exact fT_both c n _ _ t3 k hk
    · refine ⟨-1000000002, fdC u 1, fdM (fdC u 1) 1, ?_, ?_, hu.fd (by decide)⟩
      · show f_X5_feed a1 (nI c) u = _
        unfold f_X5_feed
        rw [p_within, decide_eq_true hv, bd_eq, if_pos rfl, t1, show (120 : Int32) = nI 120 from rfl, pk_sub (by omega), if_neg (nI_ge (by omega) (by omega)), c1, bd_eq]
      · show f_X6_feed a1 (nI c) _ = _
        unfold f_X6_feed
        rw [L1, L4, p_in, decide_eq_true hv, bd_eq, if_pos rfl, show (fdC u 1).1 25 = u.1 25 from sR_ne (by decide), t2, nI_add, if_neg (show ¬ nI (n + c) ≤ (120 : Int32) from nI_ge (a := 120) (by omega) (by omega)), m1, bd_eq]
  · refine fin_fd hu (k := 0) (by decide) (x := -1000000001) ?_ (fun u' e => ?_)
    · show f_X5_feed a1 a2 u = _
      unfold f_X5_feed
      rw [p_within, decide_eq_false hv, bd_eq, if_neg (by decide), c0, bd_eq]
    · show f_X6_feed a1 a2 u' = _
      unfold f_X6_feed
      rw [L1, L4, p_in, decide_eq_false hv, bd_eq, if_neg (by decide), m0, bd_eq]
