/-! PURE 31: the model's tokens; words -/
section ModTok
variable {B : Nat → Nat} {n : Nat}
theorem l_86L (hn : n ≤ 120) (hB : ∀ k, B k < 256) : ∀ (j i f : Nat) (u : Uw), TpM B n u → u.1 25 3 = nI i → i + j = n → j < f → lp b_X6_token_86 f (1, 0, u) = some ((), sR u 25 (upd (u.1 25) 3 (nI (runF (fun k => ltB (B k)) j i)))) := by
  intro j
  induction j with
  | zero =>
    intro i f u hT h3 h1 hf
    obtain ⟨f, rfl⟩ : ∃ k, f = k + 1 := ⟨f - 1, by omega⟩
    rw [lp_s]
    generalize lp b_X6_token_86 f = g
    unfold b_X6_token_86
    dsimp only
    rw [if_neg (show ¬ (1 : Int32) = 0 by decide), h3, p_byteE hT (by omega) (by omega), bd_eq, p_ltM1, bd_eq, if_neg (by decide), if_pos rfl, runF, ← h3, upd_self, sR_self]
  | succ j ih =>
    intro i f u hT h3 h1 hf
    obtain ⟨f, rfl⟩ : ∃ k, f = k + 1 := ⟨f - 1, by omega⟩
    have ih2 := ih (i + 1) f (sR u 25 (upd (u.1 25) 3 (nI (i + 1)))) (hT.up (upd_ne (by decide))) (by rw [sR_same, upd_at]) (by omega) (by omega)
    rw [sR_same, sR_sR, upd_upd] at ih2
    rw [lp_s]
    generalize lp b_X6_token_86 f = g at ih2 ⊢
    unfold b_X6_token_86
    dsimp only
    rw [if_neg (show ¬ (1 : Int32) = 0 by decide), h3, p_byte hn hT (by omega), bd_eq, p_ltM (hB i), bd_eq, if_pos (show (0 : Int32) = 0 from rfl), nm_eq, h3, nI_1, w1_sR, ih2, runF]
    split
    · rfl
    · rw [← h3, upd_self, sR_self]
theorem l_86D (hn : n ≤ 120) (hB : ∀ k, B k < 256) : ∀ (j i f : Nat) (u : Uw), TpM B n u → u.1 25 3 = nI i → i + j = n → j < f → lp b_X6_token_86 f (0, 1, u) = some ((), sR u 25 (upd (u.1 25) 3 (nI (runF (fun k => dgB (B k)) j i)))) := by
  intro j
  induction j with
  | zero =>
    intro i f u hT h3 h1 hf
    obtain ⟨f, rfl⟩ : ∃ k, f = k + 1 := ⟨f - 1, by omega⟩
    rw [lp_s]
    generalize lp b_X6_token_86 f = g
    unfold b_X6_token_86
    dsimp only
    rw [if_pos (show (0 : Int32) = 0 from rfl), if_neg (show ¬ (1 : Int32) = 0 by decide), h3, p_byteE hT (by omega) (by omega), bd_eq, p_dgM1, bd_eq, if_neg (by decide), runF, ← h3, upd_self, sR_self]
  | succ j ih =>
    intro i f u hT h3 h1 hf
    obtain ⟨f, rfl⟩ : ∃ k, f = k + 1 := ⟨f - 1, by omega⟩
    have ih2 := ih (i + 1) f (sR u 25 (upd (u.1 25) 3 (nI (i + 1)))) (hT.up (upd_ne (by decide))) (by rw [sR_same, upd_at]) (by omega) (by omega)
    rw [sR_same, sR_sR, upd_upd] at ih2
    rw [lp_s]
    generalize lp b_X6_token_86 f = g at ih2 ⊢
    unfold b_X6_token_86
    dsimp only
    rw [if_pos (show (0 : Int32) = 0 from rfl), if_neg (show ¬ (1 : Int32) = 0 by decide), h3, p_byte hn hT (by omega), bd_eq, p_dgM (hB i), bd_eq, nm_eq, h3, nI_1, w1_sR, ih2, runF]
    split
    · rfl
    · rw [← h3, upd_self, sR_self]
theorem l_86N (f : Nat) (u : Uw) : lp b_X6_token_86 (f + 1) (0, 0, u) = some ((), u) := by
  rw [lp_s]
  generalize lp b_X6_token_86 f = g
  unfold b_X6_token_86
  dsimp only
  rw [if_pos (show (0 : Int32) = 0 from rfl), if_pos (show (0 : Int32) = 0 from rfl)]
theorem lt_dg {b : Nat} (h : ltB b = true) : dgB b = false := by
  have h1 : 97 ≤ b ∧ b ≤ 122 := of_decide_eq_true h
  exact decide_eq_false (by omega)
theorem bfalse {b : Bool} (h : ¬ b = true) : b = false := by
  cases b with
  | true => exact absurd rfl h
  | false => rfl
theorem l_tk8 {e : Nat} (hn : n ≤ 120) (hB : ∀ k, B k < 256) (he : e ≤ n) : ∀ (j i f : Nat) (u : Uw), TpM B n u → u.1 25 2 = nI i → i + j = n → j < f → runF (fun k => blB (B k)) j i = tS B n e → lp b_X6_token_8 f u = some ((), sR u 25 (upd (upd (u.1 25) 2 (nI (tS B n e))) 3 (nI (tE B n e)))) := by
  intro j
  induction j with
  | zero =>
    intro i f u hT h2 h1 hf hr
    obtain ⟨f, rfl⟩ : ∃ k, f = k + 1 := ⟨f - 1, by omega⟩
    rw [runF] at hr
    have ei : i = n := by omega
    have eE : tE B n e = tS B n e := by unfold tE; rw [if_pos (by omega)]
    rw [lp_s]
    generalize lp b_X6_token_8 f = g
    unfold b_X6_token_8
    rw [h2, p_byteE hT (by omega) (by omega), bd_eq, if_neg (show ¬ (-1 : Int32) = 32 by decide), h2, p_byteE hT (by omega) (by omega), bd_eq, p_ltM1, bd_eq, h2, p_byteE hT (by omega) (by omega), bd_eq, p_dgM1, bd_eq, hT.1, h2, if_pos (nI_le (by omega) (by omega)), nm_eq, w1_sR]
    refine (show _ = _ from l_86N 2099 _).trans ?_
    rw [eE, ← hr, ← h2, upd_self]
  | succ j ih =>
    intro i f u hT h2 h1 hf hr
    obtain ⟨f, rfl⟩ : ∃ k, f = k + 1 := ⟨f - 1, by omega⟩
    have ht := (cm_tab _ (hB i)).2.2.1
    rw [runF] at hr
    rw [lp_s]
    by_cases hb : blB (B i) = true
    · rw [if_pos hb] at hr
      rw [hb] at ht
      have hR := ih (i + 1) f (sR u 25 (upd (u.1 25) 2 (nI (i + 1)))) (hT.up (upd_ne (by decide))) (by rw [sR_same, upd_at]) (by omega) (by omega) hr
      rw [sR_same, sR_sR, upd_upd] at hR
      generalize lp b_X6_token_8 f = g at hR ⊢
      unfold b_X6_token_8
      rw [h2, p_byte hn hT (by omega), bd_eq, if_pos (of_decide_eq_true ht), nm_eq, h2, nI_1, w1_sR]
      exact hR
    · rw [if_neg hb] at hr
      rw [bfalse hb] at ht
      have hnn : ¬ n ≤ tS B n e := by omega
      have hi : i < n := by omega
      generalize lp b_X6_token_8 f = g
      unfold b_X6_token_8
      rw [h2, p_byte hn hT hi, bd_eq, if_neg (of_decide_eq_false ht), h2, p_byte hn hT hi, bd_eq, p_ltM (hB i), bd_eq, h2, p_byte hn hT hi, bd_eq, p_dgM (hB i), bd_eq, hT.1, h2, if_neg (nI_ge hi (by omega)), nm_eq, nI_1, w1_sR]
      have hT' : TpM B n (sR u 25 (upd (u.1 25) 3 (nI (i + 1)))) := hT.up (upd_ne (by decide))
      have e3 : (sR u 25 (upd (u.1 25) 3 (nI (i + 1)))).1 25 3 = nI (i + 1) := by rw [sR_same, upd_at]
      have fin : ∀ x, sR u 25 (upd (u.1 25) 3 (nI x)) = sR u 25 (upd (upd (u.1 25) 2 (nI (tS B n e))) 3 (nI x)) := fun x => by rw [← hr, ← h2, upd_self]
      by_cases hl : ltB (B i) = true
      · have eE : tE B n e = runF (fun k => ltB (B k)) (n - (i + 1)) (i + 1) := by
          unfold tE
          rw [if_neg hnn, ← hr, if_pos hl, runF_1 (P := fun k => ltB (B k)) hl (by omega)]
          rfl
        have h := l_86L hn hB (n - (i + 1)) (i + 1) 2100 _ hT' e3 (by omega) (by omega)
        rw [sR_same, sR_sR, upd_upd, ← eE, fin (tE B n e)] at h
        rw [hl, lt_dg hl]
        exact h
      · by_cases hd : dgB (B i) = true
        · have eE : tE B n e = runF (fun k => dgB (B k)) (n - (i + 1)) (i + 1) := by
            unfold tE
            rw [if_neg hnn, ← hr, if_neg hl, if_pos hd, runF_1 (P := fun k => dgB (B k)) hd (by omega)]
            rfl
          have h := l_86D hn hB (n - (i + 1)) (i + 1) 2100 _ hT' e3 (by omega) (by omega)
          rw [sR_same, sR_sR, upd_upd, ← eE, fin (tE B n e)] at h
          rw [bfalse hl, hd]
          exact h
        · have eE : tE B n e = i + 1 := by
            unfold tE
            rw [if_neg hnn, ← hr, if_neg hl, if_neg hd]
          rw [bfalse hl, bfalse hd]
          refine (show _ = _ from l_86N 2099 _).trans ?_
          rw [fin, eE]
theorem p_tk {e : Nat} (hn : n ≤ 120) (hB : ∀ k, B k < 256) (he : e ≤ n) {u : Uw} (hT : TpM B n u) (h3 : u.1 25 3 = nI e) : f_X6_token u = some ((), sR u 25 (upd (upd (u.1 25) 2 (nI (tS B n e))) 3 (nI (tE B n e)))) := by
  have hR := l_tk8 hn hB he (n - e) e 2100 (sR u 25 (upd (u.1 25) 2 (nI e))) (hT.up (upd_ne (by decide))) (by rw [sR_same, upd_at]) (by omega) (by omega) rfl
  rw [sR_same, sR_sR, upd_upd] at hR
  unfold f_X6_token
  rw [nm_eq, h3, w1_sR]
  exact hR
end ModTok
/-! words -/
def cF (b : Nat → Nat) : Nat → Nat
  | 0 => 0
  | j + 1 => if cF b j ≤ 36028797018963967 then 32 * cF b j + (b j - 96) else cF b j
theorem cF_lt {b : Nat → Nat} : ∀ (j : Nat), (∀ k, k < j → ltB (b k) = true) → cF b j < 2 ^ 61
  | 0, _ => by rw [cF]; decide
  | j + 1, h => by
    have h1 := cF_lt j (fun k hk => h k (by omega))
    have h2 : 97 ≤ b j ∧ b j ≤ 122 := of_decide_eq_true (h j (by omega))
    rw [cF]
    split
    · omega
    · exact h1
theorem cF_inj {b c : Nat → Nat} : ∀ (l L : Nat), (∀ k, k < L → ltB (b k) = true) → (∀ k, k < l → ltB (c k) = true) → cF c l ≤ 36028797018963967 → cF b L = cF c l → L = l ∧ ∀ k, k < L → b k = c k := by
  intro l
  induction l with
  | zero =>
    intro L hb hc h1 h2
    cases L with
    | zero => exact ⟨rfl, fun k hk => by omega⟩
    | succ L =>
      have h3 : 97 ≤ b L ∧ b L ≤ 122 := of_decide_eq_true (hb L (by omega))
      rw [cF, cF] at h2
      split at h2 <;> omega
  | succ l ih =>
    intro L hb hc h1 h2
    have h4 : 97 ≤ c l ∧ c l ≤ 122 := of_decide_eq_true (hc l (by omega))
    have hcl : cF c l ≤ 36028797018963967 := by
      rw [cF] at h1
      split at h1
      · omega
      · exact h1
    rw [cF, if_pos hcl] at h1 h2
    cases L with
    | zero =>
      rw [cF] at h2
      omega
    | succ L =>
      have h3 : 97 ≤ b L ∧ b L ≤ 122 := of_decide_eq_true (hb L (by omega))
      rw [cF] at h2
      split at h2
      · obtain ⟨h5, h6⟩ := ih L (fun k hk => hb k (by omega)) (fun k hk => hc k (by omega)) hcl (by omega)
        refine ⟨by omega, fun k hk => ?_⟩
        by_cases e : k = L
        · subst e
          subst h5
          omega
        · exact h6 k (by omega)
      · omega
theorem cF_congr {b c : Nat → Nat} : ∀ (j : Nat), (∀ k, k < j → b k = c k) → cF b j = cF c j
  | 0, _ => rfl
  | j + 1, h => by rw [cF, cF, cF_congr j (fun k hk => h k (by omega)), h j (by omega)]
/-- a text's letters -/
def kb (w i : Nat) : Nat := ((stB.getD w []).getD i 0).toNatClampNeg
def kl (w : Nat) : Nat := stL.getD w 0
theorem kb_lt : ∀ w, w < 14 → ∀ i, i < kl w → ltB (kb w i) = true := by decide +kernel
theorem kl_le : ∀ w, w < 14 → kl w ≤ 7 := by decide +kernel
theorem kc_le : ∀ w, w < 14 → cF (kb w) (kl w) ≤ 36028797018963967 := by decide +kernel
/-- the token is this word -/
def isW (B : Nat → Nat) (n w e : Nat) : Bool := decide (tK B n e = 1 ∧ tE B n e - tS B n e = kl w ∧ ∀ i, i < kl w → B (tS B n e + i) = kb w i)
theorem tK_1 {B : Nat → Nat} {n e : Nat} (he : e ≤ n) : tK B n e = 1 ↔ tS B n e < n ∧ ltB (B (tS B n e)) = true := by
  have hs := tS_le (B := B) he
  unfold tK
  by_cases h : n ≤ tS B n e
  · rw [if_pos h]
    exact ⟨fun z => by omega, fun z => by omega⟩
  · rw [if_neg h]
    by_cases hl : ltB (B (tS B n e)) = true
    · rw [if_pos hl]
      exact ⟨fun _ => ⟨by omega, hl⟩, fun _ => rfl⟩
    · rw [if_neg hl]
      refine ⟨fun z => ?_, fun z => absurd z.2 hl⟩
      split at z
      · omega
      · split at z <;> omega
theorem tok_lt {B : Nat → Nat} {n e : Nat} (he : e ≤ n) (h : tK B n e = 1) : ∀ k, k < tE B n e - tS B n e → ltB (B (tS B n e + k)) = true := by
  obtain ⟨h1, h2⟩ := (tK_1 he).mp h
  intro k hk
  have eE : tE B n e = runF (fun k => ltB (B k)) (n - tS B n e) (tS B n e) := by unfold tE; rw [if_neg (by omega), if_pos h2]
  exact runF_in (P := fun k => ltB (B k)) (n - tS B n e) (tS B n e) (tS B n e + k) (by omega) (by omega)
theorem word_iff {B : Nat → Nat} {n w e : Nat} (he : e ≤ n) (hw : w < 14) (h : tK B n e = 1) : cF (fun k => B (tS B n e + k)) (tE B n e - tS B n e) = cF (kb w) (kl w) ↔ isW B n w e = true := by
  constructor
  · intro q
    obtain ⟨h1, h2⟩ := cF_inj (kl w) _ (tok_lt he h) (kb_lt w hw) (kc_le w hw) q
    exact decide_eq_true ⟨h, h1, fun i hi => h2 i (by omega)⟩
  · intro q
    obtain ⟨-, h1, h2⟩ := of_decide_eq_true q
    rw [h1]
    exact cF_congr _ h2
