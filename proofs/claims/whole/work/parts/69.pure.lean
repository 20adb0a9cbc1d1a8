/-! PURE 30: bytes, tokens -/
def cb (b : Nat) : Int32 := (nI b).toInt8.toInt32
def ltB (b : Nat) : Bool := decide (97 ≤ b ∧ b ≤ 122)
def dgB (b : Nat) : Bool := decide (48 ≤ b ∧ b ≤ 57)
def blB (b : Nat) : Bool := decide (b = 32)
theorem cb_tab : ∀ b, b < 256 → (!(decide (cb b < 97) || decide (122 < cb b))) = ltB b ∧ (!(decide (cb b < 48) || decide (57 < cb b))) = dgB b ∧ decide (cb b = 32) = blB b ∧ decide (cb b = 59) = decide (b = 59) := by decide +kernel
theorem cm_tab : ∀ b, b < 256 → decide (97 ≤ nI b ∧ nI b ≤ 122) = ltB b ∧ decide (48 ≤ nI b ∧ nI b ≤ 57) = dgB b ∧ decide (nI b = 32) = blB b ∧ decide (nI b = 59) = decide (b = 59) := by decide +kernel
theorem cb_lo : ∀ b, b < 128 → cb b = nI b := by decide +kernel
theorem p_ltC {b : Nat} (hb : b < 256) (u : Uw) : f_X4_isLetter (cb b) u = some (ltB b, u) := by
  rw [← (cb_tab b hb).1]
  unfold f_X4_isLetter
  by_cases h1 : cb b < 97
  · simp [h1]
  · by_cases h2 : 122 < cb b
    · simp [h1, h2]
    · simp [h1, h2]
theorem p_dgC {b : Nat} (hb : b < 256) (u : Uw) : f_X4_isDigit (cb b) u = some (dgB b, u) := by
  rw [← (cb_tab b hb).2.1]
  unfold f_X4_isDigit
  by_cases h1 : cb b < 48
  · simp [h1]
  · by_cases h2 : 57 < cb b
    · simp [h1, h2]
    · simp [h1, h2]
theorem p_ltM {b : Nat} (hb : b < 256) (u : Uw) : f_X6_isLetter (nI b) u = some (ltB b, u) := by
  unfold f_X6_isLetter
  rw [show (97 : Int64) = (97 : Int32).toInt64 from rfl, show (122 : Int64) = (122 : Int32).toInt64 from rfl, p_in, bd_eq, (cm_tab b hb).1]
theorem p_dgM {b : Nat} (hb : b < 256) (u : Uw) : f_X6_isDigit (nI b) u = some (dgB b, u) := by
  unfold f_X6_isDigit
  rw [show (48 : Int64) = (48 : Int32).toInt64 from rfl, show (57 : Int64) = (57 : Int32).toInt64 from rfl, p_in, bd_eq, (cm_tab b hb).2.1]
theorem p_ltM1 (u : Uw) : f_X6_isLetter (-1) u = some (false, u) := by
  unfold f_X6_isLetter
  rw [show (97 : Int64) = (97 : Int32).toInt64 from rfl, show (122 : Int64) = (122 : Int32).toInt64 from rfl, p_in, bd_eq]
  rfl
theorem p_dgM1 (u : Uw) : f_X6_isDigit (-1) u = some (false, u) := by
  unfold f_X6_isDigit
  rw [show (48 : Int64) = (48 : Int32).toInt64 from rfl, show (57 : Int64) = (57 : Int32).toInt64 from rfl, p_in, bd_eq]
  rfl
def TpC (B : Nat → Nat) (n : Nat) (u : Uw) : Prop := u.1 7 0 = nI n ∧ ∀ k, k < n → u.1 8 k = cb (B k)
def TpM (B : Nat → Nat) (n : Nat) (u : Uw) : Prop := u.1 25 1 = nI n ∧ ∀ k, k < n → u.1 26 k = nI (B k)
theorem TpC.up {B : Nat → Nat} {n : Nat} {u : Uw} (h : TpC B n u) {R : Nat → Int32} (h0 : R 0 = u.1 7 0) : TpC B n (sR u 7 R) := by
  refine ⟨?_, fun k hk => ?_⟩
  · rw [sR_same, h0]; exact h.1
  · rw [sR_ne (by decide)]; exact h.2 k hk
theorem TpM.up {B : Nat → Nat} {n : Nat} {u : Uw} (h : TpM B n u) {R : Nat → Int32} (h0 : R 1 = u.1 25 1) : TpM B n (sR u 25 R) := by
  refine ⟨?_, fun k hk => ?_⟩
  · rw [sR_same, h0]; exact h.1
  · rw [sR_ne (by decide)]; exact h.2 k hk
theorem q_byte {B : Nat → Nat} {n i : Nat} {u : Uw} (hn : n ≤ 120) (h : TpC B n u) (hi : i < n) : f_X4_byteAt (nI i) u = some (cb (B i), u) := by
  unfold f_X4_byteAt
  rw [if_neg (nI_pos (by omega)), h.1, if_neg (nI_ge hi (by omega)), if_neg (show ¬ (120 : Int32) ≤ nI i from nI_ge (b := 120) (by omega) (by decide)), ck_pos (inb_nI (show i < 120 by omega) (by decide)), nm_eq, nI_clamp (by omega), h.2 i hi]
theorem p_byte {B : Nat → Nat} {n i : Nat} {u : Uw} (hn : n ≤ 120) (h : TpM B n u) (hi : i < n) : f_X6_byteAt (nI i) u = some (nI (B i), u) := by
  unfold f_X6_byteAt
  rw [h.1, if_neg (nI_ge hi (by omega)), ck_pos (inb_nI (show i < 120 by omega) (by decide)), nm_eq, nI_clamp (by omega), h.2 i hi]
theorem p_byteE {B : Nat → Nat} {n i : Nat} {u : Uw} (h : TpM B n u) (hi : n ≤ i) (hi2 : i ≤ 1000) : f_X6_byteAt (nI i) u = some (-1, u) := by
  unfold f_X6_byteAt
  rw [h.1, if_pos (nI_le hi (by omega))]
/-! runs -/
def runF (P : Nat → Bool) : Nat → Nat → Nat
  | 0, i => i
  | j + 1, i => if P i = true then runF P j (i + 1) else i
theorem runF_ge {P : Nat → Bool} : ∀ (j i : Nat), i ≤ runF P j i
  | 0, _ => Nat.le_refl _
  | j + 1, i => by
    rw [runF]
    split
    · exact Nat.le_trans (Nat.le_succ i) (runF_ge j (i + 1))
    · exact Nat.le_refl _
theorem runF_le {P : Nat → Bool} : ∀ (j i : Nat), runF P j i ≤ i + j
  | 0, _ => Nat.le_refl _
  | j + 1, i => by
    rw [runF]
    split
    · have := runF_le (P := P) j (i + 1)
      omega
    · omega
theorem runF_in {P : Nat → Bool} : ∀ (j i k : Nat), i ≤ k → k < runF P j i → P k = true
  | 0, i, k, h1, h2 => by rw [runF] at h2; omega
  | j + 1, i, k, h1, h2 => by
    rw [runF] at h2
    by_cases hp : P i = true
    · rw [if_pos hp] at h2
      by_cases e : k = i
      · rw [e]; exact hp
      · exact runF_in j (i + 1) k (by omega) h2
    · rw [if_neg hp] at h2
      omega
section Tok
variable (B : Nat → Nat) (n : Nat)
def tS (e : Nat) : Nat := runF (fun k => blB (B k)) (n - e) e
def tK (e : Nat) : Nat := if n ≤ tS B n e then 0 else if ltB (B (tS B n e)) = true then 1 else if dgB (B (tS B n e)) = true then 2 else if B (tS B n e) = 59 then 3 else 4
def tE (e : Nat) : Nat := if n ≤ tS B n e then tS B n e else if ltB (B (tS B n e)) = true then runF (fun k => ltB (B k)) (n - tS B n e) (tS B n e) else if dgB (B (tS B n e)) = true then runF (fun k => dgB (B k)) (n - tS B n e) (tS B n e) else tS B n e + 1
end Tok
def nC (b : Nat → Nat) : Nat → Nat
  | 0 => 0
  | j + 1 => min 10000 (nC b j * 10 + b j - 48)
def nM (b : Nat → Nat) : Nat → Nat
  | 0 => 0
  | j + 1 => if nM b j ≤ 9999 then 10 * nM b j + b j - 48 else nM b j
theorem nC_nM {b : Nat → Nat} : ∀ (j : Nat), (∀ k, k < j → dgB (b k) = true) → nC b j = min 10000 (nM b j) ∧ nM b j < 100000
  | 0, _ => ⟨rfl, by rw [nM]; decide⟩
  | j + 1, h => by
    obtain ⟨h1, h2⟩ := nC_nM j (fun k hk => h k (by omega))
    have hd : 48 ≤ b j ∧ b j ≤ 57 := of_decide_eq_true (h j (by omega))
    rw [nC, nM, h1]
    split
    · omega
    · omega
theorem tS_ge {B : Nat → Nat} {n e : Nat} : e ≤ tS B n e := runF_ge _ _
theorem tS_le {B : Nat → Nat} {n e : Nat} (h : e ≤ n) : tS B n e ≤ n := by
  have := runF_le (P := fun k => blB (B k)) (n - e) e
  unfold tS
  omega
theorem runF_1 {P : Nat → Bool} {j i : Nat} (h : P i = true) (hj : 0 < j) : runF P j i = runF P (j - 1) (i + 1) := by
  obtain ⟨j, rfl⟩ : ∃ k, j = k + 1 := ⟨j - 1, by omega⟩
  rw [runF, if_pos h]
  rfl
theorem tE_le {B : Nat → Nat} {n e : Nat} (h : e ≤ n) : tE B n e ≤ n := by
  have hs := tS_le (B := B) h
  unfold tE
  split
  · exact hs
  · split
    · have := runF_le (P := fun k => ltB (B k)) (n - tS B n e) (tS B n e)
      omega
    · split
      · have := runF_le (P := fun k => dgB (B k)) (n - tS B n e) (tS B n e)
        omega
      · omega
theorem tE_gt {B : Nat → Nat} {n e : Nat} (h : tS B n e < n) : tS B n e < tE B n e := by
  unfold tE
  rw [if_neg (by omega)]
  by_cases hl : ltB (B (tS B n e)) = true
  · rw [if_pos hl, runF_1 (P := fun k => ltB (B k)) hl (by omega)]
    exact runF_ge (P := fun k => ltB (B k)) _ (tS B n e + 1)
  · rw [if_neg hl]
    by_cases hd : dgB (B (tS B n e)) = true
    · rw [if_pos hd, runF_1 (P := fun k => dgB (B k)) hd (by omega)]
      exact runF_ge (P := fun k => dgB (B k)) _ (tS B n e + 1)
    · rw [if_neg hd]
      omega
theorem tE_ge {B : Nat → Nat} {n e : Nat} : e ≤ tE B n e := by
  have hs := tS_ge (B := B) (n := n) (e := e)
  by_cases h : tS B n e < n
  · have := tE_gt h
    omega
  · unfold tE
    rw [if_pos (by omega)]
    exact hs
theorem tK_0 {B : Nat → Nat} {n e : Nat} : tK B n e = 0 ↔ n ≤ tS B n e := by
  unfold tK
  by_cases h : n ≤ tS B n e
  · rw [if_pos h]; exact ⟨fun _ => h, fun _ => rfl⟩
  · rw [if_neg h]
    refine ⟨fun z => ?_, fun z => absurd z h⟩
    split at z
    · omega
    · split at z
      · omega
      · split at z <;> omega
theorem tE_gt' {B : Nat → Nat} {n e : Nat} (h : tK B n e ≠ 0) : e < tE B n e := by
  have h1 := tE_gt (B := B) (n := n) (e := e) (by rw [Ne, tK_0] at h; omega)
  have := tS_ge (B := B) (n := n) (e := e)
  omega
/-- the class's row 7 with token e -/
def RC (B : Nat → Nat) (n e : Nat) (R : Nat → Int32) : Prop := R 0 = nI n ∧ R 1 = nI (tK B n e) ∧ R 2 = nI (tS B n e) ∧ R 3 = nI (tE B n e) ∧ (tK B n e = 2 → R 4 = nI (nC (fun k => B (tS B n e + k)) (tE B n e - tS B n e)))
section ClassTok
variable {B : Nat → Nat} {n : Nat}
theorem l_91 (hn : n ≤ 120) (hB : ∀ k, B k < 256) : ∀ (j i f : Nat) (u : Uw), TpC B n u → u.1 7 3 = nI i → i + j = n → j < f → lp b_X4_readToken_91 f u = some ((), sR u 7 (upd (u.1 7) 3 (nI (runF (fun k => ltB (B k)) j i)))) := by
  intro j
  induction j with
  | zero =>
    intro i f u hT h3 h1 hf
    obtain ⟨f, rfl⟩ : ∃ k, f = k + 1 := ⟨f - 1, by omega⟩
    rw [lp_s]
    generalize lp b_X4_readToken_91 f = g
    unfold b_X4_readToken_91
    rw [hT.1, h3, if_pos (nI_le (by omega) (by omega)), runF, ← h3, upd_self, sR_self]
  | succ j ih =>
    intro i f u hT h3 h1 hf
    obtain ⟨f, rfl⟩ : ∃ k, f = k + 1 := ⟨f - 1, by omega⟩
    have ih2 := ih (i + 1) f (sR u 7 (upd (u.1 7) 3 (nI (i + 1)))) (hT.up (upd_ne (by decide))) (by rw [sR_same, upd_at]) (by omega) (by omega)
    rw [sR_same, sR_sR, upd_upd] at ih2
    rw [lp_s]
    generalize lp b_X4_readToken_91 f = g at ih2 ⊢
    unfold b_X4_readToken_91
    rw [hT.1, h3, if_neg (nI_ge (by omega) (by omega)), q_byte hn hT (by omega), bd_eq, p_ltC (hB i), bd_eq, nm_eq, h3, nI_1, w1_sR, ih2, runF]
    split
    · rfl
    · rw [← h3, upd_self, sR_self]
theorem upd_43 {R : Nat → Int32} {a b a' b' : Int32} : upd (upd (upd (upd R 4 a) 3 b) 4 a') 3 b' = upd (upd R 4 a') 3 b' := by
  funext k
  unfold upd
  by_cases h3 : k = 3
  · simp [h3]
  · by_cases h4 : k = 4
    · simp [h4]
    · simp [h3, h4]
theorem mn_nat {x : Nat} (hx : x < 2 ^ 30) : mnI 10000 (nI x) = nI (min 10000 x) := by
  unfold mnI
  by_cases h : x < 10000
  · rw [if_pos (show nI x < (10000 : Int32) from nI_lt (b := 10000) h (by decide)), Nat.min_eq_right (by omega)]
  · rw [if_neg (show ¬ nI x < (10000 : Int32) from nI_nlt (b := 10000) (by omega) (by omega)), Nat.min_eq_left (by omega)]
    rfl
theorem nC_le {b : Nat → Nat} : ∀ (j : Nat), nC b j ≤ 10000
  | 0 => by rw [nC]; omega
  | j + 1 => by rw [nC]; omega
theorem l_153 {st : Nat} (hn : n ≤ 120) (hB : ∀ k, B k < 256) : ∀ (j k f : Nat) (u : Uw), TpC B n u → u.1 7 3 = nI (st + k) → u.1 7 4 = nI (nC (fun k => B (st + k)) k) → st + k + j = n → j < f → lp b_X4_readToken_153 f u = some ((), sR u 7 (upd (upd (u.1 7) 4 (nI (nC (fun k => B (st + k)) (runF (fun k => dgB (B k)) j (st + k) - st)))) 3 (nI (runF (fun k => dgB (B k)) j (st + k))))) := by
  intro j
  induction j with
  | zero =>
    intro k f u hT h3 h4 h1 hf
    obtain ⟨f, rfl⟩ : ∃ k, f = k + 1 := ⟨f - 1, by omega⟩
    rw [lp_s]
    generalize lp b_X4_readToken_153 f = g
    unfold b_X4_readToken_153
    rw [hT.1, h3, if_pos (nI_le (by omega) (by omega)), runF, show st + k - st = k by omega, ← h4, upd_self, ← h3, upd_self, sR_self]
  | succ j ih =>
    intro k f u hT h3 h4 h1 hf
    obtain ⟨f, rfl⟩ : ∃ k, f = k + 1 := ⟨f - 1, by omega⟩
    rw [lp_s]
    by_cases hd : dgB (B (st + k)) = true
    · have hd2 : 48 ≤ B (st + k) ∧ B (st + k) ≤ 57 := of_decide_eq_true hd
      have hle := nC_le (b := fun k => B (st + k)) k
      have ih2 := ih (k + 1) f (sR u 7 (upd (upd (u.1 7) 4 (nI (nC (fun k => B (st + k)) (k + 1)))) 3 (nI (st + (k + 1))))) (hT.up (by rw [upd_ne (by decide), upd_ne (by decide)])) (by rw [sR_same, upd_at]) (by rw [sR_same, upd_ne (by decide), upd_at]) (by omega) (by omega)
      rw [sR_same, sR_sR, upd_43] at ih2
      have ev : mnI 10000 (nI (nC (fun k => B (st + k)) k) * 10 + cb (B (st + k)) - 48) = nI (nC (fun k => B (st + k)) (k + 1)) := by
        rw [cb_lo _ (by omega), show (10 : Int32) = nI 10 from rfl, pk_mul, nI_add, show (48 : Int32) = nI 48 from rfl, pk_sub (by omega), mn_nat (by omega), nC]
      generalize lp b_X4_readToken_153 f = g at ih2 ⊢
      unfold b_X4_readToken_153
      rw [hT.1, h3, if_neg (nI_ge (by omega) (by omega)), q_byte hn hT (by omega), bd_eq, p_dgC (hB _), bd_eq, if_pos hd, h3, q_byte hn hT (by omega), bd_eq, h4, ev, nm_eq, w1_sR, nm_eq, w1_sR, sR_same, upd_ne (show (3 : Nat) ≠ 4 by decide), h3, nI_1, sR_sR]
      refine (show _ = _ from ih2).trans ?_
      rw [runF, if_pos hd]
      rfl
    · generalize lp b_X4_readToken_153 f = g
      unfold b_X4_readToken_153
      rw [hT.1, h3, if_neg (nI_ge (by omega) (by omega)), q_byte hn hT (by omega), bd_eq, p_dgC (hB _), bd_eq, if_neg hd, runF, if_neg hd, show st + k - st = k by omega, ← h4, upd_self, ← h3, upd_self, sR_self]
def tlC (v : Uw) : Option (Unit × Uw) :=
  (bd (f_X4_byteAt (v.1 7 2) v) fun r37 u38 =>
  bd (f_X4_isLetter r37 u38) fun r39 u40 =>
  if r39 = true then
  (nm (w1 u40 7 1 (1 : Int32)) fun u53 =>
  lp b_X4_readToken_91 2100 u53)
  else
  (bd (f_X4_byteAt (u40.1 7 2) u40) fun r41 u42 =>
  bd (f_X4_isDigit r41 u42) fun r43 u44 =>
  if r43 = true then
  (nm (w1 u44 7 1 (2 : Int32)) fun u51 =>
  nm (w1 u51 7 4 (0 : Int32)) fun u52 =>
  lp b_X4_readToken_153 2100 u52)
  else
  (bd (f_X4_byteAt (u44.1 7 2) u44) fun r45 u46 =>
  if r45 = (59 : Int32) then
  (nm (w1 u46 7 1 (3 : Int32)) fun u49 =>
  nm (w1 u49 7 3 ((u49.1 7 2) + (1 : Int32))) fun u50 =>
  some ((), u50))
  else
  (nm (w1 u46 7 1 (4 : Int32)) fun u47 =>
  nm (w1 u47 7 3 ((u47.1 7 2) + (1 : Int32))) fun u48 =>
  some ((), u48)))))
theorem p_tlC {e : Nat} (hn : n ≤ 120) (hB : ∀ k, B k < 256) (he : e ≤ n) (hi : tS B n e < n) {v : Uw} (hT : TpC B n v) (h2 : v.1 7 2 = nI (tS B n e)) (h3 : v.1 7 3 = nI (tS B n e)) : ∃ R, tlC v = some ((), sR v 7 R) ∧ RC B n e R := by
  have hnn : ¬ n ≤ tS B n e := by omega
  unfold tlC
  rw [h2, q_byte hn hT hi, bd_eq, p_ltC (hB _), bd_eq]
  by_cases hl : ltB (B (tS B n e)) = true
  · have h := l_91 hn hB (n - tS B n e) (tS B n e) 2100 (sR v 7 (upd (v.1 7) 1 1)) (hT.up (upd_ne (by decide))) (by rw [sR_same, upd_ne (by decide)]; exact h3) (by omega) (by omega)
    rw [sR_same, sR_sR] at h
    have eK : tK B n e = 1 := by unfold tK; rw [if_neg hnn, if_pos hl]
    have eE : tE B n e = runF (fun k => ltB (B k)) (n - tS B n e) (tS B n e) := by unfold tE; rw [if_neg hnn, if_pos hl]
    rw [← eE] at h
    refine ⟨_, by rw [if_pos hl, nm_eq, w1_sR]; exact h, ?_, ?_, ?_, upd_at, fun z => by omega⟩
    · rw [upd_ne (by decide), upd_ne (by decide)]; exact hT.1
    · rw [upd_ne (by decide), upd_at, eK]; rfl
    · rw [upd_ne (by decide), upd_ne (by decide)]; exact h2
  · rw [if_neg hl, h2, q_byte hn hT hi, bd_eq, p_dgC (hB _), bd_eq]
    by_cases hd : dgB (B (tS B n e)) = true
    · have h := l_153 (st := tS B n e) hn hB (n - tS B n e) 0 2100 (sR v 7 (upd (upd (v.1 7) 1 2) 4 0)) (hT.up (by rw [upd_ne (by decide), upd_ne (by decide)])) (by rw [sR_same, upd_ne (by decide), upd_ne (by decide)]; exact h3) (by rw [sR_same, upd_at]; rfl) (by omega) (by omega)
      rw [sR_same, sR_sR] at h
      have eK : tK B n e = 2 := by unfold tK; rw [if_neg hnn, if_neg hl, if_pos hd]
      have eE : tE B n e = runF (fun k => dgB (B k)) (n - tS B n e) (tS B n e) := by unfold tE; rw [if_neg hnn, if_neg hl, if_pos hd]
      rw [Nat.add_zero, ← eE] at h
      refine ⟨_, by rw [if_pos hd, nm_eq, nm_eq, w1_sR, w1_sR, sR_same, sR_sR]; exact h, ?_, ?_, ?_, upd_at, fun z => ?_⟩
      · rw [upd_ne (by decide), upd_ne (by decide), upd_ne (by decide), upd_ne (by decide)]; exact hT.1
      · rw [upd_ne (by decide), upd_ne (by decide), upd_ne (by decide), upd_at, eK]; rfl
      · rw [upd_ne (by decide), upd_ne (by decide), upd_ne (by decide), upd_ne (by decide)]; exact h2
      · rw [upd_ne (by decide), upd_at]
    · rw [if_neg hd, h2, q_byte hn hT hi, bd_eq]
      have eE : tE B n e = tS B n e + 1 := by unfold tE; rw [if_neg hnn, if_neg hl, if_neg hd]
      have ht := (cb_tab _ (hB (tS B n e))).2.2.2
      by_cases h59 : B (tS B n e) = 59
      · have eK : tK B n e = 3 := by unfold tK; rw [if_neg hnn, if_neg hl, if_neg hd, if_pos h59]
        rw [decide_eq_true h59] at ht
        refine ⟨_, by rw [if_pos (of_decide_eq_true ht), nm_eq, nm_eq, w1_sR, w1_sR, sR_same, sR_sR], ?_, ?_, ?_, ?_, fun z => by omega⟩
        · rw [upd_ne (by decide), upd_ne (by decide)]; exact hT.1
        · rw [upd_ne (by decide), upd_at, eK]; rfl
        · rw [upd_ne (by decide), upd_ne (by decide)]; exact h2
        · rw [upd_at, upd_ne (by decide), h2, nI_1, eE]
      · have eK : tK B n e = 4 := by unfold tK; rw [if_neg hnn, if_neg hl, if_neg hd, if_neg h59]
        rw [decide_eq_false h59] at ht
        refine ⟨_, by rw [if_neg (of_decide_eq_false ht), nm_eq, nm_eq, w1_sR, w1_sR, sR_same, sR_sR], ?_, ?_, ?_, ?_, fun z => by omega⟩
        · rw [upd_ne (by decide), upd_ne (by decide)]; exact hT.1
        · rw [upd_ne (by decide), upd_at, eK]; rfl
        · rw [upd_ne (by decide), upd_ne (by decide)]; exact h2
        · rw [upd_at, upd_ne (by decide), h2, nI_1, eE]
theorem l_rt8 {e : Nat} (hn : n ≤ 120) (hB : ∀ k, B k < 256) (he : e ≤ n) : ∀ (j i f : Nat) (u : Uw), TpC B n u → u.1 7 2 = nI i → i + j = n → j < f → runF (fun k => blB (B k)) j i = tS B n e → ∃ R, lp b_X4_readToken_8 f u = some ((), sR u 7 R) ∧ RC B n e R := by
  intro j
  induction j with
  | zero =>
    intro i f u hT h2 h1 hf hr
    obtain ⟨f, rfl⟩ : ∃ k, f = k + 1 := ⟨f - 1, by omega⟩
    rw [runF] at hr
    have ei : i = n := by omega
    have eK : tK B n e = 0 := tK_0.mpr (by omega)
    have eE : tE B n e = tS B n e := by unfold tE; rw [if_pos (by omega)]
    rw [lp_s]
    generalize lp b_X4_readToken_8 f = g
    unfold b_X4_readToken_8
    refine ⟨_, by rw [hT.1, h2, if_pos (nI_le (by omega) (by omega)), nm_eq, w1_sR, sR_same, upd_ne (show (2 : Nat) ≠ 3 by decide), upd_ne (show (0 : Nat) ≠ 3 by decide), hT.1, h2, if_neg (nI_nlt (by omega) (by omega)), nm_eq, w1_sR, sR_same, sR_sR], ?_, ?_, ?_, ?_, fun z => by omega⟩
    · rw [upd_ne (by decide), upd_ne (by decide)]; exact hT.1
    · rw [upd_at, eK]; rfl
    · rw [upd_ne (by decide), upd_ne (by decide), h2, hr]
    · rw [upd_ne (by decide), upd_at, eE, hr]
  | succ j ih =>
    intro i f u hT h2 h1 hf hr
    obtain ⟨f, rfl⟩ : ∃ k, f = k + 1 := ⟨f - 1, by omega⟩
    have ht := (cb_tab _ (hB i)).2.2.1
    rw [runF] at hr
    rw [lp_s]
    by_cases hb : blB (B i) = true
    · rw [if_pos hb] at hr
      rw [hb] at ht
      obtain ⟨R, hR, hC⟩ := ih (i + 1) f (sR u 7 (upd (u.1 7) 2 (nI (i + 1)))) (hT.up (upd_ne (by decide))) (by rw [sR_same, upd_at]) (by omega) (by omega) hr
      rw [sR_sR] at hR
      refine ⟨R, ?_, hC⟩
      generalize lp b_X4_readToken_8 f = g at hR ⊢
      unfold b_X4_readToken_8
      rw [hT.1, h2, if_neg (nI_ge (by omega) (by omega)), q_byte hn hT (by omega), bd_eq, if_pos (of_decide_eq_true ht), nm_eq, h2, nI_1, w1_sR]
      exact hR
    · rw [if_neg hb] at hr
      rw [show blB (B i) = false by cases h : blB (B i) with
        | true => exact absurd h hb
        | false => rfl] at ht
      have hi : tS B n e < n := by omega
      obtain ⟨R, hR, hC⟩ := p_tlC (v := sR u 7 (upd (u.1 7) 3 (nI i))) hn hB he hi (hT.up (upd_ne (by decide))) (by rw [sR_same, upd_ne (by decide), h2, hr]) (by rw [sR_same, upd_at, hr])
      rw [sR_sR] at hR
      refine ⟨R, ?_, hC⟩
      generalize lp b_X4_readToken_8 f = g
      unfold b_X4_readToken_8
      rw [hT.1, h2, if_neg (nI_ge (by omega) (by omega)), q_byte hn hT (by omega), bd_eq, if_neg (of_decide_eq_false ht), nm_eq, h2, w1_sR]
      have hif : (sR u 7 (upd (u.1 7) 3 (nI i))).1 7 2 < (sR u 7 (upd (u.1 7) 3 (nI i))).1 7 0 := by
        rw [sR_same, upd_ne (by decide), upd_ne (by decide), h2, hT.1]
        exact nI_lt (by omega) (by omega)
      rw [if_pos hif]
      exact hR
theorem p_rt {e : Nat} (hn : n ≤ 120) (hB : ∀ k, B k < 256) (he : e ≤ n) {u : Uw} (hT : TpC B n u) (h3 : u.1 7 3 = nI e) : ∃ R, f_X4_readToken u = some ((), sR u 7 R) ∧ RC B n e R := by
  obtain ⟨R, hR, hC⟩ := l_rt8 hn hB he (n - e) e 2100 (sR u 7 (upd (u.1 7) 2 (nI e))) (hT.up (upd_ne (by decide))) (by rw [sR_same, upd_at]) (by omega) (by omega) rfl
  rw [sR_sR] at hR
  refine ⟨R, ?_, hC⟩
  unfold f_X4_readToken
  rw [nm_eq, h3, w1_sR]
  exact hR
end ClassTok
