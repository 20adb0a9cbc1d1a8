/-! PURE 32: words and numbers, on both sides -/
theorem isS_w {w : Nat} (hw : w < 14) : isS (110 + w) = true := by
  unfold isS
  rw [decide_eq_true (by omega), decide_eq_true (by omega)]
  rfl
theorem isV_w {w : Nat} (hw : w < 14) : isV (110 + w + 20) = true := by
  unfold isV
  rw [decide_eq_true (by omega), decide_eq_true (by omega)]
  rfl
theorem len_tab : ∀ w, w < 14 → (Int32.ofNat (stL.getD w 0)) >>> ((0 : Int32) &&& 31) = nI (kl w) := by decide +kernel
theorem chr_tab : ∀ w, w < 14 → ∀ i, i < kl w → cI ((((stB.getD w []).getD i 0) &&& (255 : Int32)).toUInt32.toUInt16) = nI (kb w i) := by decide +kernel
theorem p_slen {w : Nat} (hw : w < 14) (u : Uw) : f_J0_length_8abf5 (110 + w) u = some (nI (kl w), u) := by
  unfold f_J0_length_8abf5 f_J0_coder_7d493
  rw [ck_pos (isS_w hw), ck_pos (isV_w hw), ck_pos (isS_w hw), bd_eq, show 110 + w + 20 - 130 = w by omega, len_tab w hw]
theorem p_schr {w i : Nat} (hw : w < 14) (hi : i < kl w) (u : Uw) : ∃ c, f_J0_charAt_5068e (110 + w) (nI i) u = some (c, u) ∧ cI c = nI (kb w i) := by
  have hl := kl_le w hw
  refine ⟨_, ?_, chr_tab w hw i hi⟩
  unfold f_J0_charAt_5068e f_J0_isLatin1_aae02 f_J1_charAt_3b067 f_J0_checkIndex_df160 f_J3_checkIndex_8e157
  rw [ck_pos (isS_w hw), ck_pos (isS_w hw), bd_eq, if_pos rfl, ck_pos (isV_w hw), show 110 + w + 20 - 130 = w by omega, if_neg (nI_pos (by omega)), if_pos (show nI i < Int32.ofNat (stL.getD w 0) from nI_lt hi (by unfold kl at hl; omega)), bd_eq, bd_eq, ck_pos (inb_nI (show i < stL.getD w 0 from hi) (by unfold kl at hl; omega)), nm_eq, nI_clamp (by omega), bd_eq]
def eqF (b c : Nat → Nat) : Nat → Nat → Bool
  | 0, _ => true
  | j + 1, i => if b i = c i then eqF b c j (i + 1) else false
theorem eqF_iff {b c : Nat → Nat} : ∀ (j i : Nat), eqF b c j i = true ↔ ∀ k, i ≤ k → k < i + j → b k = c k := by
  intro j
  induction j with
  | zero => intro i; exact ⟨fun _ k h1 h2 => by omega, fun _ => rfl⟩
  | succ j ih =>
    intro i
    rw [eqF]
    by_cases h : b i = c i
    · rw [if_pos h, ih]
      constructor
      · intro q k h1 h2
        by_cases e : k = i
        · rw [e]; exact h
        · exact q k (by omega) (by omega)
      · exact fun q k h1 h2 => q k (by omega) (by omega)
    · rw [if_neg h]
      exact ⟨fun q => (by cases q), fun q => absurd (q i (by omega) (by omega)) h⟩
section ClassWord
variable {B : Nat → Nat} {n e : Nat} {u : Uw}
theorem l_isW {w : Nat} (hw : w < 14) (hn : n ≤ 120) (hT : TpC B n u) (h2 : u.1 7 2 = nI (tS B n e)) (he : e ≤ n) (hK : tK B n e = 1) (hL : tE B n e - tS B n e = kl w) : ∀ (j i f : Nat), i + j = kl w → j < f → lp b_X4_isWord_28 f (110 + w, nI i, u) = some (eqF (fun k => B (tS B n e + k)) (kb w) j i, u) := by
  have hl := kl_le w hw
  have hE := tE_le (B := B) he
  intro j
  induction j with
  | zero =>
    intro i f h1 hf
    obtain ⟨f, rfl⟩ : ∃ k, f = k + 1 := ⟨f - 1, by omega⟩
    rw [lp_s]
    generalize lp b_X4_isWord_28 f = g
    unfold b_X4_isWord_28
    dsimp only
    rw [ck_pos (isS_w hw), p_slen hw, bd_eq, if_pos (nI_le (by omega) (by omega)), eqF]
  | succ j ih =>
    intro i f h1 hf
    obtain ⟨f, rfl⟩ : ∃ k, f = k + 1 := ⟨f - 1, by omega⟩
    have ih2 := ih (i + 1) f (by omega) (by omega)
    obtain ⟨c, hc1, hc2⟩ := p_schr hw (show i < kl w by omega) u
    have hlt := tok_lt he hK i (by omega)
    have hb : 97 ≤ B (tS B n e + i) ∧ B (tS B n e + i) ≤ 122 := of_decide_eq_true hlt
    have hk : 97 ≤ kb w i ∧ kb w i ≤ 122 := of_decide_eq_true (kb_lt w hw i (by omega))
    rw [lp_s]
    generalize lp b_X4_isWord_28 f = g at ih2 ⊢
    unfold b_X4_isWord_28
    dsimp only
    rw [ck_pos (isS_w hw), p_slen hw, bd_eq, if_neg (nI_ge (by omega) (by omega)), h2, nI_add, q_byte hn hT (by omega), bd_eq, hc1, bd_eq, hc2, cb_lo _ (by omega), nI_1, ih2, eqF]
    by_cases hq : B (tS B n e + i) = kb w i
    · rw [if_pos (by rw [hq]), if_pos hq]
    · rw [if_neg (fun z => hq ((nI_eq (by omega) (by omega)).mp z)), if_neg hq]
theorem p_isW {w : Nat} (hw : w < 14) (hn : n ≤ 120) (hT : TpC B n u) (hR : RC B n e (u.1 7)) (he : e ≤ n) : f_X4_isWord (110 + w) u = some (isW B n w e, u) := by
  obtain ⟨-, r1, r2, r3, -⟩ := hR
  have hE := tE_le (B := B) he
  have hl := kl_le w hw
  have hS := tS_le (B := B) he
  unfold f_X4_isWord
  have hk4 : tK B n e ≤ 4 := by
    unfold tK
    repeat' split
    all_goals omega
  rw [r1]
  by_cases hK : tK B n e = 1
  · have hgt := tE_gt (B := B) (n := n) (e := e) ((tK_1 he).mp hK).1
    rw [if_pos (show nI (tK B n e) = 1 by rw [hK]; rfl), ck_pos (isS_w hw), p_slen hw, bd_eq, r2, r3, pk_sub (by omega)]
    by_cases hL : tE B n e - tS B n e = kl w
    · rw [if_pos (by rw [hL]), show (0 : Int32) = nI 0 from rfl, l_isW hw hn hT r2 he hK hL (kl w) 0 2100 (by omega) (by omega)]
      have : eqF (fun k => B (tS B n e + k)) (kb w) (kl w) 0 = isW B n w e := by
        rw [Bool.eq_iff_iff, eqF_iff]
        unfold isW
        rw [decide_eq_true_iff]
        exact ⟨fun q => ⟨hK, hL, fun i hi => q i (by omega) (by omega)⟩, fun q k _ hk => q.2.2 k (by omega)⟩
      rw [this]
    · rw [if_neg (fun z => hL ((nI_eq (by omega) (by omega)).mp z)), show isW B n w e = false from decide_eq_false (fun q => hL q.2.1)]
  · rw [if_neg (show ¬ nI (tK B n e) = 1 from fun z => hK ((nI_eq (b := 1) (by omega) (by omega)).mp z)), show isW B n w e = false from decide_eq_false (fun q => hK q.1)]
end ClassWord
/-- the kind that the token names -/
def kdI (B : Nat → Nat) (n e : Nat) : Int32 := if isW B n 8 e = true then 0 else if isW B n 9 e = true then 1 else if isW B n 10 e = true then 2 else if isW B n 11 e = true then 3 else if isW B n 12 e = true then 4 else if isW B n 13 e = true then 5 else -1
theorem p_nameOf {k : Nat} (hk : k < 6) (u : Uw) : f_X4_nameOf (nI k) u = some (some (110 + (8 + k)), u) := by
  rcases (show k = 0 ∨ k = 1 ∨ k = 2 ∨ k = 3 ∨ k = 4 ∨ k = 5 by omega) with rfl | rfl | rfl | rfl | rfl | rfl <;> rfl
section ClassKind
variable {B : Nat → Nat} {n e : Nat} {u : Uw}
theorem l_kn {k f : Nat} (hk : k < 6) (hn : n ≤ 120) (hT : TpC B n u) (hR : RC B n e (u.1 7)) (he : e ≤ n) : lp b_X4_kindNamed_2 (f + 1) (nI k, u) = if isW B n (8 + k) e = true then some (nI k, u) else lp b_X4_kindNamed_2 f (nI (k + 1), u) := by
  rw [lp_s]
  generalize lp b_X4_kindNamed_2 f = g
  unfold b_X4_kindNamed_2
  dsimp only
  rw [if_neg (show ¬ (5 : Int32) < nI k from nI_nlt (a := 5) (by omega) (by decide)), p_nameOf hk, bd_eq, ro_some, p_isW (by omega) hn hT hR he, bd_eq, nI_1]
theorem p_kn (hn : n ≤ 120) (hT : TpC B n u) (hR : RC B n e (u.1 7)) (he : e ≤ n) : f_X4_kindNamed u = some (kdI B n e, u) := by
  have hlast : lp b_X4_kindNamed_2 2094 (nI 6, u) = some (-1, u) := by
    show lp b_X4_kindNamed_2 (2093 + 1) (nI 6, u) = _
    rw [lp_s]
    generalize lp b_X4_kindNamed_2 2093 = g
    unfold b_X4_kindNamed_2
    dsimp only
    rw [if_pos (by decide)]
  unfold f_X4_kindNamed kdI
  have h0 := l_kn (k := 0) (f := 2099) (by decide) hn hT hR he
  have h1 := l_kn (k := 1) (f := 2098) (by decide) hn hT hR he
  have h2 := l_kn (k := 2) (f := 2097) (by decide) hn hT hR he
  have h3 := l_kn (k := 3) (f := 2096) (by decide) hn hT hR he
  have h4 := l_kn (k := 4) (f := 2095) (by decide) hn hT hR he
  have h5 := l_kn (k := 5) (f := 2094) (by decide) hn hT hR he
  rw [show 0 + 1 = 1 from rfl] at h0
  rw [show 1 + 1 = 2 from rfl] at h1
  rw [show 2 + 1 = 3 from rfl] at h2
  rw [show 3 + 1 = 4 from rfl] at h3
  rw [show 4 + 1 = 5 from rfl] at h4
  rw [show 5 + 1 = 6 from rfl, hlast] at h5
  refine (show _ = _ from h0).trans ?_
  rw [show lp b_X4_kindNamed_2 2099 (nI 1, u) = _ from h1, show lp b_X4_kindNamed_2 2098 (nI 2, u) = _ from h2, show lp b_X4_kindNamed_2 2097 (nI 3, u) = _ from h3, show lp b_X4_kindNamed_2 2096 (nI 4, u) = _ from h4, show lp b_X4_kindNamed_2 2095 (nI 5, u) = _ from h5]
  repeat' split
  all_goals first | rfl | contradiction
end ClassKind
/-! the model's -/
def wdF (x : Nat → Int32) : Nat → Nat → Int64 → Int64
  | 0, _, acc => acc
  | j + 1, i, acc => wdF x j (i + 1) (if lg_cmp acc 36028797018963967 ≤ 0 then 32 * acc + (x i - 96).toInt64 else acc)
/-- the model's row 25 with token e -/
def RM (B : Nat → Nat) (n e : Nat) (R : Nat → Int32) : Prop := R 1 = nI n ∧ R 2 = nI (tS B n e) ∧ R 3 = nI (tE B n e)
section ModWord
variable {B : Nat → Nat} {n e : Nat} {u : Uw}
theorem p_firstLt (hn : n ≤ 120) (hB : ∀ k, B k < 256) (he : e ≤ n) (hT : TpM B n u) : ∃ r, f_X6_byteAt (nI (tS B n e)) u = some (r, u) ∧ f_X6_isLetter r u = some (decide (tK B n e = 1), u) := by
  have hS := tS_le (B := B) he
  by_cases h : tS B n e < n
  · refine ⟨_, p_byte hn hT h, ?_⟩
    rw [p_ltM (hB _)]
    have := tK_1 (B := B) he
    by_cases hl : ltB (B (tS B n e)) = true
    · rw [hl, decide_eq_true (this.mpr ⟨h, hl⟩)]
    · rw [bfalse hl, decide_eq_false (fun q => hl (this.mp q).2)]
  · refine ⟨_, p_byteE hT (by omega) (by omega), ?_⟩
    rw [p_ltM1, decide_eq_false (fun q => h ((tK_1 he).mp q).1)]
theorem tK_2 (he : e ≤ n) : tK B n e = 2 ↔ tS B n e < n ∧ dgB (B (tS B n e)) = true := by
  have hs := tS_le (B := B) he
  unfold tK
  by_cases h : n ≤ tS B n e
  · rw [if_pos h]
    exact ⟨fun z => by omega, fun z => by omega⟩
  · rw [if_neg h]
    by_cases hl : ltB (B (tS B n e)) = true
    · rw [if_pos hl, lt_dg hl]
      exact ⟨fun z => by omega, fun z => by cases z.2⟩
    · rw [if_neg hl]
      by_cases hd : dgB (B (tS B n e)) = true
      · rw [if_pos hd]
        exact ⟨fun _ => ⟨by omega, hd⟩, fun _ => rfl⟩
      · rw [if_neg hd]
        refine ⟨fun z => ?_, fun z => absurd z.2 hd⟩
        split at z <;> omega
theorem p_firstDg (hn : n ≤ 120) (hB : ∀ k, B k < 256) (he : e ≤ n) (hT : TpM B n u) : ∃ r, f_X6_byteAt (nI (tS B n e)) u = some (r, u) ∧ f_X6_isDigit r u = some (decide (tK B n e = 2), u) := by
  have hS := tS_le (B := B) he
  by_cases h : tS B n e < n
  · refine ⟨_, p_byte hn hT h, ?_⟩
    rw [p_dgM (hB _)]
    have := tK_2 (B := B) he
    by_cases hl : dgB (B (tS B n e)) = true
    · rw [hl, decide_eq_true (this.mpr ⟨h, hl⟩)]
    · rw [bfalse hl, decide_eq_false (fun q => hl (this.mp q).2)]
  · refine ⟨_, p_byteE hT (by omega) (by omega), ?_⟩
    rw [p_dgM1, decide_eq_false (fun q => h ((tK_2 he).mp q).1)]
theorem l_word (hn : n ≤ 120) (hB : ∀ k, B k < 256) (he : e ≤ n) (hT : TpM B n u) (hR : RM B n e (u.1 25)) : ∀ (j i f : Nat) (acc : Int64), i + j = tE B n e → j < f → lp b_X6_word_7 f (acc, nI i, u) = some (if u.1 25 5 = 0 then (if tK B n e = 1 then wdF (u.1 26) j i acc else 0) else 0, u) := by
  have hE := tE_le (B := B) he
  intro j
  induction j with
  | zero =>
    intro i f acc h1 hf
    obtain ⟨f, rfl⟩ : ∃ k, f = k + 1 := ⟨f - 1, by omega⟩
    obtain ⟨r, b1, b2⟩ := p_firstLt hn hB he hT
    rw [lp_s]
    generalize lp b_X6_word_7 f = g
    unfold b_X6_word_7
    dsimp only
    rw [hR.2.2, if_pos (nI_le (by omega) (by omega)), hR.2.1, b1, bd_eq, b2, bd_eq, wdF]
    by_cases h5 : u.1 25 5 = 0
    · rw [if_pos h5, if_pos h5]
      by_cases hk : tK B n e = 1
      · rw [if_pos (decide_eq_true hk), if_pos hk]
      · rw [if_neg (by rw [decide_eq_false hk]; decide), if_neg hk]
    · rw [if_neg h5, if_neg h5]
  | succ j ih =>
    intro i f acc h1 hf
    obtain ⟨f, rfl⟩ : ∃ k, f = k + 1 := ⟨f - 1, by omega⟩
    have ih2 := fun acc' => ih (i + 1) f acc' (by omega) (by omega)
    rw [lp_s]
    generalize lp b_X6_word_7 f = g at ih2 ⊢
    unfold b_X6_word_7
    dsimp only
    rw [hR.2.2, if_neg (nI_ge (by omega) (by omega)), ck_pos (inb_nI (show i < 120 by omega) (by decide)), nm_eq, nm_eq, nI_clamp (by omega), nI_1, ih2, ih2, wdF]
    split <;> rfl
theorem wdF_cF (hT : TpM B n u) (he : e ≤ n) (hB : ∀ k, B k < 256) (hK : tK B n e = 1) : ∀ (j k : Nat), tS B n e + k + j = tE B n e → wdF (u.1 26) j (tS B n e + k) (lN (cF (fun k => B (tS B n e + k)) k)) = lN (cF (fun k => B (tS B n e + k)) (k + j)) := by
  have hE := tE_le (B := B) he
  intro j
  induction j with
  | zero => intro k _; rfl
  | succ j ih =>
    intro k h1
    have hl := tok_lt he hK
    have hb : 97 ≤ B (tS B n e + k) ∧ B (tS B n e + k) ≤ 122 := of_decide_eq_true (hl k (by omega))
    have hc := cF_lt (b := fun k => B (tS B n e + k)) k (fun i hi => hl i (by omega))
    have ih2 := ih (k + 1) (by omega)
    rw [show k + 1 + j = k + (j + 1) by omega] at ih2
    rw [← ih2, wdF, cF]
    have e1 : (lg_cmp (lN (cF (fun k => B (tS B n e + k)) k)) 36028797018963967 ≤ 0) ↔ cF (fun k => B (tS B n e + k)) k ≤ 36028797018963967 := by
      rw [lg_cmp_le, show (36028797018963967 : Int64) = lN 36028797018963967 from rfl, pk_lLE (by omega) (by decide)]
    by_cases hq : cF (fun k => B (tS B n e + k)) k ≤ 36028797018963967
    · rw [if_pos (e1.mpr hq), if_pos hq, hT.2 _ (by omega), show (96 : Int32) = nI 96 from rfl, pk_sub (by omega), nI_l (by omega), show (32 : Int64) = lN 32 from rfl, lN_mul, lN_add, Nat.add_assoc]
    · rw [if_neg (fun z => hq (e1.mp z)), if_neg hq, Nat.add_assoc]
def wv (B : Nat → Nat) (n e : Nat) : Int64 := if tK B n e = 1 then lN (cF (fun k => B (tS B n e + k)) (tE B n e - tS B n e)) else 0
theorem p_word (hn : n ≤ 120) (hB : ∀ k, B k < 256) (he : e ≤ n) (hT : TpM B n u) (hR : RM B n e (u.1 25)) (h5 : u.1 25 5 = 0) : f_X6_word u = some (wv B n e, u) := by
  have hE := tE_le (B := B) he
  have hge : tS B n e ≤ tE B n e := by
    by_cases h : tS B n e < n
    · exact Nat.le_of_lt (tE_gt h)
    · unfold tE; rw [if_pos (by omega)]; exact Nat.le_refl _
  unfold f_X6_word
  rw [nm_eq, hR.2.1, l_word hn hB he hT hR (tE B n e - tS B n e) (tS B n e) 2100 0 (by omega) (by omega), if_pos h5]
  unfold wv
  by_cases hK : tK B n e = 1
  · rw [if_pos hK, if_pos hK]
    have h := wdF_cF hT he hB hK (tE B n e - tS B n e) 0 (by omega)
    rw [Nat.zero_add, Nat.add_zero] at h
    rw [← h]
    rfl
  · rw [if_neg hK, if_neg hK]
theorem p_wordW (hn : n ≤ 120) (hB : ∀ k, B k < 256) (he : e ≤ n) (hT : TpM B n u) (hR : RM B n e (u.1 25)) (h5 : ¬ u.1 25 5 = 0) : f_X6_word u = some (0, u) := by
  have hE := tE_le (B := B) he
  have hge : tS B n e ≤ tE B n e := by
    by_cases h : tS B n e < n
    · exact Nat.le_of_lt (tE_gt h)
    · unfold tE; rw [if_pos (by omega)]; exact Nat.le_refl _
  unfold f_X6_word
  rw [nm_eq, hR.2.1, l_word hn hB he hT hR (tE B n e - tS B n e) (tS B n e) 2100 0 (by omega) (by omega), if_neg h5]
theorem kc_pos : ∀ w, w < 14 → 0 < cF (kb w) (kl w) := by decide +kernel
theorem wv_iff {w : Nat} (hw : w < 14) (he : e ≤ n) {c : Int64} (hc : c = lN (cF (kb w) (kl w))) : (lg_cmp (wv B n e) c = 0) ↔ isW B n w e = true := by
  rw [lg_cmp_eq, hc]
  have h1 := kc_le w hw
  have h0 := kc_pos w hw
  unfold wv
  by_cases hK : tK B n e = 1
  · rw [if_pos hK, ← word_iff he hw hK]
    exact pk_lEQ (by have := cF_lt (b := fun k => B (tS B n e + k)) _ (tok_lt he hK); omega) (by omega)
  · rw [if_neg hK]
    refine ⟨fun z => ?_, fun z => absurd (of_decide_eq_true z).1 hK⟩
    have := (pk_lEQ (a := 0) (by decide) (by omega)).mp (show lN 0 = _ from z)
    omega
theorem kc_tab : (17494690093 : Int64) = lN (cF (kb 0) (kl 0)) ∧ (21583496 : Int64) = lN (cF (kb 1) (kl 1)) ∧ (17292466 : Int64) = lN (cF (kb 2) (kl 2)) ∧ (2268462 : Int64) = lN (cF (kb 3) (kl 3)) ∧ (408362632 : Int64) = lN (cF (kb 4) (kl 4)) ∧ (398548 : Int64) = lN (cF (kb 5) (kl 5)) ∧ (609435213 : Int64) = lN (cF (kb 6) (kl 6)) ∧ (690671251 : Int64) = lN (cF (kb 7) (kl 7)) := by decide +kernel
theorem kc_tab2 : (3659220 : Int64) = lN (cF (kb 8) (kl 8)) ∧ (15748 : Int64) = lN (cF (kb 9) (kl 9)) ∧ (14519 : Int64) = lN (cF (kb 10) (kl 10)) ∧ (3559 : Int64) = lN (cF (kb 11) (kl 11)) ∧ (398384 : Int64) = lN (cF (kb 12) (kl 12)) ∧ (441803 : Int64) = lN (cF (kb 13) (kl 13)) := by decide +kernel
theorem p_kh (hn : n ≤ 120) (hB : ∀ k, B k < 256) (he : e ≤ n) (hT : TpM B n u) (hR : RM B n e (u.1 25)) (h5 : u.1 25 5 = 0) : f_X6_kindHere u = some (kdI B n e, u) := by
  obtain ⟨t1, t2, t3, t4, t5, t6⟩ := kc_tab2
  unfold f_X6_kindHere kdI
  rw [p_word hn hB he hT hR h5, bd_eq]
  simp only [wv_iff (w := 8) (by decide) he t1, wv_iff (w := 9) (by decide) he t2, wv_iff (w := 10) (by decide) he t3, wv_iff (w := 11) (by decide) he t4, wv_iff (w := 12) (by decide) he t5, wv_iff (w := 13) (by decide) he t6]
  repeat' split
  all_goals first | rfl | contradiction
end ModWord
