/-! PURE 4: what holds between the calls; findings; calendars -/
def Good (s : Nat → Int32) : Prop := ∃ m p w d t : Nat, GdW s m p w ∧ s 2 = nI d ∧ d ≤ 99999 ∧ s 4 = nI t ∧ t ≤ 5
def KeptR (u : Uw) : Prop := (u.1 9 0 = 0 ∧ u.1 25 0 = 0) ∨ (u.1 9 0 = 1 ∧ u.1 25 0 = 1 ∧ (∀ k, k < 61 → u.1 1 k = u.1 21 k) ∧ Good (u.1 21))
def TapeR (u : Uw) : Prop := ∃ n, n ≤ 120 ∧ u.1 7 0 = nI n ∧ u.1 25 1 = nI n ∧ ∀ k, k < n → ∃ b, b < 256 ∧ u.1 26 k = nI b ∧ u.1 8 k = (nI b).toInt8.toInt32
def SheetR (u : Uw) (i : Nat) : Prop := u.1 (10 + i) 0 = u.1 27 i ∧ u.1 (10 + i) 1 = u.1 28 i ∧ (u.1 27 i = 0 ∨ u.1 27 i = 8 ∨ u.1 27 i = 16 ∨ u.1 27 i = 64) ∧ (∃ n, n ≤ 40 ∧ u.1 28 i = nI n) ∧ ∀ k, k < 40 → u.2 (10 + i) k = u.2 29 (40 * i + k)
def Rel (u : Uw) : Prop := u.1 0 = u.1 20 ∧ Good (u.1 20) ∧ (∀ k, k < 7 → u.1 3 k = u.1 24 k) ∧ KeptR u ∧ TapeR u ∧ ∀ i, i < 4 → SheetR u i
/-- rows of ints outside a list stay, and all longs -/
def Fr (L : List Nat) (u u' : Uw) : Prop := (∀ r, r ∉ L → u'.1 r = u.1 r) ∧ u'.2 = u.2
theorem Fr.rf {L : List Nat} {u : Uw} : Fr L u u := ⟨fun _ _ => rfl, rfl⟩
theorem Fr.tr {L : List Nat} {u v w : Uw} (h1 : Fr L u v) (h2 : Fr L v w) : Fr L u w := ⟨fun r hr => (h2.1 r hr).trans (h1.1 r hr), h2.2.trans h1.2⟩
theorem Fr.sR {L : List Nat} {u : Uw} {r : Nat} {s : Nat → Int32} (h : r ∈ L) : Fr L u (sR u r s) := ⟨fun a ha => sR_ne (fun e => ha (e ▸ h)), rfl⟩
theorem Rel.fr {L : List Nat} {u u' : Uw} (hL : ∀ r, r ∈ L → r = 2 ∨ r = 4 ∨ r = 5 ∨ r = 6 ∨ r = 22 ∨ r = 23) (h : Fr L u u') (hu : Rel u) : Rel u' := by
  obtain ⟨f, g⟩ := h
  have e : ∀ r, (r ≠ 2 ∧ r ≠ 4 ∧ r ≠ 5 ∧ r ≠ 6 ∧ r ≠ 22 ∧ r ≠ 23) → u'.1 r = u.1 r := fun r hr => f r (fun z => by have := hL r z; omega)
  obtain ⟨a1, a2, a3, a4, a5, a6⟩ := hu
  refine ⟨?_, ?_, ?_, ?_, ?_, ?_⟩
  · rw [e 0 (by decide), e 20 (by decide)]; exact a1
  · rw [e 20 (by decide)]; exact a2
  · rw [e 3 (by decide), e 24 (by decide)]; exact a3
  · unfold KeptR at a4 ⊢
    rw [e 9 (by decide), e 25 (by decide), e 1 (by decide), e 21 (by decide)]; exact a4
  · unfold TapeR at a5 ⊢
    rw [e 7 (by decide), e 25 (by decide), e 26 (by decide), e 8 (by decide)]; exact a5
  · intro i hi
    have := a6 i hi
    unfold SheetR at this ⊢
    rw [e (10 + i) (by omega), e 27 (by decide), e 28 (by decide), g]; exact this
/-- the first row of both becomes another -/
theorem Rel.both {u : Uw} {s : Nat → Int32} (hu : Rel u) (hs : Good s) : Rel (sR (sR u 0 s) 20 s) := by
  obtain ⟨a1, a2, a3, a4, a5, a6⟩ := hu
  have e : ∀ r, r ≠ 0 → r ≠ 20 → (sR (sR u 0 s) 20 s).1 r = u.1 r := fun r h0 h20 => by rw [sR_ne h20, sR_ne h0]
  refine ⟨?_, ?_, ?_, ?_, ?_, ?_⟩
  · rw [sR_same, sR_ne (by decide), sR_same]
  · rw [sR_same]; exact hs
  · rw [e 3 (by decide) (by decide), e 24 (by decide) (by decide)]; exact a3
  · unfold KeptR at a4 ⊢
    rw [e 9 (by decide) (by decide), e 25 (by decide) (by decide), e 1 (by decide) (by decide), e 21 (by decide) (by decide)]; exact a4
  · unfold TapeR at a5 ⊢
    rw [e 7 (by decide) (by decide), e 25 (by decide) (by decide), e 26 (by decide) (by decide), e 8 (by decide) (by decide)]; exact a5
  · intro i hi
    have := a6 i hi
    unfold SheetR at this ⊢
    rw [e (10 + i) (by omega) (by omega), e 27 (by decide) (by decide), e 28 (by decide) (by decide)]; exact this
def fdC (u : Uw) (k : Nat) : Uw := sR u 3 (upd (u.1 3) k (u.1 3 k + 1))
def fdM (u : Uw) (k : Nat) : Uw := sR u 24 (upd (u.1 24) k (u.1 24 k + 1))
theorem Rel.fd {u : Uw} (hu : Rel u) {k : Nat} (hk : k < 7) : Rel (fdM (fdC u k) k) := by
  obtain ⟨a1, a2, a3, a4, a5, a6⟩ := hu
  have e : ∀ r, r ≠ 3 → r ≠ 24 → (fdM (fdC u k) k).1 r = u.1 r := fun r h0 h20 => by unfold fdM fdC; rw [sR_ne h20, sR_ne h0]
  refine ⟨?_, ?_, ?_, ?_, ?_, ?_⟩
  · rw [e 0 (by decide) (by decide), e 20 (by decide) (by decide)]; exact a1
  · rw [e 20 (by decide) (by decide)]; exact a2
  · intro j hj
    unfold fdM fdC
    rw [sR_ne (by decide), sR_same, sR_same, sR_ne (by decide)]
    unfold upd
    split
    · rw [a3 k hk]
    · exact a3 j hj
  · unfold KeptR at a4 ⊢
    rw [e 9 (by decide) (by decide), e 25 (by decide) (by decide), e 1 (by decide) (by decide), e 21 (by decide) (by decide)]; exact a4
  · unfold TapeR at a5 ⊢
    rw [e 7 (by decide) (by decide), e 25 (by decide) (by decide), e 26 (by decide) (by decide), e 8 (by decide) (by decide)]; exact a5
  · intro i hi
    have := a6 i hi
    unfold SheetR at this ⊢
    rw [e (10 + i) (by omega) (by omega), e 27 (by decide) (by decide), e 28 (by decide) (by decide)]; exact this
theorem p_found {x : Int32} {k : Nat} (hk : k < 7) (hx : -1000000001 - x = nI k) (u : Uw) : f_X5_found x u = some (x, fdC u k) := by
  unfold f_X5_found
  rw [hx, nm_eq, if_neg (nI_pos (by omega)), if_neg (show ¬ (7 : Int32) ≤ nI k from nI_ge (b := 7) hk (by decide)), ck_pos (inb_nI hk (by decide)), nm_eq, nm_eq, nI_clamp (by omega), w1_sR]
  rfl
theorem p_finds {x : Int32} {k : Nat} (hk : k < 7) (hx : -1000000001 - x = nI k) (u : Uw) : f_X6_finds x u = some (x, fdM u k) := by
  unfold f_X6_finds
  rw [hx, ck_pos (inb_nI hk (by decide)), nm_eq, nm_eq, nI_clamp (by omega), w1_sR]
  rfl
theorem c0 (u : Uw) : f_X5_found (-1000000001) u = some (-1000000001, fdC u 0) := p_found (by decide) (by decide) u
theorem c1 (u : Uw) : f_X5_found (-1000000002) u = some (-1000000002, fdC u 1) := p_found (by decide) (by decide) u
theorem c2 (u : Uw) : f_X5_found (-1000000003) u = some (-1000000003, fdC u 2) := p_found (by decide) (by decide) u
theorem c3 (u : Uw) : f_X5_found (-1000000004) u = some (-1000000004, fdC u 3) := p_found (by decide) (by decide) u
theorem c4 (u : Uw) : f_X5_found (-1000000005) u = some (-1000000005, fdC u 4) := p_found (by decide) (by decide) u
theorem c5 (u : Uw) : f_X5_found (-1000000006) u = some (-1000000006, fdC u 5) := p_found (by decide) (by decide) u
theorem c6 (u : Uw) : f_X5_found (-1000000007) u = some (-1000000007, fdC u 6) := p_found (by decide) (by decide) u
theorem m0 (u : Uw) : f_X6_finds (-1000000001) u = some (-1000000001, fdM u 0) := p_finds (by decide) (by decide) u
theorem m1 (u : Uw) : f_X6_finds (-1000000002) u = some (-1000000002, fdM u 1) := p_finds (by decide) (by decide) u
theorem m2 (u : Uw) : f_X6_finds (-1000000003) u = some (-1000000003, fdM u 2) := p_finds (by decide) (by decide) u
theorem m3 (u : Uw) : f_X6_finds (-1000000004) u = some (-1000000004, fdM u 3) := p_finds (by decide) (by decide) u
theorem m4 (u : Uw) : f_X6_finds (-1000000005) u = some (-1000000005, fdM u 4) := p_finds (by decide) (by decide) u
theorem m5 (u : Uw) : f_X6_finds (-1000000006) u = some (-1000000006, fdM u 5) := p_finds (by decide) (by decide) u
theorem m6 (u : Uw) : f_X6_finds (-1000000007) u = some (-1000000007, fdM u 6) := p_finds (by decide) (by decide) u
/-- ends of a call -/
theorem fin_fd {α : Type} {f g : Uw → Option (α × Uw)} {u : Uw} (hu : Rel u) {k : Nat} (hk : k < 7) {x : α} (hC : f u = some (x, fdC u k)) (hM : ∀ u', u'.1 20 = u.1 20 → g u' = some (x, fdM u' k)) : ∃ r u1 u2, f u = some (r, u1) ∧ g u1 = some (r, u2) ∧ Rel u2 := ⟨x, _, _, hC, hM _ (sR_ne (by decide)), hu.fd hk⟩
theorem fin_q {α : Type} {f g : Uw → Option (α × Uw)} {u : Uw} (hu : Rel u) {x : α} {u1 : Uw} (hC : f u = some (x, u1)) (hF : Fr [2, 4, 5, 6] u u1) (hM : ∀ u', u'.1 20 = u.1 20 → ∃ u2, g u' = some (x, u2) ∧ Fr [22, 23] u' u2) : ∃ r u1 u2, f u = some (r, u1) ∧ g u1 = some (r, u2) ∧ Rel u2 := by
  obtain ⟨u2, h1, h2⟩ := hM u1 (hF.1 20 (by decide))
  exact ⟨x, u1, u2, hC, h1, (hu.fr (fun r hr => by simp at hr; omega) hF).fr (fun r hr => by simp at hr; omega) h2⟩
theorem fin_p {α : Type} {f g : Uw → Option (α × Uw)} {u : Uw} (hu : Rel u) {x : α} (hC : f u = some (x, u)) (hM : g u = some (x, u)) : ∃ r u1 u2, f u = some (r, u1) ∧ g u1 = some (r, u2) ∧ Rel u2 := ⟨x, u, u, hC, hM, hu⟩
theorem fin_s {α : Type} {f g : Uw → Option (α × Uw)} {u : Uw} (hu : Rel u) {x : α} {s : Nat → Int32} (hs : Good s) (hC : f u = some (x, sR u 0 s)) (hM : ∀ u', u'.1 20 = u.1 20 → g u' = some (x, sR u' 20 s)) : ∃ r u1 u2, f u = some (r, u1) ∧ g u1 = some (r, u2) ∧ Rel u2 := ⟨x, _, _, hC, hM _ (sR_ne (by decide)), hu.both hs⟩
/-! the first spring -/
section S0
variable {u : Uw} {m : Nat}
theorem q_calAt_in (hm : u.1 0 0 = nI m) (hm6 : m ≤ 6) {c : Nat} (hc : c < m) : f_X3_calendarAt 0 (nI c) u = some (some (cc 0 c), u) := p_calAt_in (r := 0) (by decide) hm hm6 hc
theorem q_calAt_out (hm : u.1 0 0 = nI m) {x : Int32} (hx : x < 0 ∨ nI m ≤ x) : f_X3_calendarAt 0 x u = some (none, u) := p_calAt_out (r := 0) (by decide) hm hx
theorem q_pilAt_in (hm : u.1 0 1 = nI m) (hm6 : m ≤ 8) {c : Nat} (hc : c < m) : f_X3_pilgrimAt 0 (nI c) u = some (some (pp 0 c), u) := p_pilAt_in (r := 0) (by decide) hm hm6 hc
theorem q_pilAt_out (hm : u.1 0 1 = nI m) {x : Int32} (hx : x < 0 ∨ nI m ≤ x) : f_X3_pilgrimAt 0 x u = some (none, u) := p_pilAt_out (r := 0) (by decide) hm hx
theorem q_cal {c : Nat} (hc : c < 6) : CalAt (cc 0 c) 0 (7 + 5 * c) := cal_at (by decide) hc
theorem q_pil {c : Nat} (hc : c < 8) : PilAt (pp 0 c) 0 (37 + 3 * c) := pil_at (by decide) hc
end S0
theorem p_within (v lo hi : Int32) (u : Uw) : f_X5_within v lo hi u = some (decide (lo ≤ v ∧ v ≤ hi), u) := by
  unfold f_X5_within
  by_cases h1 : v < lo
  · rw [if_pos h1, decide_eq_false (fun q => Int32.not_lt.mpr q.1 h1)]
  · rw [if_neg h1]
    by_cases h2 : hi < v
    · rw [if_pos h2, decide_eq_false (fun q => Int32.not_lt.mpr q.2 h2)]
    · rw [if_neg h2, decide_eq_true ⟨Int32.not_lt.mp h1, Int32.not_lt.mp h2⟩]
theorem p_isField_in {j : Nat} (hj : j < 5) (u : Uw) : f_X0_isField (nI j) u = some (true, u) := by
  unfold f_X0_isField
  rw [if_neg (nI_pos (by omega)), if_neg (show ¬ (5 : Int32) ≤ nI j from nI_ge (b := 5) hj (by decide))]
theorem p_isField_out {x : Int32} (hx : x < 0 ∨ nI 5 ≤ x) (u : Uw) : f_X0_isField x u = some (false, u) := by
  unfold f_X0_isField
  by_cases h : x < 0
  · rw [if_pos h]
  · rw [if_neg h, if_pos (show (5 : Int32) ≤ x from hx.resolve_left h)]
theorem p_allows_in {j : Nat} (hj : j < 5) (v : Int32) (u : Uw) : f_X0_allows (nI j) v u = some (decide (tbv 0 j ≤ v ∧ v ≤ tbv 1 j), u) := by
  unfold f_X0_allows
  rw [p_isField_in hj, bd_eq, if_pos rfl, ck_pos (inb_nI hj (by decide)), nm_eq, nm_eq, nI_clamp (by omega)]
  by_cases h1 : v < tbv 0 j
  · rw [if_pos h1, decide_eq_false (fun q => Int32.not_lt.mpr q.1 h1)]
  · rw [if_neg h1]
    by_cases h2 : tbv 1 j < v
    · rw [if_pos h2, decide_eq_false (fun q => Int32.not_lt.mpr q.2 h2)]
    · rw [if_neg h2, decide_eq_true ⟨Int32.not_lt.mp h1, Int32.not_lt.mp h2⟩]
theorem p_allows_out {x : Int32} (hx : x < 0 ∨ nI 5 ≤ x) (v : Int32) (u : Uw) : f_X0_allows x v u = some (false, u) := by
  unfold f_X0_allows
  rw [p_isField_out hx, bd_eq, if_neg (by decide)]
theorem p_value {e r o j : Nat} (h : CalAt e r o) (hj : j < 5) (u : Uw) : f_X0_value e (nI j) u = some (u.1 r (o + j), u) := by
  obtain ⟨h1, h2, h3, h4, h5⟩ := h
  unfold f_X0_value
  rw [p_isField_in hj, bd_eq, if_pos rfl, ck_pos h1, ck_pos h2, h3, h4, h5, ck_pos (inb_nI hj (by decide)), nm_eq, nI_clamp (by omega)]
theorem p_change {e r o j : Nat} (h : CalAt e r o) (hj : j < 5) {v : Int32} (hv : tbv 0 j ≤ v ∧ v ≤ tbv 1 j) (u : Uw) : f_X0_change e (nI j) v u = some (u.1 r (o + j), sR u r (upd (u.1 r) (o + j) v)) := by
  obtain ⟨h1, h2, h3, h4, h5⟩ := h
  unfold f_X0_change
  rw [p_allows_in hj, bd_eq, decide_eq_true hv, if_pos rfl, ck_pos h1, ck_pos h2, h3, h4, h5, ck_pos (inb_nI hj (by decide)), nm_eq, nm_eq, nI_clamp (by omega), w1_sR]
theorem p_isKind (k : Int32) (u : Uw) : f_X6_isKind k u = some (decide (0 ≤ k ∧ k ≤ 5), u) := by
  unfold f_X6_isKind
  rw [show (0 : Int64) = (0 : Int32).toInt64 from rfl, show (5 : Int64) = (5 : Int32).toInt64 from rfl, p_in, bd_eq]
theorem p_becomes {k : Nat} (hk : k < 61) (v : Int32) (u : Uw) : f_X6_becomes (nI k) v u = some (u.1 20 k, sR u 20 (upd (u.1 20) k v)) := by
  unfold f_X6_becomes
  rw [ck_pos (inb_nI hk (by decide)), nm_eq, nm_eq, nI_clamp (by omega), w1_sR]
theorem nI_rng {v : Int32} (lo hi : Nat) (hh : hi < 2 ^ 31) (h1 : nI lo ≤ v) (h2 : v ≤ nI hi) (hl : lo ≤ hi) : ∃ k, lo ≤ k ∧ k ≤ hi ∧ v = nI k := by
  rw [fa_le, nI_toInt (by omega)] at h1
  rw [fa_le, nI_toInt (by omega)] at h2
  refine ⟨v.toInt.toNat, by omega, by omega, ?_⟩
  rw [fa_eq, nI_toInt (by omega)]
  omega
theorem GdW.cal {s : Nat → Int32} {m p w c j : Nat} (h : GdW s m p w) (hc : c < m) (hj : j < 5) {v : Int32} (hv : tbv 0 j ≤ v ∧ v ≤ tbv 1 j) : GdW (upd s (7 + 5 * c + j) v) m p w := by
  obtain ⟨a1, a2, a3, a4, a5, a6, a7, a8, a9, a10⟩ := h
  refine ⟨by rw [upd_ne (by omega)]; exact a1, a2, by rw [upd_ne (by omega)]; exact a3, a4, by rw [upd_ne (by omega)]; exact a5, a6, by rw [upd_ne (by omega)]; exact a7, by rw [upd_ne (by omega)]; exact a8, fun c' hc' => ?_, fun q hq => ?_⟩
  · have h9 := a9 c' hc'
    by_cases e : c' = c
    · subst e
      have er : ∀ k, k < 5 → row5 (upd s (7 + 5 * c' + j) v) (7 + 5 * c') k = if k = j then v else row5 s (7 + 5 * c') k := by
        intro k hk
        unfold row5 upd
        by_cases e : k = j
        · rw [if_pos (by omega), if_pos e]
        · rw [if_neg (by omega), if_neg e]
      unfold CalOk at h9 ⊢
      rw [er 0 (by decide), er 1 (by decide), er 2 (by decide), er 3 (by decide), er 4 (by decide)]
      rcases (show j = 0 ∨ j = 1 ∨ j = 2 ∨ j = 3 ∨ j = 4 by omega) with rfl | rfl | rfl | rfl | rfl
      · obtain ⟨k, -, h2, h3⟩ := nI_rng 0 5 (by decide) hv.1 hv.2 (by decide)
        exact ⟨⟨k, h2, h3⟩, h9.2⟩
      · obtain ⟨k, -, h2, h3⟩ := nI_rng 0 99 (by decide) hv.1 hv.2 (by decide)
        exact ⟨h9.1, ⟨k, h2, h3⟩, h9.2.2⟩
      · obtain ⟨k, h1, h2, h3⟩ := nI_rng 1 60 (by decide) hv.1 hv.2 (by decide)
        exact ⟨h9.1, h9.2.1, ⟨k, h1, h2, h3⟩, h9.2.2.2⟩
      · obtain ⟨k, -, h2, h3⟩ := nI_rng 0 99 (by decide) hv.1 hv.2 (by decide)
        exact ⟨h9.1, h9.2.1, h9.2.2.1, ⟨k, h2, h3⟩, h9.2.2.2.2⟩
      · obtain ⟨k, -, h2, h3⟩ := nI_rng 0 9999 (by decide) hv.1 hv.2 (by decide)
        exact ⟨h9.1, h9.2.1, h9.2.2.1, h9.2.2.2.1, ⟨k, h2, h3⟩⟩
    · have er : ∀ k, k < 5 → row5 (upd s (7 + 5 * c + j) v) (7 + 5 * c') k = row5 s (7 + 5 * c') k := by
        intro k hk
        unfold row5
        exact upd_ne (by omega)
      unfold CalOk at h9 ⊢
      rw [er 0 (by decide), er 1 (by decide), er 2 (by decide), er 3 (by decide), er 4 (by decide)]
      exact h9
  · have h10 := a10 q hq
    unfold getT at h10 ⊢
    rw [upd_ne (by omega), upd_ne (by omega), upd_ne (by omega)]
    exact h10
theorem Good.cal {s : Nat → Int32} {m p w d t c j : Nat} (h : GdW s m p w) (h2 : s 2 = nI d) (hd : d ≤ 99999) (h4 : s 4 = nI t) (ht : t ≤ 5) (hc : c < m) (hj : j < 5) {v : Int32} (hv : tbv 0 j ≤ v ∧ v ≤ tbv 1 j) : Good (upd s (7 + 5 * c + j) v) :=
  ⟨m, p, w, d, t, h.cal hc hj hv, by rw [upd_ne (by omega)]; exact h2, hd, by rw [upd_ne (by omega)]; exact h4, ht⟩
/-! of, set, turn, as, date -/
section Calls1
theorem st_of (a1 a2 : Int32) : StepT Rel (fun u => f_X5_of a1 a2 u) (fun u => f_X6_of a1 a2 u) := by
  intro u hu
  obtain ⟨e0, ⟨m, p, w, d, t, hG, -⟩, -⟩ := id hu
  obtain ⟨hm, hm6, -⟩ := hG
  have hm0 : u.1 0 0 = nI m := by rw [e0]; exact hm
  rcases pk_ix a1 (n := m) (by omega) with h | h | ⟨c, hc, rfl⟩
  · refine fin_fd hu (k := 0) (by decide) (x := -1000000001) ?_ (fun u' e => ?_)
    · simp only [f_X5_of, q_calAt_out hm0 (Or.inl h), bd_eq, ro_none, c0]
    · simp only [f_X6_of, p_isCal_out (u := u') (by rw [e]; exact hm) hm6 (Or.inl h), bd_eq, m0, Bool.false_eq_true, if_false]
  · refine fin_fd hu (k := 0) (by decide) (x := -1000000001) ?_ (fun u' e => ?_)
    · simp only [f_X5_of, q_calAt_out hm0 (Or.inr h), bd_eq, ro_none, c0]
    · simp only [f_X6_of, p_isCal_out (u := u') (by rw [e]; exact hm) hm6 (Or.inr h), bd_eq, m0, Bool.false_eq_true, if_false]
  · have hc6 : c < 6 := by omega
    rcases pk_ix a2 (n := 5) (by decide) with h | h | ⟨j, hj, rfl⟩
    · refine fin_fd hu (k := 0) (by decide) (x := -1000000001) ?_ (fun u' e => ?_)
      · simp only [f_X5_of, q_calAt_in hm0 hm6 hc, bd_eq, ro_some, p_isField_out (Or.inl h), c0, Bool.false_eq_true, if_false]
      · simp only [f_X6_of, p_isCal_in (u := u') (by rw [e]; exact hm) hm6 hc, bd_eq, show (0 : Int64) = (0 : Int32).toInt64 from rfl, show (4 : Int64) = (4 : Int32).toInt64 from rfl, p_in, if_true, m0]
        rw [decide_eq_false (fun z => Int32.not_lt.mpr z.1 h), if_neg (by decide)]
    · refine fin_fd hu (k := 0) (by decide) (x := -1000000001) ?_ (fun u' e => ?_)
      · simp only [f_X5_of, q_calAt_in hm0 hm6 hc, bd_eq, ro_some, p_isField_out (Or.inr h), c0, Bool.false_eq_true, if_false]
      · simp only [f_X6_of, p_isCal_in (u := u') (by rw [e]; exact hm) hm6 hc, bd_eq, show (0 : Int64) = (0 : Int32).toInt64 from rfl, show (4 : Int64) = (4 : Int32).toInt64 from rfl, p_in, if_true, m0]
        rw [decide_eq_false (fun z => by
          have z2 := z.2
          rw [fa_le] at z2 h
          rw [nI_toInt (by decide)] at h
          have : (4 : Int32).toInt = 4 := rfl
          omega), if_neg (by decide)]
    · refine fin_p hu (x := u.1 20 (7 + 5 * c + j)) ?_ ?_
      · simp only [f_X5_of, q_calAt_in hm0 hm6 hc, bd_eq, ro_some, p_isField_in hj, if_true, ck_pos (q_cal hc6).1, p_value (q_cal hc6) hj, e0]
      · simp only [f_X6_of, p_isCal_in hm hm6 hc, bd_eq, show (0 : Int64) = (0 : Int32).toInt64 from rfl, show (4 : Int64) = (4 : Int32).toInt64 from rfl, p_in, if_true]
        rw [decide_eq_true ⟨nI_pos' (by omega), show nI j ≤ (4 : Int32) from nI_le (b := 4) (by omega) (by decide)⟩, if_pos rfl, p_its hc6 hj rfl, bd_eq]
end Calls1
