/-! PURE 28: book -/
theorem it_succ : ∀ (n : Nat) (s : Nat → Int32), itS (n + 1) s = dayS (itS n s)
  | 0, _ => rfl
  | n + 1, s => by
    rw [itS, it_succ n (dayS s), itS]
theorem it_lo : ∀ (n : Nat) (s : Nat → Int32) (k : Nat), k < 37 → k ≠ 2 → k ≠ 5 → k ≠ 6 → itS n s k = s k
  | 0, _, _, _, _, _, _ => rfl
  | n + 1, s, k, h1, h2, h5, h6 => by rw [itS, it_lo n _ k h1 h2 h5 h6, day_lo h1 h2 h5 h6]
theorem it_pass {m p w q d i : Nat} {s : Nat → Int32} (hq : q < p) (hG : GdW s m p w) (h2 : s 2 = nI d) : getT (itS (i + 1) s) (37 + 3 * q) = passT (getT (itS i s) (37 + 3 * q)) (HF s d i) (s 4) (s 3) := by
  rw [it_succ, day_get (GdW.it i hG) hq, it_2 i s d h2, it_4, it_lo i s 3 (by decide) (by decide) (by decide) (by decide)]
  have e : (fun x => hb (itS i s) x (nI (d + i))) = HF s d i := by
    unfold HF
    funext x
    exact hb_cal (s := s) (s' := itS i s) (fun k hk => it_lo i s k (by omega) (by omega) (by omega) (by omega)) hG.1 hG.2.1 x _
  rw [e]
/-- a book's numbers -/
def bkF (s : Nat → Int32) (b : Int32) (q : Nat) : Nat → Int64 := fun k => lowF b (itS k s (37 + 3 * q)).toInt64
theorem l_bkC {m p w n d a q : Nat} {s : Nat → Int32} {b : Int32} (ha : a < 4) (hn : n ≤ 40) (hq : q < p) (hG : GdW s m p w) (h2 : s 2 = nI d) : ∀ (j i f : Nat) (u : Uw), u.1 0 = s → (∀ k, k < n → u.1 4 k = hset s (nI (d + k))) → u.1 (10 + a) 1 = nI n → u.1 (10 + a) 0 = b → getT (u.1 5) 0 = getT (itS i s) (37 + 3 * q) → i + j = n → j < f → ∃ z, lp b_X5_book_73 f (73 + a, nI i, u) = some (nI n, sL (sR u 5 z) (10 + a) (cpL (u.2 (10 + a)) (bkF s b q) i j)) := by
  obtain ⟨hm, hm6, hp, hp8, -⟩ := id hG
  intro j
  induction j with
  | zero =>
    intro i f u hs h4 hz hb hT h1 h3
    obtain ⟨f, rfl⟩ : ∃ k, f = k + 1 := ⟨f - 1, by omega⟩
    refine ⟨u.1 5, ?_⟩
    rw [lp_s]
    generalize lp b_X5_book_73 f = g
    unfold b_X5_book_73
    dsimp only
    rw [ck_pos (sh_t a ha), sh_r a ha, sh_o a ha, Nat.zero_add, hz, if_pos (nI_le (by omega) (by omega)), cpL_0, sR_self, sL_self]
  | succ j ih =>
    intro i f u hs h4 hz hb hT h1 h3
    obtain ⟨f, rfl⟩ : ∃ k, f = k + 1 := ⟨f - 1, by omega⟩
    have e50 : u.1 5 0 = itS i s (37 + 3 * q) := congrArg Prod.fst hT
    have eH : isInB (hset s (nI (d + i))) = HF s d i := funext fun x => isIn_hset hm hm6 x _
    have hP := p_put (i := i) ha hn (by omega) hz (itS i s (37 + 3 * q)).toInt64
    rw [hb] at hP
    have hD := p_passDay (u := sL u (10 + a) (uL (u.2 (10 + a)) i (bkF s b q i))) pil_83 (hset s (nI (d + i))) (s 4) (s 3)
    rw [sL_1, hT, eH, ← it_pass hq hG h2] at hD
    obtain ⟨z, hz2⟩ := ih (i + 1) f (sR (sL u (10 + a) (uL (u.2 (10 + a)) i (bkF s b q i))) 5 (setT (u.1 5) 0 (getT (itS (i + 1) s) (37 + 3 * q)))) (by rw [sR_ne (by decide)]; exact hs) (fun k hk => by rw [sR_ne (by decide)]; exact h4 k hk) (by rw [sR_ne (by omega)]; exact hz) (by rw [sR_ne (by omega)]; exact hb) (by rw [sR_same, getT_set]) (by omega) (by omega)
    refine ⟨z, ?_⟩
    rw [lp_s]
    generalize lp b_X5_book_73 f = g at hz2 ⊢
    unfold b_X5_book_73
    dsimp only
    rw [ck_pos (sh_t a ha), sh_r a ha, sh_o a ha, Nat.zero_add, hz, if_neg (nI_ge (by omega) (by omega)), if_neg (show ¬ (400 : Int32) ≤ nI i from nI_ge (b := 400) (by omega) (by decide)), e50, hP, bd_eq, ck_pos (inb_nI (show i < 400 by omega) (by decide)), nm_eq, nI_clamp (by omega), sL_1, h4 i (by omega), hs]
    rw [show lowF b (itS i s (37 + 3 * q)).toInt64 = bkF s b q i from rfl, hD, bd_eq, nI_1, hz2, sR_2, sL_same]
    have e : cpL (uL (u.2 (10 + a)) i (bkF s b q i)) (bkF s b q) (i + 1) j = cpL (u.2 (10 + a)) (bkF s b q) i (j + 1) := cpL_step
    rw [e]
    rw [show sR (sR (sL u (10 + a) (uL (u.2 (10 + a)) i (bkF s b q i))) 5 (setT (u.1 5) 0 (getT (itS (i + 1) s) (37 + 3 * q)))) 5 z = sL (sR u 5 z) (10 + a) (uL (u.2 (10 + a)) i (bkF s b q i)) from sR_sR.trans rfl, sL_sL]
theorem l_bkM {m p w n a q : Nat} {s : Nat → Int32} {b : Int32} (ha : a < 4) (hn : n ≤ 40) (hq : q < p) (hG : GdW s m p w) : ∀ (j i f : Nat) (u : Uw), u.1 20 = itS i s → u.1 28 a = nI n → u.1 27 a = b → i + j = n → j < f → lp b_X6_book_24 f (nI a, nI q, nI i, u) = f_X6_takesBack (nI n) (sL (sR u 20 (itS n s)) 29 (cpL (u.2 29) (fun k => bkF s b q (k - 40 * a)) (40 * a + i) j)) := by
  have hp8 := hG.2.2.2.1
  intro j
  induction j with
  | zero =>
    intro i f u hs hz hb h1 h3
    obtain ⟨f, rfl⟩ : ∃ k, f = k + 1 := ⟨f - 1, by omega⟩
    have ei : i = n := by omega
    subst ei
    rw [lp_s]
    generalize lp b_X6_book_24 f = g
    unfold b_X6_book_24
    dsimp only
    rw [ck_pos (inb_nI ha (by decide)), nm_eq, nI_clamp (by omega), hz, if_pos (nI_le (by omega) (by omega)), nm_eq, bd_id, cpL_0, ← hs, sR_self, sL_self]
  | succ j ih =>
    intro i f u hs hz hb h1 h3
    obtain ⟨f, rfl⟩ : ∃ k, f = k + 1 := ⟨f - 1, by omega⟩
    have eg : bkF s b q i = (fun k => bkF s b q (k - 40 * a)) (40 * a + i) := congrArg (bkF s b q) (by omega)
    have hD := p_day (u := sL u 29 (uL (u.2 29) (40 * a + i) (bkF s b q i))) (m := m) (p := p) (w := w) (by rw [sL_1, hs]; exact GdW.it i hG)
    rw [sL_1, hs, ← it_succ] at hD
    have ih2 := ih (i + 1) f (sR (sL u 29 (uL (u.2 29) (40 * a + i) (bkF s b q i))) 20 (itS (i + 1) s)) (by rw [sR_same]) (by rw [sR_ne (by decide)]; exact hz) (by rw [sR_ne (by decide)]; exact hb) (by omega) (by omega)
    rw [lp_s]
    generalize lp b_X6_book_24 f = g at ih2 ⊢
    unfold b_X6_book_24
    dsimp only
    rw [ck_pos (inb_nI ha (by decide)), nm_eq, nI_clamp (show a < 2 ^ 31 by omega), hz, if_neg (nI_ge (by omega) (by omega)), nm_eq, hb, p_isOf (show q < 8 by omega) (show 0 < 3 by decide) (x := (0 : Int32)) rfl, bd_eq, p_narrowed, bd_eq, ix160, ck_pos (inb_nI (show 40 * a + i < 160 by omega) (by decide)), nm_eq, nI_clamp (show 40 * a + i < 2 ^ 31 by omega), w2_sL, hs, Nat.add_zero]
    rw [show lowF b (itS i s (37 + 3 * q)).toInt64 = bkF s b q i from rfl, hD, bd_eq, nI_1, ih2, sR_2, sL_same, sR_sR]
    have e : cpL (uL (u.2 29) (40 * a + i) (bkF s b q i)) (fun k => bkF s b q (k - 40 * a)) (40 * a + (i + 1)) j = cpL (u.2 29) (fun k => bkF s b q (k - 40 * a)) (40 * a + i) (j + 1) := by
      rw [eg]
      exact cpL_step
    rw [e]
    rw [show sR (sL u 29 (uL (u.2 29) (40 * a + i) (bkF s b q i))) 20 (itS n s) = sL (sR u 20 (itS n s)) 29 (uL (u.2 29) (40 * a + i) (bkF s b q i)) from rfl, sL_sL]
theorem p_wb_out {x : Int32} (hx : x < 0 ∨ nI 4 ≤ x) (a2 : Int32) (u : Uw) : f_X6_wrongBook x a2 u = some (-1000000001, u) := by
  unfold f_X6_wrongBook
  rw [p_wrong_out hx, bd_eq, if_neg (by decide)]
theorem p_wb_0 {a : Nat} (ha : a < 4) {u : Uw} (h : u.1 27 a = 0) (a2 : Int32) : f_X6_wrongBook (nI a) a2 u = some (-1000000006, u) := by
  unfold f_X6_wrongBook
  rw [p_wrong_0 ha h, bd_eq, if_neg (by decide)]
theorem p_wb_p {a p : Nat} (ha : a < 4) {u : Uw} (h : ¬ u.1 27 a = 0) {a2 : Int32} (hp : u.1 20 1 = nI p) (hp8 : p ≤ 8) (hx : a2 < 0 ∨ nI p ≤ a2) : f_X6_wrongBook (nI a) a2 u = some (-1000000001, u) := by
  unfold f_X6_wrongBook
  rw [p_wrong_n ha h, bd_eq, if_pos rfl, p_isPil_out hp hp8 hx, bd_eq, if_neg (by decide)]
theorem p_wb_n {a p q : Nat} (ha : a < 4) {u : Uw} (h : ¬ u.1 27 a = 0) (hp : u.1 20 1 = nI p) (hp8 : p ≤ 8) (hq : q < p) : f_X6_wrongBook (nI a) (nI q) u = some (0, u) := by
  unfold f_X6_wrongBook
  rw [p_wrong_n ha h, bd_eq, if_pos rfl, p_isPil_in hp hp8 hq, bd_eq, if_pos rfl]
theorem fd_20 {u : Uw} {k : Nat} : (fdC u k).1 20 = u.1 20 := sR_ne (by decide)
theorem st_book (a1 a2 : Int32) : StepT Rel (fun u => f_X5_book a1 a2 u) (fun u => f_X6_book a1 a2 u) := by
  intro u hu
  obtain ⟨e0, ⟨m, p, w, d, t, hG, h2, hd, h4, ht⟩, -, -, -, hS⟩ := id hu
  obtain ⟨hm, hm6, hp, hp8, ew, hw, -, -, -, hps⟩ := id hG
  have hm0 : u.1 0 0 = nI m := by rw [e0]; exact hm
  have h20 : u.1 0 2 = nI d := by rw [e0]; exact h2
  have hp0 : u.1 0 1 = nI p := by rw [e0]; exact hp
  have out1 : (a1 < 0 ∨ nI 4 ≤ a1) → ∃ r u1 u2, f_X5_book a1 a2 u = some (r, u1) ∧ f_X6_book a1 a2 u1 = some (r, u2) ∧ Rel u2 := fun h => by
    refine ⟨-1000000001, fdC u 0, fdM (fdC u 0) 0, ?_, ?_, hu.fd (by decide)⟩
    · unfold f_X5_book
      rw [p_sheetAt_out h, bd_eq, ro_none, c0, bd_eq]
    · unfold f_X6_book
      rw [p_wb_out h, bd_eq, if_neg (by decide), m0, bd_eq]
  rcases pk_ix a1 (n := 4) (by omega) with h | h | ⟨a, ha, rfl⟩
  · exact out1 (Or.inl h)
  · exact out1 (Or.inr h)
  obtain ⟨s1, s2, s3, ⟨n, hn, sn⟩, s5⟩ := hS a ha
  by_cases hb : u.1 27 a = 0
  · refine ⟨-1000000006, fdC u 5, fdM (fdC u 5) 5, ?_, ?_, hu.fd (by decide)⟩
    · show f_X5_book (nI a) a2 u = _
      unfold f_X5_book
      rw [p_sheetAt_in ha, bd_eq, ro_some, ck_pos (sh_t a ha), p_isMissing ha, s1, decide_eq_true hb, bd_eq, if_pos rfl, c5, bd_eq]
    · show f_X6_book (nI a) a2 _ = _
      unfold f_X6_book
      rw [p_wb_0 ha (by rw [fd_27]; exact hb), bd_eq, if_neg (by decide), m5, bd_eq]
  have out2 : (a2 < 0 ∨ nI p ≤ a2) → ∃ r u1 u2, f_X5_book (nI a) a2 u = some (r, u1) ∧ f_X6_book (nI a) a2 u1 = some (r, u2) ∧ Rel u2 := fun h => by
    refine ⟨-1000000001, fdC u 0, fdM (fdC u 0) 0, ?_, ?_, hu.fd (by decide)⟩
    · unfold f_X5_book
      rw [p_sheetAt_in ha, bd_eq, ro_some, ck_pos (sh_t a ha), p_isMissing ha, s1, decide_eq_false hb, bd_eq, if_neg (by decide), q_pilAt_out hp0 h, bd_eq, ro_none, c0, bd_eq]
    · unfold f_X6_book
      rw [p_wb_p ha (by rw [fd_27]; exact hb) (by rw [fd_20]; exact hp) hp8 h, bd_eq, if_neg (by decide), m0, bd_eq]
  rcases pk_ix a2 (n := p) (by omega) with h | h | ⟨q, hq, rfl⟩
  · exact out2 (Or.inl h)
  · exact out2 (Or.inr h)
  have hq8 : q < 8 := by omega
  have hne4 : 10 + a ≠ 4 := by omega
  have hne5 : 10 + a ≠ 5 := by omega
  obtain ⟨z, hC⟩ := l_bkC (s := u.1 20) (b := u.1 27 a) (d := d) ha hn hq hG h2 n 0 2100 (sR (sR u 4 (cpF (u.1 4) (ahF (u.1 0) d) 0 n)) 5 (setT (u.1 5) 0 (getT (u.1 0) (37 + 3 * q)))) (by rw [sR_ne (by decide), sR_ne (by decide)]; exact e0) (fun k hk => by rw [sR_ne (by decide), sR_same, cpF_in hk, e0]; rfl) (by rw [sR_ne hne5, sR_ne hne4]; exact s2.trans sn) (by rw [sR_ne hne5, sR_ne hne4]; exact s1) (by rw [sR_same, getT_set, e0]; rfl) (by omega) (by omega)
  rw [sR_sR] at hC
  have hu2 : Rel (sR (sR u 4 (cpF (u.1 4) (ahF (u.1 0) d) 0 n)) 5 z) := hu.fr (L := [4, 5]) (fun r hr => by simp at hr; omega) ((Fr.sR (by decide)).tr (Fr.sR (by decide)))
  have hv : ∀ z1 : Nat → Int64, f_X6_book (nI a) (nI q) (sL (sR (sR u 4 (cpF (u.1 4) (ahF (u.1 0) d) 0 n)) 5 z) (10 + a) z1) = some (nI n, asU (sL (sL (sR (sR u 4 (cpF (u.1 4) (ahF (u.1 0) d) 0 n)) 5 z) (10 + a) z1) 29 (cpL (u.2 29) (fun k => bkF (u.1 20) (u.1 27 a) q (k - 40 * a)) (40 * a) n))) := fun z1 => by
    have e20 : (sL (sR (sR u 4 (cpF (u.1 4) (ahF (u.1 0) d) 0 n)) 5 z) (10 + a) z1).1 20 = u.1 20 := by rw [sL_1, sR_ne (by decide), sR_ne (by decide)]
    have e27 : (sL (sR (sR u 4 (cpF (u.1 4) (ahF (u.1 0) d) 0 n)) 5 z) (10 + a) z1).1 27 = u.1 27 := by rw [sL_1, sR_ne (by decide), sR_ne (by decide)]
    have e28 : (sL (sR (sR u 4 (cpF (u.1 4) (ahF (u.1 0) d) 0 n)) 5 z) (10 + a) z1).1 28 = u.1 28 := by rw [sL_1, sR_ne (by decide), sR_ne (by decide)]
    have e29 : (sL (sR (sR u 4 (cpF (u.1 4) (ahF (u.1 0) d) 0 n)) 5 z) (10 + a) z1).2 29 = u.2 29 := by rw [sL_ne (by omega), sR_2, sR_2]
    generalize sL (sR (sR u 4 (cpF (u.1 4) (ahF (u.1 0) d) 0 n)) 5 z) (10 + a) z1 = v at e20 e27 e28 e29 ⊢
    have hM := l_bkM (s := u.1 20) (b := u.1 27 a) (u := asU v) ha hn hq hG n 0 2100 (by rw [asU_20]; exact e20) (by rw [show (asU v).1 28 = v.1 28 from sR_ne (by decide), e28]; exact sn) (by rw [show (asU v).1 27 = v.1 27 from sR_ne (by decide), e27]) (by omega) (by omega)
    unfold f_X6_book
    rw [p_wb_n ha (by rw [e27]; exact hb) (by rw [e20]; exact hp) hp8 hq, bd_eq, if_pos rfl, p_aside, bd_eq]
    refine (show _ = _ from hM).trans ?_
    rw [Nat.add_zero, show (asU v).2 29 = u.2 29 from e29]
    have hB := p_asBack (n := n) (u := sL v 29 (cpL (u.2 29) (fun k => bkF (u.1 20) (u.1 27 a) q (k - 40 * a)) (40 * a) n)) (m := m) (p := p) (w := w) (by rw [sL_1, e20]; exact hG) (nI n)
    rw [sL_1, e20] at hB
    exact hB
  have hCC : f_X5_book (nI a) (nI q) u = some (nI n, sL (sR (sR u 4 (cpF (u.1 4) (ahF (u.1 0) d) 0 n)) 5 z) (10 + a) (cpL (u.2 (10 + a)) (bkF (u.1 20) (u.1 27 a) q) 0 n)) := by
    unfold f_X5_book
    rw [p_sheetAt_in ha, bd_eq, ro_some, ck_pos (sh_t a ha), p_isMissing ha, s1, decide_eq_false hb, bd_eq, if_neg (by decide), q_pilAt_in hp0 hp8 hq, bd_eq, ro_some, sh_r a ha, sh_o a ha, Nat.zero_add, s2, sn, p_look (by omega) hd hm6 hm0 h20, bd_eq, p_X1_copy pil_83 (q_pil hq8) (by decide), bd_eq, sR_ne (show 5 ≠ 4 by decide), sR_ne (show 0 ≠ 4 by decide)]
    exact hC
  refine ⟨nI n, _, _, hCC, hv _, ?_⟩
  · refine Rel.fr (L := [23]) (fun r hr => by simp at hr; omega) (Fr.sR (by decide)) ?_
    refine hu2.sheets (fun r hr h27 h28 => rfl) (fun j hj => ?_)
    obtain ⟨-, -, -, -, -, hS2⟩ := hu2
    have hs := hS2 j hj
    unfold SheetR at hs ⊢
    simp only [sL_1, sL_same, sL_ne (show 10 + j ≠ 29 by omega)]
    refine ⟨hs.1, hs.2.1, hs.2.2.1, hs.2.2.2.1, fun k hk4 => ?_⟩
    have hs5 : u.2 (10 + j) k = u.2 29 (40 * j + k) := hs.2.2.2.2 k hk4
    by_cases e : j = a
    · subst e
      rw [sL_same]
      show cpL (u.2 (10 + j)) (bkF (u.1 20) (u.1 27 j) q) 0 n k = _
      unfold cpL
      by_cases ek : k < n
      · rw [if_pos (by omega), if_pos (by omega)]
        exact congrArg (bkF (u.1 20) (u.1 27 j) q) (by omega)
      · rw [if_neg (by omega), if_neg (by omega)]
        exact hs5
    · rw [sL_ne (by omega)]
      show u.2 (10 + j) k = _
      unfold cpL
      rw [if_neg (by omega)]
      exact hs5
