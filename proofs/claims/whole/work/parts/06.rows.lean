/-! fields, arrays, statics, texts, calls -/
def cnt (t : Nat) : Nat := [0, 3, 2, 7, 5, 1, 6].getD t 0
theorem t7 {t : Nat} (h : t < 7) : t = 0 ∨ t = 1 ∨ t = 2 ∨ t = 3 ∨ t = 4 ∨ t = 5 ∨ t = 6 := by omega
theorem cell_obj {ad : Nat → Nat} {cA : Nat → ClassId} {u : Uw} {e t : Nat} (ht : (kT e == t) = true) (h7 : t < 7) : cellE ad cA u e = .inr (t, fl ad e (gk u e) t) := by
  have h := eq_of_beq ht
  rcases t7 h7 with rfl | rfl | rfl | rfl | rfl | rfl | rfl <;> simp [cellE, cellF, h]
theorem cn_obj {e t : Nat} (ht : (kT e == t) = true) (h7 : t < 7) : cn e = cnt t := by
  have h := eq_of_beq ht
  rcases t7 h7 with rfl | rfl | rfl | rfl | rfl | rfl | rfl <;> simp [cn, cnt, h]
theorem e97 {e t : Nat} (ht : (kT e == t) = true) (h : t < 16) : e < 97 := kT_lt (by rw [eq_of_beq ht]; omega)
/-- what is known of a class: its place, its words, its fields' types and names -/
def clOk (t : Nat) (C : String) (T : u_T) (N : Nat) (ty : Nat → FieldType) : Prop := vwCl[t]? = some (C, T, N) ∧ (∀ w ∈ u_ws C T N, w ∈ GW) ∧ t < 7 ∧ (∀ k, k < N → parseFieldDescriptor (T k).2.2.1 = some (ty k)) ∧ ∀ a, a < N → ∀ b, b < N → a ≠ b → (T a).2.1 ≠ (T b).2.1
section GoCells
variable {X : Cx} {ad : Nat → Nat} {M : Mi} {α : Type} {iv : (Nat → Nat) → α → Option Value} {pc : Nat} {lv : List (Nat × Value)} {st : List Value} {u : Uw} {o : Option (α × Uw)}
theorem go_get0 {t : Nat} {C : String} {T : u_T} {N : Nat} {ty : Nat → FieldType} (ok : clOk t C T N ty) {e : Nat} (ht : (kT e == t) = true) (j : Nat) (hj : j < N) {v : Value} (hv : (fl ad e (gk u e) t)[j]? = some v) {index : Nat} (w : Cond.fieldLink M.2.1 index (T j).1 (T j).2.1 (T j).2.2.1 ∈ GW) (d : decode M.1 pc = .ok (.getfield index, 3)) (k : Go X ad M iv (pc + 3) lv (v :: st) u o) : Go X ad M iv pc lv (.ref (ad e) :: st) u o := by
  obtain ⟨p, l, ev, s, m, args, below, meth, c, D, cA⟩ := X
  intro hok r u2 ho H locs ls hP hS h
  exact va_get hok.1 hok.2.1 hok.2.2.2.2.1 ok.2.1 hok.2.2.2.1 hok.2.2.2.2.2.2.2.2.1 hP e (by rw [wl_get (e97 ht (Nat.lt_trans ok.2.2.1 (by decide))), cell_obj ht ok.2.2.1]) ok.1 j hj (hok.2.2.2.2.1 _ w) (fun _ z => z) hv d (k hok r u2 ho H locs ls hP hS h)
theorem go_get0N {t : Nat} {C : String} {T : u_T} {N : Nat} {ty : Nat → FieldType} (ok : clOk t C T N ty) {e : Nat} (ht : (kT e == t) = true) (j : Nat) (hj : j < N) {v : Value} (hv : (fl ad e (gk u e) t)[j]? = some v) {index : Nat} {host : String} (w : Cond.fieldLinkNest M.2.1 index (T j).1 (T j).2.1 (T j).2.2.1 host ∈ NW) (d : decode M.1 pc = .ok (.getfield index, 3)) (k : Go X ad M iv (pc + 3) lv (v :: st) u o) : Go X ad M iv pc lv (.ref (ad e) :: st) u o := by
  obtain ⟨p, l, ev, s, m, args, below, meth, c, D, cA⟩ := X
  intro hok r u2 ho H locs ls hP hS h
  exact va_getN hok.1 hok.2.1 hok.2.2.2.2.1 ok.2.1 hok.2.2.2.1 hok.2.2.2.2.2.2.2.2.1 hP e (by rw [wl_get (e97 ht (Nat.lt_trans ok.2.2.1 (by decide))), cell_obj ht ok.2.2.1]) ok.1 j hj ((hok.2.2.2.2.2.2.2.2.2.1 _ w).use (NW_on _ w)) (fun _ z => z) hv d (k hok r u2 ho H locs ls hP hS h)

/-- an int field; at a known cell; a field that is a cell -/
theorem go_getI {t : Nat} {C : String} {T : u_T} {N : Nat} {ty : Nat → FieldType} (ok : clOk t C T N ty) {e : Nat} (ht : (kT e == t) = true) (j : Nat) (hj : j < N) {c : Nat} (hv : ∀ g, (fl ad e g t)[j]? = some (.int (g c))) {index : Nat} (w : Cond.fieldLink M.2.1 index (T j).1 (T j).2.1 (T j).2.2.1 ∈ GW) (d : decode M.1 pc = .ok (.getfield index, 3)) (k : Go X ad M iv (pc + 3) lv (.int (u.1 (kR e) (kO e + c)) :: st) u o) : Go X ad M iv pc lv (.ref (ad e) :: st) u o := go_get0 ok ht j hj (hv _) w d k
theorem go_getIL {t : Nat} {C : String} {T : u_T} {N : Nat} {ty : Nat → FieldType} (ok : clOk t C T N ty) {e : Nat} (ht : (kT e == t) = true) (j : Nat) (hj : j < N) {c : Nat} (hv : ∀ g, (fl ad e g t)[j]? = some (.int (g c))) {rr : Nat} (hr : kR e = rr ∧ kO e = 0) {index : Nat} (w : Cond.fieldLink M.2.1 index (T j).1 (T j).2.1 (T j).2.2.1 ∈ GW) (d : decode M.1 pc = .ok (.getfield index, 3)) (k : Go X ad M iv (pc + 3) lv (.int (u.1 rr c) :: st) u o) : Go X ad M iv pc lv (.ref (ad e) :: st) u o := by
  refine go_getI ok ht j hj hv w d ?_
  rw [hr.1, hr.2, Nat.zero_add]
  exact k
theorem go_getR {t : Nat} {C : String} {T : u_T} {N : Nat} {ty : Nat → FieldType} (ok : clOk t C T N ty) {e : Nat} (ht : (kT e == t) = true) (j : Nat) (hj : j < N) {f : Nat} (hv : ∀ g, (fl ad e g t)[j]? = some (.ref (ad f))) {index : Nat} (w : Cond.fieldLink M.2.1 index (T j).1 (T j).2.1 (T j).2.2.1 ∈ GW) (d : decode M.1 pc = .ok (.getfield index, 3)) (k : Go X ad M iv (pc + 3) lv (.ref (ad f) :: st) u o) : Go X ad M iv pc lv (.ref (ad e) :: st) u o := go_get0 ok ht j hj (hv _) w d k
theorem go_putI {t : Nat} {C : String} {T : u_T} {N : Nat} {ty : Nat → FieldType} (ok : clOk t C T N ty) {e : Nat} (ht : (kT e == t) = true) (j : Nat) (hj : j < N) {c : Nat} {x : Int32} (hv : ∀ g, (fl ad e g t).set j (.int x) = fl ad e (fun i => if i = c then x else g i) t) (hc : c < cnt t) {fty : FieldType} (hd : parseFieldDescriptor (T j).2.2.1 = some fty) (hfin : (T j).2.2.2 = false) (hn : narrow fty (.int x) = .int x) (hfit : fits fty (.int x) = true) (hl : ∀ g, j < (fl ad e g t).length) {index : Nat} (w : Cond.fieldLink M.2.1 index (T j).1 (T j).2.1 (T j).2.2.1 ∈ GW) (d : decode M.1 pc = .ok (.putfield index, 3)) (k : Go X ad M iv (pc + 3) lv st (w1 u (kR e) (kO e + c) x) o) : Go X ad M iv pc lv (.int x :: .ref (ad e) :: st) u o := by
  obtain ⟨p, l, ev, s, m, args, below, meth, cc, D, cA⟩ := X
  intro hok r u2 ho H locs ls hP hS h
  have h97 := e97 ht (Nat.lt_trans ok.2.2.1 (by decide))
  refine va_put hok.1 hok.2.1 hok.2.2.2.2.1 ok.2.1 ty ok.2.2.2.1 ok.2.2.2.2 hok.2.2.2.1 hok.2.2.2.2.2.2.2.2.1 hP (wl_D hok.2.2.2.2.2.2.2.1) hS e (by rw [wl_get h97, cell_obj ht ok.2.2.1]) ok.1 j hj (hok.2.2.2.2.1 _ w) (fun _ z => z) hfin hd hn hfit (hl _) d (fun H1 locs1 hP1 _ hS1 => ?_)
  refine k hok r u2 ho H1 locs1 ls ?_ hS1 h
  rw [← wl_set h97 (u := u) (u' := w1 u (kR e) (kO e + c) x) (e := .inr (t, (fl ad e (gk u e) t).set j (.int x))) (by rw [cell_obj ht ok.2.2.1, gk_w1, hv]) (fun i hi hne => other1 h97 (by rw [cn_obj ht ok.2.2.1]; exact hc) hi hne)]
  exact hP1
theorem go_putIL {t : Nat} {C : String} {T : u_T} {N : Nat} {ty : Nat → FieldType} (ok : clOk t C T N ty) {e : Nat} (ht : (kT e == t) = true) (j : Nat) (hj : j < N) {c : Nat} {x : Int32} (hv : ∀ g, (fl ad e g t).set j (.int x) = fl ad e (fun i => if i = c then x else g i) t) (hc : c < cnt t) {rr : Nat} (hr : kR e = rr ∧ kO e = 0) {fty : FieldType} (hd : parseFieldDescriptor (T j).2.2.1 = some fty) (hfin : (T j).2.2.2 = false) (hn : narrow fty (.int x) = .int x) (hfit : fits fty (.int x) = true) (hl : ∀ g, j < (fl ad e g t).length) {index : Nat} (w : Cond.fieldLink M.2.1 index (T j).1 (T j).2.1 (T j).2.2.1 ∈ GW) (d : decode M.1 pc = .ok (.putfield index, 3)) (k : Go X ad M iv (pc + 3) lv st (w1 u rr c x) o) : Go X ad M iv pc lv (.int x :: .ref (ad e) :: st) u o := by
  refine go_putI ok ht j hj hv hc hd hfin hn hfit hl w d ?_
  rw [hr.1, hr.2, Nat.zero_add]
  exact k
/-- an int field; at a known cell; a field that is a cell -/
theorem go_getIN {t : Nat} {C : String} {T : u_T} {N : Nat} {ty : Nat → FieldType} (ok : clOk t C T N ty) {e : Nat} (ht : (kT e == t) = true) (j : Nat) (hj : j < N) {c : Nat} (hv : ∀ g, (fl ad e g t)[j]? = some (.int (g c))) {index : Nat} {host : String} (w : Cond.fieldLinkNest M.2.1 index (T j).1 (T j).2.1 (T j).2.2.1 host ∈ NW) (d : decode M.1 pc = .ok (.getfield index, 3)) (k : Go X ad M iv (pc + 3) lv (.int (u.1 (kR e) (kO e + c)) :: st) u o) : Go X ad M iv pc lv (.ref (ad e) :: st) u o := go_get0N ok ht j hj (hv _) w d k
theorem go_getILN {t : Nat} {C : String} {T : u_T} {N : Nat} {ty : Nat → FieldType} (ok : clOk t C T N ty) {e : Nat} (ht : (kT e == t) = true) (j : Nat) (hj : j < N) {c : Nat} (hv : ∀ g, (fl ad e g t)[j]? = some (.int (g c))) {rr : Nat} (hr : kR e = rr ∧ kO e = 0) {index : Nat} {host : String} (w : Cond.fieldLinkNest M.2.1 index (T j).1 (T j).2.1 (T j).2.2.1 host ∈ NW) (d : decode M.1 pc = .ok (.getfield index, 3)) (k : Go X ad M iv (pc + 3) lv (.int (u.1 rr c) :: st) u o) : Go X ad M iv pc lv (.ref (ad e) :: st) u o := by
  refine go_getIN ok ht j hj hv w d ?_
  rw [hr.1, hr.2, Nat.zero_add]
  exact k
theorem go_getRN {t : Nat} {C : String} {T : u_T} {N : Nat} {ty : Nat → FieldType} (ok : clOk t C T N ty) {e : Nat} (ht : (kT e == t) = true) (j : Nat) (hj : j < N) {f : Nat} (hv : ∀ g, (fl ad e g t)[j]? = some (.ref (ad f))) {index : Nat} {host : String} (w : Cond.fieldLinkNest M.2.1 index (T j).1 (T j).2.1 (T j).2.2.1 host ∈ NW) (d : decode M.1 pc = .ok (.getfield index, 3)) (k : Go X ad M iv (pc + 3) lv (.ref (ad f) :: st) u o) : Go X ad M iv pc lv (.ref (ad e) :: st) u o := go_get0N ok ht j hj (hv _) w d k
theorem go_putIN {t : Nat} {C : String} {T : u_T} {N : Nat} {ty : Nat → FieldType} (ok : clOk t C T N ty) {e : Nat} (ht : (kT e == t) = true) (j : Nat) (hj : j < N) {c : Nat} {x : Int32} (hv : ∀ g, (fl ad e g t).set j (.int x) = fl ad e (fun i => if i = c then x else g i) t) (hc : c < cnt t) {fty : FieldType} (hd : parseFieldDescriptor (T j).2.2.1 = some fty) (hfin : (T j).2.2.2 = false) (hn : narrow fty (.int x) = .int x) (hfit : fits fty (.int x) = true) (hl : ∀ g, j < (fl ad e g t).length) {index : Nat} {host : String} (w : Cond.fieldLinkNest M.2.1 index (T j).1 (T j).2.1 (T j).2.2.1 host ∈ NW) (d : decode M.1 pc = .ok (.putfield index, 3)) (k : Go X ad M iv (pc + 3) lv st (w1 u (kR e) (kO e + c) x) o) : Go X ad M iv pc lv (.int x :: .ref (ad e) :: st) u o := by
  obtain ⟨p, l, ev, s, m, args, below, meth, cc, D, cA⟩ := X
  intro hok r u2 ho H locs ls hP hS h
  have h97 := e97 ht (Nat.lt_trans ok.2.2.1 (by decide))
  refine va_putN hok.1 hok.2.1 hok.2.2.2.2.1 ok.2.1 ty ok.2.2.2.1 ok.2.2.2.2 hok.2.2.2.1 hok.2.2.2.2.2.2.2.2.1 hP (wl_D hok.2.2.2.2.2.2.2.1) hS e (by rw [wl_get h97, cell_obj ht ok.2.2.1]) ok.1 j hj ((hok.2.2.2.2.2.2.2.2.2.1 _ w).use (NW_on _ w)) (fun _ z => z) hfin hd hn hfit (hl _) d (fun H1 locs1 hP1 _ hS1 => ?_)
  refine k hok r u2 ho H1 locs1 ls ?_ hS1 h
  rw [← wl_set h97 (u := u) (u' := w1 u (kR e) (kO e + c) x) (e := .inr (t, (fl ad e (gk u e) t).set j (.int x))) (by rw [cell_obj ht ok.2.2.1, gk_w1, hv]) (fun i hi hne => other1 h97 (by rw [cn_obj ht ok.2.2.1]; exact hc) hi hne)]
  exact hP1
theorem go_putILN {t : Nat} {C : String} {T : u_T} {N : Nat} {ty : Nat → FieldType} (ok : clOk t C T N ty) {e : Nat} (ht : (kT e == t) = true) (j : Nat) (hj : j < N) {c : Nat} {x : Int32} (hv : ∀ g, (fl ad e g t).set j (.int x) = fl ad e (fun i => if i = c then x else g i) t) (hc : c < cnt t) {rr : Nat} (hr : kR e = rr ∧ kO e = 0) {fty : FieldType} (hd : parseFieldDescriptor (T j).2.2.1 = some fty) (hfin : (T j).2.2.2 = false) (hn : narrow fty (.int x) = .int x) (hfit : fits fty (.int x) = true) (hl : ∀ g, j < (fl ad e g t).length) {index : Nat} {host : String} (w : Cond.fieldLinkNest M.2.1 index (T j).1 (T j).2.1 (T j).2.2.1 host ∈ NW) (d : decode M.1 pc = .ok (.putfield index, 3)) (k : Go X ad M iv (pc + 3) lv st (w1 u rr c x) o) : Go X ad M iv pc lv (.int x :: .ref (ad e) :: st) u o := by
  refine go_putIN ok ht j hj hv hc hd hfin hn hfit hl w d ?_
  rw [hr.1, hr.2, Nat.zero_add]
  exact k
theorem cell_ia {cA : Nat → ClassId} {e : Nat} (ht : (kT e == 10) = true) : cellE ad cA u e = .inl (cA 0, kL e, .inl (mk1 (kL e) (gk u e))) := by simp [cellE, cellF, eq_of_beq ht]
theorem cell_la {cA : Nat → ClassId} {e : Nat} (ht : (kT e == 11) = true) : cellE ad cA u e = .inl (cA 1, kL e, .inr (.inl (mk2 (kL e) (hk u e)))) := by simp [cellE, cellF, eq_of_beq ht]
theorem cell_ba {cA : Nat → ClassId} {e : Nat} (ht : (kT e == 12) = true) : cellE ad cA u e = .inl (cA 2, kL e, .inl (mk1 (kL e) (gk u e))) := by simp [cellE, cellF, eq_of_beq ht]
theorem mk1_at {n : Nat} {f : Nat → Int32} {i : Int32} (h : inb i n = true) : mk1 n f i.toNatClampNeg = f i.toNatClampNeg := if_pos (inb_lt h)
theorem mk2_at {n : Nat} {f : Nat → Int64} {i : Int32} (h : inb i n = true) : mk2 n f i.toNatClampNeg = f i.toNatClampNeg := if_pos (inb_lt h)
theorem mk1_upd {n i : Nat} {f : Nat → Int32} {x : Int32} (h : i < n) : upd (mk1 n f) i x = mk1 n (fun j => if j = i then x else f j) := by
  funext j
  unfold upd mk1
  by_cases hj : j = i
  · subst hj; simp [h]
  · simp [hj]
theorem mk2_upd {n i : Nat} {f : Nat → Int64} {x : Int64} (h : i < n) : vp_updL (mk2 n f) i x = mk2 n (fun j => if j = i then x else f j) := by
  funext j
  unfold vp_updL mk2
  by_cases hj : j = i
  · subst hj; simp [h]
  · simp [hj]
theorem go_iald {e : Nat} {i : Int32} (ht : (kT e == 10) = true) (hi : inb i (kL e) = true) (d : decode M.1 pc = .ok (.iaload, 1)) (k : Go X ad M iv (pc + 1) lv (.int (u.1 (kR e) (kO e + i.toNatClampNeg)) :: st) u o) : Go X ad M iv pc lv (.int i :: .ref (ad e) :: st) u o := by
  obtain ⟨p, l, ev, s, m, args, below, meth, c, D, cA⟩ := X
  intro hok r u2 ho H locs ls hP hS h
  refine va_iald hok.1 hok.2.1 hok.2.2.2.2.2.2.2.2.1 hP e 0 (by rw [wl_get (e97 ht (by decide)), cell_ia ht]) rfl (inb_in hi) d ?_
  rw [mk1_at hi]
  exact k hok r u2 ho H locs ls hP hS h
theorem go_ialdL {e n rr : Nat} {i : Int32} (ht : (kT e == 10) = true) (hr : kR e = rr ∧ kO e = 0) (hn : kL e = n) (hi : inb i n = true) (d : decode M.1 pc = .ok (.iaload, 1)) (k : Go X ad M iv (pc + 1) lv (.int (u.1 rr i.toNatClampNeg) :: st) u o) : Go X ad M iv pc lv (.int i :: .ref (ad e) :: st) u o := by
  refine go_iald ht (by rw [hn]; exact hi) d ?_
  rw [hr.1, hr.2, Nat.zero_add]
  exact k
theorem go_baldL {e n rr : Nat} {i : Int32} (ht : (kT e == 12) = true) (hr : kR e = rr ∧ kO e = 0) (hn : kL e = n) (hi : inb i n = true) (d : decode M.1 pc = .ok (.baload, 1)) (k : Go X ad M iv (pc + 1) lv (.int (u.1 rr i.toNatClampNeg) :: st) u o) : Go X ad M iv pc lv (.int i :: .ref (ad e) :: st) u o := by
  obtain ⟨p, l, ev, s, m, args, below, meth, c, D, cA⟩ := X
  intro hok r u2 ho H locs ls hP hS h
  subst hn
  refine va_bald hok.1 hok.2.1 hok.2.2.2.2.2.2.2.2.1 hP e 2 (by rw [wl_get (e97 ht (by decide)), cell_ba ht]) rfl (inb_in hi) d ?_
  rw [mk1_at hi, show gk u e i.toNatClampNeg = u.1 rr i.toNatClampNeg by unfold gk; rw [hr.1, hr.2, Nat.zero_add]]
  exact k hok r u2 ho H locs ls hP hS h
theorem go_lald {e : Nat} {i : Int32} (ht : (kT e == 11) = true) (hi : inb i (kL e) = true) (d : decode M.1 pc = .ok (.laload, 1)) (k : Go X ad M iv (pc + 1) lv (.long (u.2 (kR e) i.toNatClampNeg) :: st) u o) : Go X ad M iv pc lv (.int i :: .ref (ad e) :: st) u o := by
  obtain ⟨p, l, ev, s, m, args, below, meth, c, D, cA⟩ := X
  intro hok r u2 ho H locs ls hP hS h
  refine va_lald hok.1 hok.2.1 hok.2.2.2.2.2.2.2.2.1 hP e 1 (by rw [wl_get (e97 ht (by decide)), cell_la ht]) rfl (inb_in hi) d ?_
  rw [mk2_at hi]
  exact k hok r u2 ho H locs ls hP hS h
theorem go_laldL {e n rr : Nat} {i : Int32} (ht : (kT e == 11) = true) (hr : kR e = rr ∧ kO e = 0) (hn : kL e = n) (hi : inb i n = true) (d : decode M.1 pc = .ok (.laload, 1)) (k : Go X ad M iv (pc + 1) lv (.long (u.2 rr i.toNatClampNeg) :: st) u o) : Go X ad M iv pc lv (.int i :: .ref (ad e) :: st) u o := by
  refine go_lald ht (by rw [hn]; exact hi) d ?_
  rw [hr.1]
  exact k
theorem go_iast {e : Nat} {i x : Int32} (ht : (kT e == 10) = true) (hi : inb i (kL e) = true) (d : decode M.1 pc = .ok (.iastore, 1)) (k : Go X ad M iv (pc + 1) lv st (w1 u (kR e) (kO e + i.toNatClampNeg) x) o) : Go X ad M iv pc lv (.int x :: .int i :: .ref (ad e) :: st) u o := by
  obtain ⟨p, l, ev, s, m, args, below, meth, c, D, cA⟩ := X
  intro hok r u2 ho H locs ls hP hS h
  have h97 := e97 ht (by decide)
  refine va_iast hok.1 hok.2.1 hok.2.2.2.2.2.2.2.2.1 hP (wl_D hok.2.2.2.2.2.2.2.1) hS e 0 (by rw [wl_get h97, cell_ia ht]) rfl (inb_in hi) d (fun H1 locs1 hP1 _ hS1 => ?_)
  refine k hok r u2 ho H1 locs1 ls ?_ hS1 h
  rw [← wl_set h97 (u := u) (u' := w1 u (kR e) (kO e + i.toNatClampNeg) x) (e := .inl (cA 0, kL e, .inl (upd (mk1 (kL e) (gk u e)) i.toNatClampNeg x))) (by rw [cell_ia ht, gk_w1, mk1_upd (inb_lt hi)]) (fun a ha hne => other1 h97 (by simp only [cn, eq_of_beq ht]; exact inb_lt hi) ha hne)]
  exact hP1
theorem go_iastL {e n rr : Nat} {i x : Int32} (ht : (kT e == 10) = true) (hr : kR e = rr ∧ kO e = 0) (hn : kL e = n) (hi : inb i n = true) (d : decode M.1 pc = .ok (.iastore, 1)) (k : Go X ad M iv (pc + 1) lv st (w1 u rr i.toNatClampNeg x) o) : Go X ad M iv pc lv (.int x :: .int i :: .ref (ad e) :: st) u o := by
  refine go_iast ht (by rw [hn]; exact hi) d ?_
  rw [hr.1, hr.2, Nat.zero_add]
  exact k
theorem go_bastL {e n rr : Nat} {i x : Int32} (ht : (kT e == 12) = true) (hr : kR e = rr ∧ kO e = 0) (hn : kL e = n) (hi : inb i n = true) (d : decode M.1 pc = .ok (.bastore, 1)) (k : Go X ad M iv (pc + 1) lv st (w1 u rr i.toNatClampNeg x.toInt8.toInt32) o) : Go X ad M iv pc lv (.int x :: .int i :: .ref (ad e) :: st) u o := by
  obtain ⟨p, l, ev, s, m, args, below, meth, c, D, cA⟩ := X
  intro hok r u2 ho H locs ls hP hS h
  subst hn
  have h97 := e97 ht (by decide)
  refine va_bast hok.1 hok.2.1 hok.2.2.2.2.2.2.2.2.1 hP (wl_D hok.2.2.2.2.2.2.2.1) hS e 2 (by rw [wl_get h97, cell_ba ht]) rfl (inb_in hi) d (fun H1 locs1 hP1 _ hS1 => ?_)
  refine k hok r u2 ho H1 locs1 ls ?_ hS1 h
  rw [vp_nar_byte] at hP1
  have e1 : w1 u rr i.toNatClampNeg x.toInt8.toInt32 = w1 u (kR e) (kO e + i.toNatClampNeg) x.toInt8.toInt32 := by rw [hr.1, hr.2, Nat.zero_add]
  rw [e1, ← wl_set h97 (u := u) (u' := w1 u (kR e) (kO e + i.toNatClampNeg) x.toInt8.toInt32) (e := .inl (cA 2, kL e, .inl (upd (mk1 (kL e) (gk u e)) i.toNatClampNeg x.toInt8.toInt32))) (by rw [cell_ba ht, gk_w1, mk1_upd (inb_lt hi)]) (fun a ha hne => other1 h97 (by simp only [cn, eq_of_beq ht]; exact inb_lt hi) ha hne)]
  exact hP1
theorem hk_w2 {k j : Nat} {x : Int64} : hk (w2 u (kR k) j x) k = fun i => if i = j then x else hk u k i := by
  funext i
  show (if kR k = kR k ∧ i = j then x else u.2 (kR k) i) = _
  by_cases h : i = j
  · subst h; simp
  · rw [if_neg (by omega), if_neg h]; rfl
theorem go_last {e : Nat} {i : Int32} {x : Int64} (ht : (kT e == 11) = true) (hi : inb i (kL e) = true) (d : decode M.1 pc = .ok (.lastore, 1)) (k : Go X ad M iv (pc + 1) lv st (w2 u (kR e) i.toNatClampNeg x) o) : Go X ad M iv pc lv (.long x :: .int i :: .ref (ad e) :: st) u o := by
  obtain ⟨p, l, ev, s, m, args, below, meth, c, D, cA⟩ := X
  intro hok r u2 ho H locs ls hP hS h
  have h97 := e97 ht (by decide)
  refine va_last hok.1 hok.2.1 hok.2.2.2.2.2.2.2.2.1 hP (wl_D hok.2.2.2.2.2.2.2.1) hS e 1 (by rw [wl_get h97, cell_la ht]) rfl (inb_in hi) d (fun H1 locs1 hP1 _ hS1 => ?_)
  refine k hok r u2 ho H1 locs1 ls ?_ hS1 h
  rw [← wl_set h97 (u := u) (u' := w2 u (kR e) i.toNatClampNeg x) (e := .inl (cA 1, kL e, .inr (.inl (vp_updL (mk2 (kL e) (hk u e)) i.toNatClampNeg x)))) (by rw [cell_la ht, hk_w2, mk2_upd (inb_lt hi)]) (fun a ha hne => other2 h97 (eq_of_beq ht) ha hne)]
  exact hP1
theorem go_lastL {e n rr : Nat} {i : Int32} {x : Int64} (ht : (kT e == 11) = true) (hr : kR e = rr ∧ kO e = 0) (hn : kL e = n) (hi : inb i n = true) (d : decode M.1 pc = .ok (.lastore, 1)) (k : Go X ad M iv (pc + 1) lv st (w2 u rr i.toNatClampNeg x) o) : Go X ad M iv pc lv (.long x :: .int i :: .ref (ad e) :: st) u o := by
  refine go_last ht (by rw [hn]; exact hi) d ?_
  rw [hr.1]
  exact k
theorem go_aald13 {e : Nat} {i : Int32} (ht : (kT e == 13) = true) (hi : inb i 6 = true) (d : decode M.1 pc = .ok (.aaload, 1)) (k : Go X ad M iv (pc + 1) lv (.ref (ad (e + 2 + i.toNatClampNeg)) :: st) u o) : Go X ad M iv pc lv (.int i :: .ref (ad e) :: st) u o := by
  obtain ⟨p, l, ev, s, m, args, below, meth, c, D, cA⟩ := X
  intro hok r u2 ho H locs ls hP hS h
  exact va_aldq (f := fun j => some (ad (e + 2 + j))) hok.1 hok.2.1 hok.2.2.2.2.2.2.2.2.1 hP e 3 (by rw [wl_get (e97 ht (by decide)), show cellE ad cA u e = _ by simp [cellE, cellF, eq_of_beq ht]; rfl]) rfl (inb_in hi) d (k hok r u2 ho H locs ls hP hS h)
theorem go_alen13 {e : Nat} (ht : (kT e == 13) = true) (d : decode M.1 pc = .ok (.arraylength, 1)) (k : Go X ad M iv (pc + 1) lv (.int 6 :: st) u o) : Go X ad M iv pc lv (.ref (ad e) :: st) u o := by
  obtain ⟨p, l, ev, s, m, args, below, meth, c, D, cA⟩ := X
  intro hok r u2 ho H locs ls hP hS h
  exact va_alen hok.1 hok.2.1 hok.2.2.2.2.2.2.2.2.1 hP e 3 (by rw [wl_get (e97 ht (by decide)), show cellE ad cA u e = _ by simp [cellE, cellF, eq_of_beq ht]; rfl]) rfl rfl d (k hok r u2 ho H locs ls hP hS h)
theorem go_aald14 {e : Nat} {i : Int32} (ht : (kT e == 14) = true) (hi : inb i 8 = true) (d : decode M.1 pc = .ok (.aaload, 1)) (k : Go X ad M iv (pc + 1) lv (.ref (ad (e + 13 + i.toNatClampNeg)) :: st) u o) : Go X ad M iv pc lv (.int i :: .ref (ad e) :: st) u o := by
  obtain ⟨p, l, ev, s, m, args, below, meth, c, D, cA⟩ := X
  intro hok r u2 ho H locs ls hP hS h
  exact va_aldq (f := fun j => some (ad (e + 13 + j))) hok.1 hok.2.1 hok.2.2.2.2.2.2.2.2.1 hP e 4 (by rw [wl_get (e97 ht (by decide)), show cellE ad cA u e = _ by simp [cellE, cellF, eq_of_beq ht]; rfl]) rfl (inb_in hi) d (k hok r u2 ho H locs ls hP hS h)
theorem go_alen14 {e : Nat} (ht : (kT e == 14) = true) (d : decode M.1 pc = .ok (.arraylength, 1)) (k : Go X ad M iv (pc + 1) lv (.int 8 :: st) u o) : Go X ad M iv pc lv (.ref (ad e) :: st) u o := by
  obtain ⟨p, l, ev, s, m, args, below, meth, c, D, cA⟩ := X
  intro hok r u2 ho H locs ls hP hS h
  exact va_alen hok.1 hok.2.1 hok.2.2.2.2.2.2.2.2.1 hP e 4 (by rw [wl_get (e97 ht (by decide)), show cellE ad cA u e = _ by simp [cellE, cellF, eq_of_beq ht]; rfl]) rfl rfl d (k hok r u2 ho H locs ls hP hS h)
theorem go_aald15 {e : Nat} {i : Int32} (ht : (kT e == 15) = true) (hi : inb i 4 = true) (d : decode M.1 pc = .ok (.aaload, 1)) (k : Go X ad M iv (pc + 1) lv (.ref (ad (73 + i.toNatClampNeg)) :: st) u o) : Go X ad M iv pc lv (.int i :: .ref (ad e) :: st) u o := by
  obtain ⟨p, l, ev, s, m, args, below, meth, c, D, cA⟩ := X
  intro hok r u2 ho H locs ls hP hS h
  exact va_aldq (f := fun j => some (ad (73 + j))) hok.1 hok.2.1 hok.2.2.2.2.2.2.2.2.1 hP e 5 (by rw [wl_get (e97 ht (by decide)), show cellE ad cA u e = _ by simp [cellE, cellF, eq_of_beq ht]; rfl]) rfl (inb_in hi) d (k hok r u2 ho H locs ls hP hS h)
theorem go_alen15 {e : Nat} (ht : (kT e == 15) = true) (d : decode M.1 pc = .ok (.arraylength, 1)) (k : Go X ad M iv (pc + 1) lv (.int 4 :: st) u o) : Go X ad M iv pc lv (.ref (ad e) :: st) u o := by
  obtain ⟨p, l, ev, s, m, args, below, meth, c, D, cA⟩ := X
  intro hok r u2 ho H locs ls hP hS h
  exact va_alen hok.1 hok.2.1 hok.2.2.2.2.2.2.2.2.1 hP e 5 (by rw [wl_get (e97 ht (by decide)), show cellE ad cA u e = _ by simp [cellE, cellF, eq_of_beq ht]; rfl]) rfl rfl d (k hok r u2 ho H locs ls hP hS h)
theorem go_alen10 {e : Nat} {v : Int32} (ht : (kT e == 10) = true) (hv : Int32.ofNat (kL e) = v) (d : decode M.1 pc = .ok (.arraylength, 1)) (k : Go X ad M iv (pc + 1) lv (.int v :: st) u o) : Go X ad M iv pc lv (.ref (ad e) :: st) u o := by
  obtain ⟨p, l, ev, s, m, args, below, meth, c, D, cA⟩ := X
  intro hok r u2 ho H locs ls hP hS h
  exact va_alen hok.1 hok.2.1 hok.2.2.2.2.2.2.2.2.1 hP e 0 (by rw [wl_get (e97 ht (by decide)), cell_ia ht]) rfl hv d (k hok r u2 ho H locs ls hP hS h)
theorem go_alen11 {e : Nat} {v : Int32} (ht : (kT e == 11) = true) (hv : Int32.ofNat (kL e) = v) (d : decode M.1 pc = .ok (.arraylength, 1)) (k : Go X ad M iv (pc + 1) lv (.int v :: st) u o) : Go X ad M iv pc lv (.ref (ad e) :: st) u o := by
  obtain ⟨p, l, ev, s, m, args, below, meth, c, D, cA⟩ := X
  intro hok r u2 ho H locs ls hP hS h
  exact va_alen hok.1 hok.2.1 hok.2.2.2.2.2.2.2.2.1 hP e 1 (by rw [wl_get (e97 ht (by decide)), cell_la ht]) rfl hv d (k hok r u2 ho H locs ls hP hS h)
theorem go_alen12 {e : Nat} {v : Int32} (ht : (kT e == 12) = true) (hv : Int32.ofNat (kL e) = v) (d : decode M.1 pc = .ok (.arraylength, 1)) (k : Go X ad M iv (pc + 1) lv (.int v :: st) u o) : Go X ad M iv pc lv (.ref (ad e) :: st) u o := by
  obtain ⟨p, l, ev, s, m, args, below, meth, c, D, cA⟩ := X
  intro hok r u2 ho H locs ls hP hS h
  exact va_alen hok.1 hok.2.1 hok.2.2.2.2.2.2.2.2.1 hP e 2 (by rw [wl_get (e97 ht (by decide)), cell_ba ht]) rfl hv d (k hok r u2 ho H locs ls hP hS h)
/-- the tables of Calendar -/
theorem go_gett (t : Nat) (ht : t < 3) {index : Nat} (w : Cond.fieldLink M.2.1 index RX0 (tbn t) "[I" ∈ GW) (d : decode M.1 pc = .ok (.getstatic index, 3)) (k : Go X ad M iv (pc + 3) lv (.ref (ad (100 + t)) :: st) u o) : Go X ad M iv pc lv st u o := by
  obtain ⟨p, l, ev, s, m, args, below, meth, c, D, cA⟩ := X
  intro hok r u2 ho H locs ls hP hS h
  exact va_gets hok.1 hok.2.1 (hok.2.2.2.2.2.2.2.2.2.2.1 t ht).1 hS hok.2.2.2.1 (hok.2.2.2.2.1 _ w) (fun _ z => z) d (k hok r u2 ho H locs ls hP hS h)
theorem go_tald (t : Nat) (ht : t < 3) {i : Int32} (hi : inb i 5 = true) (d : decode M.1 pc = .ok (.iaload, 1)) (k : Go X ad M iv (pc + 1) lv (.int (tbv t i.toNatClampNeg) :: st) u o) : Go X ad M iv pc lv (.int i :: .ref (ad (100 + t)) :: st) u o := by
  obtain ⟨p, l, ev, s, m, args, below, meth, c, D, cA⟩ := X
  intro hok r u2 ho H locs ls hP hS h
  exact va_ti hok.1 hok.2.1 (hok.2.2.2.2.2.2.2.2.2.2.1 t ht).2 hS (inb_in hi) rfl d (k hok r u2 ho H locs ls hP hS h)
theorem go_getcs {index : Nat} (w : Cond.fieldLink M.2.1 index "java/lang/String" "COMPACT_STRINGS" "Z" ∈ GW) (d : decode M.1 pc = .ok (.getstatic index, 3)) (k : Go X ad M iv (pc + 3) lv (.int 1 :: st) u o) : Go X ad M iv pc lv st u o := by
  obtain ⟨p, l, ev, s, m, args, below, meth, c, D, cA⟩ := X
  intro hok r u2 ho H locs ls hP hS h
  exact va_gets hok.1 hok.2.1 hok.2.2.2.2.2.2.2.2.2.2.2.2.2.1 hS hok.2.2.2.1 (hok.2.2.2.2.1 _ w) (fun _ z => z) d (k hok r u2 ho H locs ls hP hS h)
theorem go_getfm {index : Nat} (w : Cond.fieldLink M.2.1 index "jdk/internal/util/Preconditions" "SIOOBE_FORMATTER" "Ljava/util/function/BiFunction;" ∈ GW) (d : decode M.1 pc = .ok (.getstatic index, 3)) (k : ∀ q : Option Nat, Go X ad M iv (pc + 3) lv (va_rf q :: st) u o) : Go X ad M iv pc lv st u o := by
  obtain ⟨p, l, ev, s, m, args, below, meth, c, D, cA⟩ := X
  intro hok r u2 ho H locs ls hP hS h
  obtain ⟨q, hz⟩ := hok.2.2.2.2.2.2.2.2.2.2.2.2.2.2
  exact va_gets hok.1 hok.2.1 hz hS hok.2.2.2.1 (hok.2.2.2.2.1 _ w) (fun _ z => z) d (k q hok r u2 ho H locs ls hP hS h)
/-- the texts: a text is at a code from 110 on, its bytes 20 further -/
def isS (e : Nat) : Bool := decide (110 ≤ e) && decide (e < 124)
theorem isS_spec {e : Nat} (h : isS e = true) : 110 ≤ e ∧ e < 124 := by simpa [isS] using h
theorem go_ldcs (i : Nat) (hi : i < 14) {index : Nat} (hx : stI.getD i 0 = index) (hM : M.2.1 = RX4) (d : decode M.1 pc = .ok (.ldc index, 2)) (k : Go X ad M iv (pc + 2) lv (.ref (ad (110 + i)) :: st) u o) : Go X ad M iv pc lv st u o := by
  obtain ⟨p, l, ev, s, m, args, below, meth, c, D, cA⟩ := X
  intro hok r u2 ho H locs ls hP hS h
  subst hx
  have h4 := hok.2.2.2.2.2.2.2.2.2.2.2.2.1 i hi
  have h5 := hok.2.2.2.1
  rw [hM] at h5
  exact va_ldcS hok.1 hok.2.1 h5 h4 d (k hok r u2 ho H locs ls hP hS h)
theorem go_getsv {e : Nat} (hs : isS e = true) {index : Nat} (w : Cond.fieldLink M.2.1 index "java/lang/String" "value" "[B" ∈ GW) (d : decode M.1 pc = .ok (.getfield index, 3)) (k : Go X ad M iv (pc + 3) lv (.ref (ad (e + 20)) :: st) u o) : Go X ad M iv pc lv (.ref (ad e) :: st) u o := by
  obtain ⟨p, l, ev, s, m, args, below, meth, c, D, cA⟩ := X
  intro hok r u2 ho H locs ls hP hS h
  obtain ⟨h1, h2⟩ := isS_spec hs
  obtain ⟨i, rfl⟩ : ∃ i, e = 110 + i := ⟨e - 110, by omega⟩
  have hE := (hok.2.2.2.2.2.2.2.2.2.2.2.1.1 i (by omega)).2.2.1
  have e1 : 110 + i + 20 = 130 + i := by omega
  rw [e1] at k
  exact vk_getf hok.1 hok.2.1 hE hS hok.2.2.2.1 (hok.2.2.2.2.1 _ w) (fun _ z => z) d (k hok r u2 ho H locs ls hP hS h)
theorem go_getsc {e : Nat} (hs : isS e = true) {index : Nat} (w : Cond.fieldLink M.2.1 index "java/lang/String" "coder" "B" ∈ GW) (d : decode M.1 pc = .ok (.getfield index, 3)) (k : Go X ad M iv (pc + 3) lv (.int 0 :: st) u o) : Go X ad M iv pc lv (.ref (ad e) :: st) u o := by
  obtain ⟨p, l, ev, s, m, args, below, meth, c, D, cA⟩ := X
  intro hok r u2 ho H locs ls hP hS h
  obtain ⟨h1, h2⟩ := isS_spec hs
  obtain ⟨i, rfl⟩ : ∃ i, e = 110 + i := ⟨e - 110, by omega⟩
  have hE := (hok.2.2.2.2.2.2.2.2.2.2.2.1.1 i (by omega)).2.1
  exact vk_getf hok.1 hok.2.1 hE hS hok.2.2.2.1 (hok.2.2.2.2.1 _ w) (fun _ z => z) d (k hok r u2 ho H locs ls hP hS h)
def isV (e : Nat) : Bool := decide (130 ≤ e) && decide (e < 144)
theorem isV_spec {e : Nat} (h : isV e = true) : 130 ≤ e ∧ e < 144 := by simpa [isV] using h
theorem go_alenV {e : Nat} (hs : isV e = true) (d : decode M.1 pc = .ok (.arraylength, 1)) (k : Go X ad M iv (pc + 1) lv (.int (Int32.ofNat (stL.getD (e - 130) 0)) :: st) u o) : Go X ad M iv pc lv (.ref (ad e) :: st) u o := by
  obtain ⟨p, l, ev, s, m, args, below, meth, c, D, cA⟩ := X
  intro hok r u2 ho H locs ls hP hS h
  obtain ⟨h1, h2⟩ := isV_spec hs
  obtain ⟨i, rfl⟩ : ∃ i, e = 130 + i := ⟨e - 130, by omega⟩
  have hE := (hok.2.2.2.2.2.2.2.2.2.2.2.1.1 i (by omega)).2.2.2
  have e1 : 130 + i - 130 = i := by omega
  rw [e1] at k
  exact va_tlen hok.1 hok.2.1 hE hS rfl d (k hok r u2 ho H locs ls hP hS h)
theorem go_baldV {e : Nat} {i : Int32} (hs : isV e = true) (hi : inb i (stL.getD (e - 130) 0) = true) (d : decode M.1 pc = .ok (.baload, 1)) (k : Go X ad M iv (pc + 1) lv (.int ((stB.getD (e - 130) []).getD i.toNatClampNeg 0) :: st) u o) : Go X ad M iv pc lv (.int i :: .ref (ad e) :: st) u o := by
  obtain ⟨p, l, ev, s, m, args, below, meth, c, D, cA⟩ := X
  intro hok r u2 ho H locs ls hP hS h
  obtain ⟨h1, h2⟩ := isV_spec hs
  obtain ⟨n, rfl⟩ : ∃ n, e = 130 + n := ⟨e - 130, by omega⟩
  have hE := (hok.2.2.2.2.2.2.2.2.2.2.2.1.1 n (by omega)).2.2.2
  have e1 : 130 + n - 130 = n := by omega
  rw [e1] at k hi
  exact va_tb hok.1 hok.2.1 hE hS (inb_in hi) rfl d (k hok r u2 ho H locs ls hP hS h)
/-- Math.max, Math.min -/
def mxI (x y : Int32) : Int32 := if x < y then y else x
def mnI (x y : Int32) : Int32 := if y < x then y else x
theorem go_max {index : Nat} {x y : Int32} (w1' : Cond.methodLink M.2.1 index Lib.Math.max.name ∈ GW) (w2' : Cond.static Lib.Math.max.name ∈ GW) (w3' : Cond.initialized "java/lang/Math" ∈ GW) (w4' : Cond.code Lib.Math.max.name Lib.Math.max.code 2 (some .int) ∈ GW) (hf : 1 ≤ M.2.2.2.2.frames) (hlo : (st.map fun v => v.category).sum + 13 ≤ M.2.2.2.2.locals) (d : decode M.1 pc = .ok (.invokestatic index, 3)) (k : Go X ad M iv (pc + 3) lv (.int (mxI x y) :: st) u o) : Go X ad M iv pc lv (.int y :: .int x :: st) u o := by
  obtain ⟨p, l, ev, s, m, args, below, meth, c, D, cA⟩ := X
  intro hok r u2 ho H locs ls hP hS h
  exact va_mmax hok.1 hok.2.1 (hok.2.2.1.trans h.1.symm) hok.2.2.2.1 (hok.2.2.2.2.1 _ w1') (hok.2.2.2.2.1 _ w2') (hok.2.2.2.2.1 _ w3') (hok.2.2.2.2.1 _ w4') hf hlo (Nat.zero_le _) (Nat.zero_le _) d (k hok r u2 ho H locs ls hP hS h)
theorem go_min {index : Nat} {x y : Int32} (w1' : Cond.methodLink M.2.1 index Lib.Math.min.name ∈ GW) (w2' : Cond.static Lib.Math.min.name ∈ GW) (w3' : Cond.initialized "java/lang/Math" ∈ GW) (w4' : Cond.code Lib.Math.min.name Lib.Math.min.code 2 (some .int) ∈ GW) (hf : 1 ≤ M.2.2.2.2.frames) (hlo : (st.map fun v => v.category).sum + 13 ≤ M.2.2.2.2.locals) (d : decode M.1 pc = .ok (.invokestatic index, 3)) (k : Go X ad M iv (pc + 3) lv (.int (mnI x y) :: st) u o) : Go X ad M iv pc lv (.int y :: .int x :: st) u o := by
  obtain ⟨p, l, ev, s, m, args, below, meth, c, D, cA⟩ := X
  intro hok r u2 ho H locs ls hP hS h
  exact va_mmin hok.1 hok.2.1 (hok.2.2.1.trans h.1.symm) hok.2.2.2.1 (hok.2.2.2.2.1 _ w1') (hok.2.2.2.2.1 _ w2') (hok.2.2.2.2.1 _ w3') (hok.2.2.2.2.1 _ w4') hf hlo (Nat.zero_le _) (Nat.zero_le _) d (k hok r u2 ho H locs ls hP hS h)
end GoCells
/-- CALLS -/
def bd {β γ : Type} (q : Option (β × Uw)) (k : β → Uw → Option γ) : Option γ := q.bind fun z => k z.1 z.2
theorem bd_some {β γ : Type} {q : Option (β × Uw)} {k : β → Uw → Option γ} {z : γ} (h : bd q k = some z) : ∃ a w, q = some (a, w) ∧ k a w = some z := by
  obtain ⟨⟨a, w⟩, h1, h2⟩ := Option.bind_eq_some_iff.mp h
  exact ⟨a, w, h1, h2⟩
theorem call_core {p : Program} {l : Launch} {ev : Env} {R : Room} {s : State} {m : MethodId} {args : Array Value} {below : List Frame} {meth : Method} {c : Code} {H : Heap} {locs : List Loc} {Q : State → Prop} {pc : Nat} {ls : Array Slot} {rest st0 : List Value} {ad : Nat → Nat} {D : va_G} {cA : Nat → ClassId} {v : Option Value} {u1 : Uw} {a : Array Value}
    (hr : va_Run p l ev R s m args below meth c H locs 0 0 0 0 (F0 m pc ls st0) rest (QW ad D cA v u1 a) (Aw ad)) (hS : va_S (Aw ad) s.heap H locs)
    (kk : ∀ (H1 : Heap) (locs1 : List Loc), va_P D vwCl (wl ad cA u1) H1 → va_S (Aw ad) s.heap H1 locs1 → W p l ev R s m args below meth c H1 locs1 0 0 Q (F0 m (pc + 3) ls (v.toList ++ rest))) : W p l ev R s m args below meth c H locs 0 0 Q (F0 m pc ls st0) := by
  intro T hT X
  obtain ⟨v', st₀, t, T', L, h0, X', hL, e1, e2, ⟨hv, hP1, hz, hk⟩, stp⟩ := hr T hT X
  cases hv
  rw [h0] at hz hk
  obtain ⟨t2, a1, b1⟩ := kk T'.heap (locs ++ L) (by rw [e1]; exact hP1)
    ⟨Nat.le_trans hS.1 (by rw [e1]; exact hz), fun q h1 h2 => by rw [e1, hk q (Nat.lt_of_lt_of_le h1 hS.1) h2]; exact hS.2.1 q h1 h2, fun q hq => by
      rcases List.mem_append.mp hq with h | h
      · exact hS.2.2 q h
      · exact hL q h⟩ T' rfl X'
  exact ⟨t2, stp t2 a1, b1⟩
theorem wd_blind {ad : Nat → Nat} {D : va_G} {cA : Nat → ClassId} {u : Uw} {As : List Value} : FrameBlind (va_Pc As (Wd ad D cA u)) :=
  fun a U g mk q => ⟨q.1, q.2.1, va_K.moved (u := U) (U := U.calling g mk a) (Vm.Alike.refl U.vm) q.2.2.1, q.2.2.2.1, St.same (u := U) (U := U.calling g mk a) rfl q.2.2.2.2⟩
theorem wd_at {ad : Nat → Nat} {D : va_G} {cA : Nat → ClassId} {u : Uw} {s : State} {H : Heap} {locs : List Loc} (hi : injA ad) (hK : va_K D vwCl (tys cA) s) (hT : St ad s s.heap) (hP : va_P D vwCl (wl ad cA u) H) (hS : va_S (Aw ad) s.heap H locs) : ∀ U : State, U.heap = H → s.WarmedH U.vm → Wd ad D cA u U :=
  fun U hU hW => ⟨by rw [hU]; exact hP, va_K.moved hW.alike hK, hi, by rw [hU]; exact (hT.kept hS.2.1).warm hW⟩
/-- what is known of a method that is called -/
def MOK (y : MethodName) (N : Mi) (n : Nat) : Prop := Cond.code y N.1 N.2.2.1 N.2.2.2.1 ∈ GW ∧ Cond.initialized y.cls ∈ GW ∧ (y.cls ≠ "java/lang/invoke/MethodHandle" ∧ y.cls ≠ "java/lang/invoke/VarHandle" ∧ (parseMethodDescriptor y.desc).map (fun d => d.parameters.length) = some n) ∧ N.2.2.2.2.cells = 0 ∧ N.2.2.2.2.slots = 0
/-- and of one that is called on an object -/
def MOV (y : MethodName) (N : Mi) (n : Nat) (C : String) : Prop := MOK y N n ∧ Cond.instanceMethod y ∈ GW ∧ Cond.selects C y y ∈ GW
def RMok (N M : Mi) : Prop := N.2.2.2.2.frames + 1 ≤ M.2.2.2.2.frames ∧ 8 + (N.2.2.1 + 11) + N.2.2.2.2.locals ≤ M.2.2.2.2.locals
theorem goodGW {w : Cond} (h : w ∈ GW) : GoodIn GW (w :: GW) := fun z hz => by
  rcases List.mem_cons.mp hz with rfl | hz
  · exact ⟨h, GW_good h⟩
  · exact ⟨hz, GW_good hz⟩
section GoCalls
variable {X : Cx} {ad : Nat → Nat} {M : Mi} {α : Type} {iv : (Nat → Nat) → α → Option Value} {pc : Nat} {lv : List (Nat × Value)} {st stk : List Value} {u : Uw} {β : Type} {jv : (Nat → Nat) → β → Option Value} {y : MethodName} {N : Mi} {n index : Nat} {f : Option (β × Uw)} {kk : β → Uw → Option (α × Uw)}
theorem go_callV {t : Nat} {C : String} {T : u_T} {NF : Nat} {tyF : Nat → FieldType} {e : Nat} {As : (Nat → Nat) → List Value} (hM : ∀ l, Con l y N jv (fun ad => .ref (ad e) :: As ad) u f) (mo : MOV y N n C) (ok : clOk t C T NF tyF) (ht : (kT e == t) = true) (w : Cond.methodLink M.2.1 index y ∈ GW) (hn : (As ad).length = n) (hR : RMok N M) (hst : stk = (As ad).reverse ++ .ref (ad e) :: st) (hroom : (st.map fun v => v.category).sum ≤ 8) (d : decode M.1 pc = .ok (.invokevirtual index, 3))
    (k : ∀ (a : β) (v : Uw), Go X ad M iv (pc + 3) lv ((jv ad a).toList ++ st) v (kk a v)) : Go X ad M iv pc lv stk u (bd f kk) := by
  obtain ⟨p, l, ev, s, m, args, below, meth, c, D, cA⟩ := X
  intro hok r u2 ho H locs ls hP hS h
  obtain ⟨a, v, h1, h2⟩ := bd_some ho
  have hw := hok.2.2.2.2.1
  refine call_core (va_runV (Ts := GW) (b := ad e) (As := As ad) (rest := st) (nL := M.2.2.1) (C := C) ⟨hok.1, hok.2.1, hok.2.2.1, hok.2.2.2.1, hw⟩ (hM l ad D cA a v h1) ⟨callB_of n hw (goodGW mo.1.1) rfl mo.1.2.2.2.1 mo.1.2.2.2.2 (hw _ mo.1.2.1) (hw _ w) mo.1.2.2.1 hR, hw _ mo.2.1, hw _ mo.2.2⟩
    ⟨wd_blind, va_recv hok.2.2.2.2.2.2.2.2.1 hP ok.1 (by rw [wl_get (e97 ht (Nat.lt_trans ok.2.2.1 (by decide))), cell_obj ht ok.2.2.1]), fun U hU hW => ⟨rfl, wd_at hok.2.2.2.2.2.2.2.1 hok.2.2.2.2.2.2.2.2.1 hok.2.2.2.2.2.2.2.2.2 hP hS U hU hW⟩⟩ rfl hn h.1 hst (lv_room hroom) d ⟨Nat.zero_le _, Nat.zero_le _⟩) hS (fun H1 locs1 hP1 hS1 => ?_)
  exact k a v hok r u2 h2 H1 locs1 ls hP1 hS1 h
theorem go_callS {As : (Nat → Nat) → List Value} (hM : ∀ l, Con l y N jv As u f) (mo : MOK y N n) (ws : Cond.static y ∈ GW) (w : Cond.methodLink M.2.1 index y ∈ GW) (hn : (As ad).length = n) (hR : RMok N M) (hst : stk = (As ad).reverse ++ st) (hroom : (st.map fun v => v.category).sum ≤ 8) (d : decode M.1 pc = .ok (.invokestatic index, 3))
    (k : ∀ (a : β) (v : Uw), Go X ad M iv (pc + 3) lv ((jv ad a).toList ++ st) v (kk a v)) : Go X ad M iv pc lv stk u (bd f kk) := by
  obtain ⟨p, l, ev, s, m, args, below, meth, c, D, cA⟩ := X
  intro hok r u2 ho H locs ls hP hS h
  obtain ⟨a, v, h1, h2⟩ := bd_some ho
  have hw := hok.2.2.2.2.1
  refine call_core (va_runS (Ts := GW) (As := As ad) (rest := st) (nL := M.2.2.1) ⟨hok.1, hok.2.1, hok.2.2.1, hok.2.2.2.1, hw⟩ (hM l ad D cA a v h1) ⟨callB_of n hw (goodGW mo.1) rfl mo.2.2.2.1 mo.2.2.2.2 (hw _ mo.2.1) (hw _ w) mo.2.2.1 hR, hw _ ws⟩
    ⟨wd_blind, fun U hU hW => ⟨rfl, wd_at hok.2.2.2.2.2.2.2.1 hok.2.2.2.2.2.2.2.2.1 hok.2.2.2.2.2.2.2.2.2 hP hS U hU hW⟩⟩ rfl hn h.1 hst (lv_room hroom) d ⟨Nat.zero_le _, Nat.zero_le _⟩) hS (fun H1 locs1 hP1 hS1 => ?_)
  exact k a v hok r u2 h2 H1 locs1 ls hP1 hS1 h
theorem go_callSN {As : (Nat → Nat) → List Value} {host : String} (hM : ∀ l, Con l y N jv As u f) (mo : MOK y N n) (ws : Cond.static y ∈ GW) (w : Cond.methodLinkNest M.2.1 index y host ∈ NW) (hn : (As ad).length = n) (hR : RMok N M) (hst : stk = (As ad).reverse ++ st) (hroom : (st.map fun v => v.category).sum ≤ 8) (d : decode M.1 pc = .ok (.invokestatic index, 3))
    (k : ∀ (a : β) (v : Uw), Go X ad M iv (pc + 3) lv ((jv ad a).toList ++ st) v (kk a v)) : Go X ad M iv pc lv stk u (bd f kk) := by
  obtain ⟨p, l, ev, s, m, args, below, meth, c, D, cA⟩ := X
  intro hok r u2 ho H locs ls hP hS h
  obtain ⟨a, v, h1, h2⟩ := bd_some ho
  have hw := hok.2.2.2.2.1
  refine call_core (va_runSN (Ts := GW) (As := As ad) (rest := st) (nL := M.2.2.1) (host := host) ⟨hok.1, hok.2.1, hok.2.2.1, hok.2.2.2.1, hw⟩ (hM l ad D cA a v h1) ⟨va_cnB n hw (goodGW mo.1) rfl mo.2.2.2.1 mo.2.2.2.2 (hok.2.2.2.2.2.2.2.2.2.1 _ w) (hw _ mo.2.1) mo.2.2.1 hR, hw _ ws, trivial⟩
    ⟨wd_blind, fun U hU hW => ⟨rfl, wd_at hok.2.2.2.2.2.2.2.1 hok.2.2.2.2.2.2.2.2.1 hok.2.2.2.2.2.2.2.2.2 hP hS U hU hW⟩⟩ rfl hn h.1 hst (lv_room hroom) d ⟨Nat.zero_le _, Nat.zero_le _⟩) hS (fun H1 locs1 hP1 hS1 => ?_)
  exact k a v hok r u2 h2 H1 locs1 ls hP1 hS1 h
/-- a call on a text -/
theorem go_callT {e : Nat} {As : (Nat → Nat) → List Value} (hM : ∀ l, Con l y N jv (fun ad => .ref (ad e) :: As ad) u f) (mo : MOV y N n "java/lang/String") (hs : isS e = true) (w : Cond.methodLink M.2.1 index y ∈ GW) (hn : (As ad).length = n) (hR : RMok N M) (hst : stk = (As ad).reverse ++ .ref (ad e) :: st) (hroom : (st.map fun v => v.category).sum ≤ 8) (d : decode M.1 pc = .ok (.invokevirtual index, 3))
    (k : ∀ (a : β) (v : Uw), Go X ad M iv (pc + 3) lv ((jv ad a).toList ++ st) v (kk a v)) : Go X ad M iv pc lv stk u (bd f kk) := by
  obtain ⟨p, l, ev, s, m, args, below, meth, c, D, cA⟩ := X
  intro hok r u2 ho H locs ls hP hS h
  obtain ⟨a, v, h1, h2⟩ := bd_some ho
  have hw := hok.2.2.2.2.1
  obtain ⟨q1, q2⟩ := isS_spec hs
  have hrc : ∃ cell : Cell, H[ad e]? = some cell ∧ cell.vm.isStatics = false ∧ s.vm.findClass "java/lang/String" = some cell.cls := by
    have := vk_recv (i := e - 110) hok.2.2.2.2.2.2.2.2.2.2.2.1 (by omega) hS
    rw [show 110 + (e - 110) = e by omega] at this
    exact this
  refine call_core (va_runV (Ts := GW) (b := ad e) (As := As ad) (rest := st) (nL := M.2.2.1) (C := "java/lang/String") ⟨hok.1, hok.2.1, hok.2.2.1, hok.2.2.2.1, hw⟩ (hM l ad D cA a v h1) ⟨callB_of n hw (goodGW mo.1.1) rfl mo.1.2.2.2.1 mo.1.2.2.2.2 (hw _ mo.1.2.1) (hw _ w) mo.1.2.2.1 hR, hw _ mo.2.1, hw _ mo.2.2⟩
    ⟨wd_blind, hrc, fun U hU hW => ⟨rfl, wd_at hok.2.2.2.2.2.2.2.1 hok.2.2.2.2.2.2.2.2.1 hok.2.2.2.2.2.2.2.2.2 hP hS U hU hW⟩⟩ rfl hn h.1 hst (lv_room hroom) d ⟨Nat.zero_le _, Nat.zero_le _⟩) hS (fun H1 locs1 hP1 hS1 => ?_)
  exact k a v hok r u2 h2 H1 locs1 ls hP1 hS1 h
end GoCalls
/-- a contract out of the walk from the entry -/
theorem con_of {y : MethodName} {M : Mi} {α : Type} {iv : (Nat → Nat) → α → Option Value} {As : (Nat → Nat) → List Value} {u : Uw} {o : Option (α × Uw)} (hy : plainName y.cls = true) (hc : M.2.1 = y.cls) (hlen : ∀ ad, (lg_sl (As ad)).length ≤ M.2.2.1) (hgo : ∀ (X : Cx) (ad : Nat → Nat), Go X ad M iv 0 (lv_args 0 (As ad)) [] u o) : ∀ l, Con l y M iv As u o := by
  intro l ad D cA r u2 ho
  refine Met.ofW (cc := M.1) (maxL := M.2.2.1) (ret := M.2.2.2.1) hy rfl ?_
  intro p e s m args below meth c s₁ B hml hv
  obtain ⟨rfl, hP, hK, hi, hT⟩ := hv
  have hts := atoms_spec (ws := Cond.code y M.1 M.2.2.1 M.2.2.2.1 :: GW) B.pre
  have hown : s.vm.findClass M.2.1 = some m.cls := by rw [hc]; exact findClass_of_methodNamed B.named
  have hl := lv_entry (As ad) (n := M.2.2.1) (hlen ad)
  rw [lg_entry_eq]
  exact hgo (p, l, e, s, m, (As ad).toArray, below, meth, c, D, cA) ad ⟨B.exec, B.bytes, hml, hown, fun w hw => hts w (List.mem_cons_of_mem _ hw), B.notSynchronized, B.returns, hi, hK, hT⟩ r u2 ho s.heap [] _ hP va_S.rf hl
