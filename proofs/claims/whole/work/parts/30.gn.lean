/-! CONSTRUCTORS: a world that grows -/
def AOs (U : State) : Prop := va_AO RX0 U ∧ va_AO RX1 U ∧ va_AO RX2 U
theorem AOs.moved {s U : State} (hW : s.vm.Alike U.vm) (h : AOs s) : AOs U := ⟨h.1.moved hW, h.2.1.moved hW, h.2.2.moved hW⟩
def A1 (h0 sz : Nat) : Nat → Prop := fun q => q = h0 ∨ sz ≤ q
abbrev Fw : Type := (Nat → ClassId) → (Nat → Nat) → va_W
def OkN (X : Cx) (M : Mi) (A : Nat → Prop) : Prop := match X with
  | (p, _, _, s, m, args, _, meth, c, D, cA) => p.tables.exec = Jvm.exec ∧ c.code = M.1 ∧ c.maxLocals = M.2.2.1 ∧ s.vm.findClass M.2.1 = some m.cls ∧ (∀ w ∈ GW, w.before args s = true) ∧ meth.locks = false ∧ meth.sig.returnType = M.2.2.2.1 ∧ meth.name = "<init>" ∧ va_K D vwCl (tys cA) s ∧ (∀ w ∈ NW, va_Nw w s) ∧ AOs s ∧ ∀ q, s.heap.size ≤ q → A q
def Gn (X : Cx) (M : Mi) (A : Nat → Prop) (mc ms : Nat) (B : va_G → (Nat → ClassId) → Heap → Prop) (pc : Nat) (lv : List (Nat × Value)) (st : List Value) (ws : (Nat → ClassId) → va_W) (cells slots : Nat) : Prop := match X with
  | (p, l, e, s, m, args, below, meth, c, D, cA) => OkN (p, l, e, s, m, args, below, meth, c, D, cA) M A → ∀ (H : Heap) (locs : List Loc) (ls : Array Slot), va_P D vwCl (ws cA) H → va_D A (ws cA) → va_S A s.heap H locs → lv_has ls M.2.2.1 lv →
    W p l e M.2.2.2.2 s m args below meth c H locs cells slots (MQ below (fun _ st oc t => oc = .returned none ∧ B D cA t.heap ∧ va_F A st t) args s mc ms A) (F0 m pc ls st)
def WdN (D : va_G) (cA : Nat → ClassId) (sz h0 : Nat) (e0 : va_E) (U : State) : Prop := U.heap.size = sz ∧ va_P D vwCl [(h0, e0)] U.heap ∧ va_K D vwCl (tys cA) U ∧ (∀ w ∈ NW, va_Nw w U) ∧ AOs U
def BN (h0 : Nat) (A : Nat → Prop) (F : Fw) (D : va_G) (cA : Nat → ClassId) (H : Heap) : Prop := ∃ a : Nat → Nat, a 0 = h0 ∧ va_P D vwCl (F cA a) H ∧ va_D A (F cA a)
def ConN (l : Launch) (y : MethodName) (N : Mi) (e0 : va_E) (mc ms : Nat) (F : Fw) : Prop := ∀ (h0 : Nat) (D : va_G) (cA : Nat → ClassId) (sz : Nat), Met l y (Cond.code y N.1 N.2.2.1 none :: GW) N.2.2.2.2 (va_Pc [.ref h0] (WdN D cA sz h0 e0)) (fun _ st oc t => oc = .returned none ∧ BN h0 (A1 h0 sz) F D cA t.heap ∧ va_F (A1 h0 sz) st t) mc ms (A1 h0 sz)
theorem RA_inj {U : State} {a b : ClassId} {ty : FieldType} (h1 : va_RA U a ty) (h2 : va_RA U b ty) : a = b := by
  cases ty with
  | object C =>
    obtain ⟨_, _, _, _, _, q1⟩ := h1
    obtain ⟨_, _, _, _, _, q2⟩ := h2
    exact Option.some.inj (q1.symm.trans q2)
  | _ => exact Option.some.inj (Eq.trans (Eq.symm h1) h2)
theorem K_last {D : va_G} {cl : List vw_C} {tys : List (ClassId × FieldType)} {x : ClassId × FieldType} {U : State} (h : va_K D cl (tys ++ [x]) U) : va_RA U x.1 x.2 := (h.2 tys.length x (by simp)).2
section GnRows
variable {X : Cx} {M : Mi} {A : Nat → Prop} {mc ms : Nat} {B : va_G → (Nat → ClassId) → Heap → Prop} {pc : Nat} {lv : List (Nat × Value)} {st : List Value} {ws ws' : (Nat → ClassId) → va_W} {cells slots : Nat}
theorem gn_iconst {n : Int} {v : Int32} (d : decode M.1 pc = .ok (.iconst n, 1)) (hv : Int32.ofInt n = v) (k : Gn X M A mc ms B (pc + 1) lv (.int v :: st) ws cells slots) : Gn X M A mc ms B pc lv st ws cells slots := by
  obtain ⟨p, l, e, s, m, args, below, meth, c, D, cA⟩ := X
  intro hok H locs ls hP hD hS h
  exact lv_iconst hok.1 hok.2.1 d hv (k hok H locs ls hP hD hS h)
theorem gn_bipush {n : Int} {v : Int32} (d : decode M.1 pc = .ok (.bipush n, 2)) (hv : (Int8.ofInt n).toInt32 = v) (k : Gn X M A mc ms B (pc + 2) lv (.int v :: st) ws cells slots) : Gn X M A mc ms B pc lv st ws cells slots := by
  obtain ⟨p, l, e, s, m, args, below, meth, c, D, cA⟩ := X
  intro hok H locs ls hP hD hS h
  exact lv_bipush hok.1 hok.2.1 d hv (k hok H locs ls hP hD hS h)
theorem gn_sipush {n : Int} {v : Int32} (d : decode M.1 pc = .ok (.sipush n, 3)) (hv : (Int16.ofInt n).toInt32 = v) (k : Gn X M A mc ms B (pc + 3) lv (.int v :: st) ws cells slots) : Gn X M A mc ms B pc lv st ws cells slots := by
  obtain ⟨p, l, e, s, m, args, below, meth, c, D, cA⟩ := X
  intro hok H locs ls hP hD hS h
  exact lv_sipush hok.1 hok.2.1 d hv (k hok H locs ls hP hD hS h)
theorem gn_iload_n {q : Fin 4} {i : Nat} {x : Int32} (p0 : Nat) (hv : lv[p0]? = some (i, .int x)) (d : decode M.1 pc = .ok (.iload_n q, 1)) (hi : (q : Nat) = i) (k : Gn X M A mc ms B (pc + 1) lv (.int x :: st) ws cells slots) : Gn X M A mc ms B pc lv st ws cells slots := by
  obtain ⟨p, l, e, s, m, args, below, meth, c, D, cA⟩ := X
  intro hok H locs ls hP hD hS h
  exact lv_iload_n hok.1 hok.2.1 d hi (lv_at h p0 hv) (k hok H locs ls hP hD hS h)
theorem gn_aload_n {q : Fin 4} {i : Nat} {x : Nat} (p0 : Nat) (hv : lv[p0]? = some (i, .ref x)) (d : decode M.1 pc = .ok (.aload_n q, 1)) (hi : (q : Nat) = i) (k : Gn X M A mc ms B (pc + 1) lv (.ref x :: st) ws cells slots) : Gn X M A mc ms B pc lv st ws cells slots := by
  obtain ⟨p, l, e, s, m, args, below, meth, c, D, cA⟩ := X
  intro hok H locs ls hP hD hS h
  exact lv_aload_n hok.1 hok.2.1 d hi (lv_at h p0 hv) (k hok H locs ls hP hD hS h)
theorem gn_istore_n {q : Fin 4} {i : Nat} {x : Int32} {lv' : List (Nat × Value)} (d : decode M.1 pc = .ok (.istore_n q, 1)) (hi : (q : Nat) = i) (hn : i < M.2.2.1) (hl : (i, Value.int x) :: lv.filter (fun q => !(q.1 == i) && !(q.1 + 1 == i && q.2.category == 2)) = lv') (k : Gn X M A mc ms B (pc + 1) lv' st ws cells slots) : Gn X M A mc ms B pc lv (.int x :: st) ws cells slots := by
  obtain ⟨p, l, e, s, m, args, below, meth, c, D, cA⟩ := X
  intro hok H locs ls hP hD hS h
  exact lv_istore_n hok.1 hok.2.1 d hi h hn hl (fun ls' h' => k hok H locs ls' hP hD hS h')
theorem gn_iinc {i : Nat} {n : Int} {x v : Int32} {lv' : List (Nat × Value)} (p0 : Nat) (hv : lv[p0]? = some (i, .int x)) (d : decode M.1 pc = .ok (.iinc i n, 3)) (he : x + Int32.ofInt n = v) (hn : i < M.2.2.1) (hl : (i, Value.int v) :: lv.filter (fun q => !(q.1 == i) && !(q.1 + 1 == i && q.2.category == 2)) = lv') (k : Gn X M A mc ms B (pc + 3) lv' st ws cells slots) : Gn X M A mc ms B pc lv st ws cells slots := by
  obtain ⟨p, l, e, s, m, args, below, meth, c, D, cA⟩ := X
  intro hok H locs ls hP hD hS h
  exact lv_iinc hok.1 hok.2.1 d h hv he hn hl (fun ls' h' => k hok H locs ls' hP hD hS h')
theorem gn_dup {a : Value} (d : decode M.1 pc = .ok (.dup, 1)) (ha : a.category = 1) (k : Gn X M A mc ms B (pc + 1) lv (a :: a :: st) ws cells slots) : Gn X M A mc ms B pc lv (a :: st) ws cells slots := by
  obtain ⟨p, l, e, s, m, args, below, meth, c, D, cA⟩ := X
  intro hok H locs ls hP hD hS h
  exact lv_dup hok.1 hok.2.1 d ha (k hok H locs ls hP hD hS h)
theorem gn_goto {off : Int} {tgt : Nat} (d : decode M.1 pc = .ok (.goto off, 3)) (ht : (pc : Int) + off = (tgt : Int)) (k : Gn X M A mc ms B tgt lv st ws cells slots) : Gn X M A mc ms B pc lv st ws cells slots := by
  obtain ⟨p, l, e, s, m, args, below, meth, c, D, cA⟩ := X
  intro hok H locs ls hP hD hS h
  exact lv_goto hok.1 hok.2.1 d ht (k hok H locs ls hP hD hS h)
theorem gn_ge_t {x y : Int32} {off : Int} {tgt : Nat} (hx : y ≤ x) (d : decode M.1 pc = .ok (.if_icmp .ge off, 3)) (ht : (pc : Int) + off = (tgt : Int)) (k : Gn X M A mc ms B tgt lv st ws cells slots) : Gn X M A mc ms B pc lv (.int y :: .int x :: st) ws cells slots := by
  obtain ⟨p, l, e, s, m, args, below, meth, c, D, cA⟩ := X
  intro hok H locs ls hP hD hS h
  exact lv_icmp_ge hok.1 hok.2.1 d ht (fun _ => k hok H locs ls hP hD hS h) (fun q => absurd hx q)
theorem gn_ge_f {x y : Int32} {off : Int} {tgt : Nat} (hx : ¬ y ≤ x) (d : decode M.1 pc = .ok (.if_icmp .ge off, 3)) (ht : (pc : Int) + off = (tgt : Int)) (k : Gn X M A mc ms B (pc + 3) lv st ws cells slots) : Gn X M A mc ms B pc lv (.int y :: .int x :: st) ws cells slots := by
  obtain ⟨p, l, e, s, m, args, below, meth, c, D, cA⟩ := X
  intro hok H locs ls hP hD hS h
  exact lv_icmp_ge hok.1 hok.2.1 d ht (fun q => absurd q hx) (fun _ => k hok H locs ls hP hD hS h)
theorem gn_obj {x idx : Nat} (w1' : Cond.methodLink M.2.1 idx objectInit ∈ GW) (w2' : Cond.instanceMethod objectInit ∈ GW) (w3' : Cond.code objectInit ⟨#[0xb1]⟩ 1 none ∈ GW) (d : decode M.1 pc = .ok (.invokespecial idx, 3)) (hf : 1 ≤ M.2.2.2.2.frames) (hlo : 2 * 0 + (st.map fun v => v.category).sum + 12 ≤ M.2.2.2.2.locals) (k : Gn X M A mc ms B (pc + 3) lv st ws cells slots) : Gn X M A mc ms B pc lv (.ref x :: st) ws cells slots := by
  obtain ⟨p, l, e, s, m, args, below, meth, c, D, cA⟩ := X
  intro hok H locs ls hP hD hS h
  have hw := hok.2.2.2.2.1
  exact W.objInit hok.1 hok.2.1 hok.2.2.2.1 (hw _ w1') (hw _ w2') (hw _ w3') rfl (h.1.trans hok.2.2.1.symm) rfl d hf hlo (k hok H locs ls hP hD hS h)
theorem gn_new {t : Nat} {C : String} {T : u_T} {N : Nat} {ty : Nat → FieldType} (ok : clOk t C T N ty) (fs : List Value) (hfs : ∀ j, j < N → defaultValue (ty j) = vp_V fs j) {index : Nat} (wa : Cond.classLink M.2.1 index C ∈ GW) (wb : Cond.instantiable C N ∈ GW) (wc : Cond.initialized C ∈ GW) (hc : cells + 1 ≤ M.2.2.2.2.cells) (hs : slots + N ≤ M.2.2.2.2.slots) (d : decode M.1 pc = .ok (.new index, 3)) (k : ∀ q : Nat, Gn X M A mc ms B (pc + 3) lv (.ref q :: st) (fun cA => ws cA ++ [(q, .inr (t, fs))]) (cells + 1) (slots + N)) : Gn X M A mc ms B pc lv st ws cells slots := by
  obtain ⟨p, l, e, s, m, args, below, meth, c, D, cA⟩ := X
  intro hok H locs ls hP hD hS h
  have hw := hok.2.2.2.2.1
  exact va_new hok.1 hok.2.1 hw ok.2.1 ty ok.2.2.2.1 hok.2.2.2.1 (hw _ wa) (hw _ wb) (hw _ wc) hok.2.2.2.2.2.2.2.2.1 hP hD hS hok.2.2.2.2.2.2.2.2.2.2.2 ok.1 hfs hc hs d (fun q H1 hP1 hD1 hS1 => k q hok H1 locs ls hP1 hD1 hS1 h)
theorem gn_newa {atype : ArrayType} {ty : FieldType} (hty : newarray.typeOf atype = ty) (t0 : Nat) (ht : ∀ cA, (tys cA)[t0]? = some (cA t0, ty)) (wa : Cond.arrayClass ty ∈ GW) {n : Int32} (N : Nat) (a0 : vp_A) (ha : ∀ cI : ClassId, vp_cell cI a0 = arrV cI N (fun _ => defaultValue ty)) (hn : ¬ n < 0) (hN : n.toNatClampNeg = N) (hby : N * componentBytes ty ≤ 536870912) (hc : cells + 1 ≤ M.2.2.2.2.cells) (hs : slots + N ≤ M.2.2.2.2.slots) (d : decode M.1 pc = .ok (.newarray atype, 2)) (k : ∀ q : Nat, Gn X M A mc ms B (pc + 2) lv (.ref q :: st) (fun cA => ws cA ++ [(q, .inl (cA t0, a0))]) (cells + 1) (slots + N)) : Gn X M A mc ms B pc lv (.int n :: st) ws cells slots := by
  obtain ⟨p, l, e, s, m, args, below, meth, c, D, cA⟩ := X
  intro hok H locs ls hP hD hS h
  have hw := hok.2.2.2.2.1
  refine va_newa hok.1 hok.2.1 (hty ▸ hw _ wa) hty hok.2.2.2.2.2.2.2.2.1 hP hD hS hok.2.2.2.2.2.2.2.2.2.2.2 ha hn hN hby hc hs d (fun q cI H1 hK1 hP1 hD1 hS1 => ?_)
  have e1 : cI = cA t0 := RA_inj (K_last hK1) (hok.2.2.2.2.2.2.2.2.1.2 t0 _ (ht cA)).2
  subst e1
  exact k q hok H1 locs ls hP1 hD1 hS1 h
theorem gn_newq {C : String} (t0 : Nat) (ht : ∀ cA, (tys cA)[t0]? = some (cA t0, .object C)) {index : Nat} (wa : Cond.classLink M.2.1 index C ∈ GW) (hao : ∀ U, AOs U → va_AO C U) {n : Int32} (N : Nat) (hn : ¬ n < 0) (hN : n.toNatClampNeg = N) (hby : N * 4 ≤ 536870912) (hc : cells + 1 ≤ M.2.2.2.2.cells) (hs : slots + N ≤ M.2.2.2.2.slots) (d : decode M.1 pc = .ok (.anewarray index, 3)) (k : ∀ q : Nat, Gn X M A mc ms B (pc + 3) lv (.ref q :: st) (fun cA => ws cA ++ [(q, .inl (cA t0, N, .inr (.inr (.inr (.inr (fun _ => none))))))]) (cells + 1) (slots + N)) : Gn X M A mc ms B pc lv (.int n :: st) ws cells slots := by
  obtain ⟨p, l, e, s, m, args, below, meth, c, D, cA⟩ := X
  intro hok H locs ls hP hD hS h
  have hw := hok.2.2.2.2.1
  refine va_newq hok.1 hok.2.1 hok.2.2.2.1 (hw _ wa) (hao _ hok.2.2.2.2.2.2.2.2.2.2.1) hok.2.2.2.2.2.2.2.2.1 hP hD hS hok.2.2.2.2.2.2.2.2.2.2.2 hn hN hby hc hs d (fun q cI H1 hK1 hP1 hD1 hS1 => ?_)
  have e1 : cI = cA t0 := RA_inj (K_last hK1) (hok.2.2.2.2.2.2.2.2.1.2 t0 _ (ht cA)).2
  subst e1
  exact k q hok H1 locs ls hP1 hD1 hS1 h
theorem gn_putF {t : Nat} {C : String} {T : u_T} {N : Nat} {ty : Nat → FieldType} (ok : clOk t C T N ty) (i j : Nat) (hj : j < N) {a : Nat} {fs : List Value} {v : Value} (hw0 : ∀ cA, (ws cA)[i]? = some (a, .inr (t, fs))) (hws : ∀ cA, (ws cA).set i (a, .inr (t, fs.set j v)) = ws' cA) (hfin : (T j).2.2.2 = true) (hdecl : (T j).1 = M.2.1) (hn : narrow (ty j) v = v) (hfit : fits (ty j) v = true) (hl : j < fs.length) {index : Nat} (w : Cond.fieldLink M.2.1 index (T j).1 (T j).2.1 (T j).2.2.1 ∈ GW) (d : decode M.1 pc = .ok (.putfield index, 3)) (k : Gn X M A mc ms B (pc + 3) lv st ws' cells slots) : Gn X M A mc ms B pc lv (v :: .ref a :: st) ws cells slots := by
  obtain ⟨p, l, e, s, m, args, below, meth, c, D, cA⟩ := X
  intro hok H locs ls hP hD hS h
  have hw := hok.2.2.2.2.1
  refine va_putF hok.1 hok.2.1 hw ok.2.1 ty ok.2.2.2.1 ok.2.2.2.2 hok.2.2.2.1 hok.2.2.2.2.2.2.2.2.1 hP hD hS i (hw0 cA) ok.1 j hj (hw _ w) (fun _ z => z) hfin hok.2.2.2.2.2.2.2.1 hdecl (ok.2.2.2.1 j hj) hn hfit hl d (fun H1 locs1 hP1 hD1 hS1 => ?_)
  rw [hws cA] at hP1 hD1
  exact k hok H1 locs1 ls hP1 hD1 hS1 h
theorem gn_put {t : Nat} {C : String} {T : u_T} {N : Nat} {ty : Nat → FieldType} (ok : clOk t C T N ty) (i j : Nat) (hj : j < N) {a : Nat} {fs : List Value} {v : Value} (hw0 : ∀ cA, (ws cA)[i]? = some (a, .inr (t, fs))) (hws : ∀ cA, (ws cA).set i (a, .inr (t, fs.set j v)) = ws' cA) (hfin : (T j).2.2.2 = false) (hn : narrow (ty j) v = v) (hfit : fits (ty j) v = true) (hl : j < fs.length) {index : Nat} (w : Cond.fieldLink M.2.1 index (T j).1 (T j).2.1 (T j).2.2.1 ∈ GW) (d : decode M.1 pc = .ok (.putfield index, 3)) (k : Gn X M A mc ms B (pc + 3) lv st ws' cells slots) : Gn X M A mc ms B pc lv (v :: .ref a :: st) ws cells slots := by
  obtain ⟨p, l, e, s, m, args, below, meth, c, D, cA⟩ := X
  intro hok H locs ls hP hD hS h
  have hw := hok.2.2.2.2.1
  refine va_put hok.1 hok.2.1 hw ok.2.1 ty ok.2.2.2.1 ok.2.2.2.2 hok.2.2.2.1 hok.2.2.2.2.2.2.2.2.1 hP hD hS i (hw0 cA) ok.1 j hj (hw _ w) (fun _ z => z) hfin (ok.2.2.2.1 j hj) hn hfit hl d (fun H1 locs1 hP1 hD1 hS1 => ?_)
  rw [hws cA] at hP1 hD1
  exact k hok H1 locs1 ls hP1 hD1 hS1 h
theorem gn_get {t : Nat} {C : String} {T : u_T} {N : Nat} {ty : Nat → FieldType} (ok : clOk t C T N ty) (i j : Nat) (hj : j < N) {a : Nat} {fs : List Value} {v : Value} (hw0 : ∀ cA, (ws cA)[i]? = some (a, .inr (t, fs))) (hv : fs[j]? = some v) {index : Nat} (w : Cond.fieldLink M.2.1 index (T j).1 (T j).2.1 (T j).2.2.1 ∈ GW) (d : decode M.1 pc = .ok (.getfield index, 3)) (k : Gn X M A mc ms B (pc + 3) lv (v :: st) ws cells slots) : Gn X M A mc ms B pc lv (.ref a :: st) ws cells slots := by
  obtain ⟨p, l, e, s, m, args, below, meth, c, D, cA⟩ := X
  intro hok H locs ls hP hD hS h
  have hw := hok.2.2.2.2.1
  exact va_get hok.1 hok.2.1 hw ok.2.1 hok.2.2.2.1 hok.2.2.2.2.2.2.2.2.1 hP i (hw0 cA) ok.1 j hj (hw _ w) (fun _ z => z) hv d (k hok H locs ls hP hD hS h)
theorem gn_alen (i t0 : Nat) {ty : FieldType} (ht : ∀ cA, (tys cA)[t0]? = some (cA t0, ty)) {a : Nat} {x : vp_A} (hw0 : ∀ cA, (ws cA)[i]? = some (a, .inl (cA t0, x))) {v : Int32} (hv : Int32.ofNat x.1 = v) (d : decode M.1 pc = .ok (.arraylength, 1)) (k : Gn X M A mc ms B (pc + 1) lv (.int v :: st) ws cells slots) : Gn X M A mc ms B pc lv (.ref a :: st) ws cells slots := by
  obtain ⟨p, l, e, s, m, args, below, meth, c, D, cA⟩ := X
  intro hok H locs ls hP hD hS h
  exact va_alen hok.1 hok.2.1 hok.2.2.2.2.2.2.2.2.1 hP i t0 (hw0 cA) (ht cA) hv d (k hok H locs ls hP hD hS h)
theorem gn_ast (i t0 kk ci : Nat) {r : vw_C} (hr : vwCl[ci]? = some r) (ht : ∀ cA, (tys cA)[t0]? = some (cA t0, .object r.1)) {a n v : Nat} {vs : List Value} {f : Nat → Option Nat} {x : Int32} (hw0 : ∀ cA, (ws cA)[i]? = some (a, .inl (cA t0, n, .inr (.inr (.inr (.inr f)))))) (hw1 : ∀ cA, (ws cA)[kk]? = some (v, .inr (ci, vs))) (hi : inb x n = true) (hws : ∀ cA, (ws cA).set i (a, .inl (cA t0, n, .inr (.inr (.inr (.inr (va_up f x.toNatClampNeg (some v))))))) = ws' cA) (d : decode M.1 pc = .ok (.aastore, 1)) (k : Gn X M A mc ms B (pc + 1) lv st ws' cells slots) : Gn X M A mc ms B pc lv (.ref v :: .int x :: .ref a :: st) ws cells slots := by
  obtain ⟨p, l, e, s, m, args, below, meth, c, D, cA⟩ := X
  intro hok H locs ls hP hD hS h
  refine va_astq hok.1 hok.2.1 hok.2.2.2.2.2.2.2.2.1 hP hD hS i t0 kk ci (hw0 cA) (ht cA) (hw1 cA) hr (inb_in hi) d (fun H1 locs1 hP1 hD1 hS1 => ?_)
  rw [hws cA] at hP1 hD1
  exact k hok H1 locs1 ls hP1 hD1 hS1 h
theorem gn_iast (i : Nat) {a n : Nat} {f : Nat → Int32} {x y : Int32} (hw0 : ∀ cA, (ws cA)[i]? = some (a, .inl (cA 0, n, .inl f))) (hi : inb x n = true) (hws : ∀ cA, (ws cA).set i (a, .inl (cA 0, n, .inl (upd f x.toNatClampNeg y))) = ws' cA) (d : decode M.1 pc = .ok (.iastore, 1)) (k : Gn X M A mc ms B (pc + 1) lv st ws' cells slots) : Gn X M A mc ms B pc lv (.int y :: .int x :: .ref a :: st) ws cells slots := by
  obtain ⟨p, l, e, s, m, args, below, meth, c, D, cA⟩ := X
  intro hok H locs ls hP hD hS h
  refine va_iast hok.1 hok.2.1 hok.2.2.2.2.2.2.2.2.1 hP hD hS i 0 (hw0 cA) rfl (inb_in hi) d (fun H1 locs1 hP1 hD1 hS1 => ?_)
  rw [hws cA] at hP1 hD1
  exact k hok H1 locs1 ls hP1 hD1 hS1 h
theorem gn_ws (hw : ∀ cA, ws cA = ws' cA) (k : Gn X M A mc ms B pc lv st ws' cells slots) : Gn X M A mc ms B pc lv st ws cells slots := by
  rw [show ws = ws' from funext hw]
  exact k
theorem gn_ret (hr : M.2.2.2.1 = none) (hB : ∀ (D : va_G) (cA : Nat → ClassId) (H : Heap), va_P D vwCl (ws cA) H → va_D A (ws cA) → B D cA H) (d : decode M.1 pc = .ok (.return_, 1)) : Gn X M A mc ms B pc lv [] ws mc ms := by
  obtain ⟨p, l, e, s, m, args, below, meth, c, D, cA⟩ := X
  intro hok H locs ls hP hD hS h
  exact W.vret hok.1 hok.2.1 (hok.2.2.2.2.2.2.1.trans hr) (fun t ht hW => ⟨rfl, by rw [ht]; exact hB D cA H hP hD, hS.F ht⟩) hS.2.2 d hok.2.2.2.2.2.1
end GnRows
theorem init_core {p : Program} {l : Launch} {ev : Env} {R : Room} {s : State} {m : MethodId} {args : Array Value} {below : List Frame} {meth : Method} {c : Code} {H : Heap} {locs : List Loc} {Q : State → Prop} {pc cells slots mc ms : Nat} {ls : Array Slot} {rest st0 : List Value} {D : va_G} {cA : Nat → ClassId} {F : Fw} {a0 : Array Value} {q : Nat} {e0 : va_E} {wr : va_W} {A0 : Nat → Prop} {H0 : Heap}
    (hr : va_Run p l ev R s m args below meth c H locs cells slots mc ms (F0 m pc ls st0) rest ((fun _ st oc t => oc = .returned none ∧ BN q (A1 q H.size) F D cA t.heap ∧ va_F (A1 q H.size) st t : Array Value → State → Outcome → State → Prop) a0) (A1 q H.size)) (hP : va_P D vwCl (wr ++ [(q, e0)]) H) (hD : va_D A0 (wr ++ [(q, e0)])) (hS : va_S A0 H0 H locs) (hA : ∀ q, H0.size ≤ q → A0 q)
    (kk : ∀ (a : Nat → Nat) (H1 : Heap) (locs1 : List Loc), a 0 = q → va_P D vwCl (wr ++ F cA a) H1 → va_D A0 (wr ++ F cA a) → va_S A0 H0 H1 locs1 → W p l ev R s m args below meth c H1 locs1 (cells + mc) (slots + ms) Q (F0 m (pc + 3) ls rest)) : W p l ev R s m args below meth c H locs cells slots Q (F0 m pc ls st0) := by
  intro T hT X
  obtain ⟨v', st₀, t, T', L, h0, X', hL, e1, e2, ⟨hv, ⟨a, ha0, hP1, hD1⟩, hz, hk⟩, stp⟩ := hr T hT X
  cases hv
  rw [h0] at hz hk
  have hqA : A0 q := hD.2 wr.length (q, e0) (by simp)
  have hF : ∀ x, A1 q H.size x → A0 x := fun x hx => by
    rcases hx with rfl | hx
    · exact hqA
    · exact hA x (Nat.le_trans hS.1 hx)
  have hwr : ∀ (k : Nat) (x : Nat × va_E), wr[k]? = some x → x.1 < H.size ∧ ¬ A1 q H.size x.1 := by
    intro k x hx
    have hl : k < wr.length := (List.getElem?_eq_some_iff.mp hx).1
    have hx' : (wr ++ [(q, e0)])[k]? = some x := by rw [List.getElem?_append_left hl]; exact hx
    have hlt := (hP k x hx').lt
    refine ⟨hlt, fun hc => ?_⟩
    rcases hc with hc | hc
    · have := hD.1 k wr.length x (q, e0) hx' (by simp) hc
      omega
    · omega
  have hk' : ∀ x, x < H.size → ¬ A1 q H.size x → T'.heap[x]? = H[x]? := fun x h1 h2 => by rw [e1]; exact hk x h1 h2
  have hP2 : va_P D vwCl (wr ++ F cA a) T'.heap := va_P.app (fun k x hx => (hP k x (by rw [List.getElem?_append_left (List.getElem?_eq_some_iff.mp hx).1]; exact hx)).kept (hk' x.1 (hwr k x hx).1 (hwr k x hx).2)) (by rw [e1]; exact hP1)
  have hDr : va_D A0 wr := ⟨fun i j x y hi hj hxy => hD.1 i j x y (by rw [List.getElem?_append_left (List.getElem?_eq_some_iff.mp hi).1]; exact hi) (by rw [List.getElem?_append_left (List.getElem?_eq_some_iff.mp hj).1]; exact hj) hxy, fun k x hx => hD.2 k x (by rw [List.getElem?_append_left (List.getElem?_eq_some_iff.mp hx).1]; exact hx)⟩
  have hD2 : va_D A0 (wr ++ F cA a) := va_D.app hDr (hD1.weaken (fun _ x _ hx => hF x.1 hx)) (fun i j x y hx hy hxy => (hwr i x hx).2 (by rw [hxy]; exact hD1.2 j y hy))
  obtain ⟨t2, a1, b1⟩ := kk a T'.heap (locs ++ L) ha0 hP2 hD2
    ⟨Nat.le_trans hS.1 (by rw [e1]; exact hz), fun x h1 h2 => by rw [hk' x (Nat.lt_of_lt_of_le h1 hS.1) (fun z => h2 (hF x z))]; exact hS.2.1 x h1 h2, fun x hx => by
      rcases List.mem_append.mp hx with h | h
      · exact hS.2.2 x h
      · exact hF _ (hL x h)⟩ T' rfl X'
  exact ⟨t2, stp t2 a1, b1⟩
theorem wdn_blind {D : va_G} {cA : Nat → ClassId} {sz h0 : Nat} {e0 : va_E} : FrameBlind (va_Pc [.ref h0] (WdN D cA sz h0 e0)) :=
  fun a U g mk q => ⟨q.1, q.2.1, q.2.2.1, va_K.moved (u := U) (U := U.calling g mk a) (Vm.Alike.refl U.vm) q.2.2.2.1, fun w hw => va_Nw.same (w := w) (NW_on w hw) (u := U) (U := U.calling g mk a) rfl (q.2.2.2.2.1 w hw), AOs.moved (s := U) (U := U.calling g mk a) (Vm.Alike.refl U.vm) q.2.2.2.2.2⟩
theorem wdn_at {D : va_G} {cA : Nat → ClassId} {q : Nat} {e0 : va_E} {s : State} {H : Heap} {wr : va_W} (hK : va_K D vwCl (tys cA) s) (hN : ∀ w ∈ NW, va_Nw w s) (hO : AOs s) (hP : va_P D vwCl (wr ++ [(q, e0)]) H) : ∀ U : State, U.heap = H → s.WarmedH U.vm → WdN D cA H.size q e0 U :=
  fun U hU hW => ⟨by rw [hU], by rw [hU]; exact fun k x hx => hP (wr.length + k) x (by rw [List.getElem?_append_right (by omega), Nat.add_sub_cancel_left]; exact hx), va_K.moved hW.alike hK, NW_warm hW hN, hO.moved hW.alike⟩
section GnCalls
variable {X : Cx} {M : Mi} {A : Nat → Prop} {mc ms : Nat} {B : va_G → (Nat → ClassId) → Heap → Prop} {pc : Nat} {lv : List (Nat × Value)} {st : List Value} {ws : (Nat → ClassId) → va_W} {cells slots : Nat} {y : MethodName} {N : Mi} {e0 : va_E} {nc ns : Nat} {F : Fw} {q index : Nat}
/-- what is known of a constructor that is called -/
def MIN (y : MethodName) (N : Mi) (nc ns : Nat) : Prop := Cond.code y N.1 N.2.2.1 none ∈ GW ∧ Cond.initialized y.cls ∈ GW ∧ (y.cls ≠ "java/lang/invoke/MethodHandle" ∧ y.cls ≠ "java/lang/invoke/VarHandle" ∧ (parseMethodDescriptor y.desc).map (fun d => d.parameters.length) = some 0) ∧ N.2.2.2.2.cells = nc ∧ N.2.2.2.2.slots = ns ∧ y.name = "<init>" ∧ Cond.instanceMethod y ∈ GW
theorem gn_init (hM : ∀ l, ConN l y N e0 nc ns F) (mo : MIN y N nc ns) (w : Cond.methodLink M.2.1 index y ∈ GW) (hR : RMok N M) (hroom : (st.map fun v => v.category).sum ≤ 8) (d : decode M.1 pc = .ok (.invokespecial index, 3)) (hf : cells + nc ≤ M.2.2.2.2.cells ∧ slots + ns ≤ M.2.2.2.2.slots)
    (k : ∀ a : Nat → Nat, a 0 = q → Gn X M A mc ms B (pc + 3) lv st (fun cA => ws cA ++ F cA a) (cells + nc) (slots + ns)) : Gn X M A mc ms B pc lv (.ref q :: st) (fun cA => ws cA ++ [(q, e0)]) cells slots := by
  obtain ⟨p, l, e, s, m, args, below, meth, c, D, cA⟩ := X
  intro hok H locs ls hP hD hS h
  have hw := hok.2.2.2.2.1
  refine init_core (wr := ws cA) (e0 := e0) (a0 := ([Value.ref q] : List Value).toArray) (va_runI (Ts := GW) (b := q) (As := []) (rest := st) (nL := M.2.2.1) ⟨hok.1, hok.2.1, hok.2.2.1, hok.2.2.2.1, hw⟩ (hM l q D cA H.size) ⟨callB_of 0 hw (goodGW mo.1) rfl mo.2.2.2.1 mo.2.2.2.2.1 (hw _ mo.2.1) (hw _ w) mo.2.2.1 hR, mo.2.2.2.2.2.1, hw _ mo.2.2.2.2.2.2⟩
    ⟨wdn_blind, fun U hU hW => ⟨rfl, wdn_at hok.2.2.2.2.2.2.2.2.1 hok.2.2.2.2.2.2.2.2.2.1 hok.2.2.2.2.2.2.2.2.2.2.1 hP U hU hW⟩⟩ rfl rfl h.1 rfl (lv_room hroom) d hf) hP hD hS hok.2.2.2.2.2.2.2.2.2.2.2 (fun a H1 locs1 ha hP1 hD1 hS1 => ?_)
  exact k a ha hok H1 locs1 ls hP1 hD1 hS1 h
theorem gn_initN {host : String} (hM : ∀ l, ConN l y N e0 nc ns F) (mo : MIN y N nc ns) (w : Cond.methodLinkNest M.2.1 index y host ∈ NW) (hR : RMok N M) (hroom : (st.map fun v => v.category).sum ≤ 8) (d : decode M.1 pc = .ok (.invokespecial index, 3)) (hf : cells + nc ≤ M.2.2.2.2.cells ∧ slots + ns ≤ M.2.2.2.2.slots)
    (k : ∀ a : Nat → Nat, a 0 = q → Gn X M A mc ms B (pc + 3) lv st (fun cA => ws cA ++ F cA a) (cells + nc) (slots + ns)) : Gn X M A mc ms B pc lv (.ref q :: st) (fun cA => ws cA ++ [(q, e0)]) cells slots := by
  obtain ⟨p, l, e, s, m, args, below, meth, c, D, cA⟩ := X
  intro hok H locs ls hP hD hS h
  have hw := hok.2.2.2.2.1
  refine init_core (wr := ws cA) (e0 := e0) (a0 := ([Value.ref q] : List Value).toArray) (va_runIN (Ts := GW) (b := q) (As := []) (rest := st) (nL := M.2.2.1) (host := host) ⟨hok.1, hok.2.1, hok.2.2.1, hok.2.2.2.1, hw⟩ (hM l q D cA H.size) ⟨va_cnB 0 hw (goodGW mo.1) rfl mo.2.2.2.1 mo.2.2.2.2.1 (hok.2.2.2.2.2.2.2.2.2.1 _ w) (hw _ mo.2.1) mo.2.2.1 hR, mo.2.2.2.2.2.1, hw _ mo.2.2.2.2.2.2⟩
    ⟨wdn_blind, fun U hU hW => ⟨rfl, wdn_at hok.2.2.2.2.2.2.2.2.1 hok.2.2.2.2.2.2.2.2.2.1 hok.2.2.2.2.2.2.2.2.2.2.1 hP U hU hW⟩⟩ rfl rfl h.1 rfl (lv_room hroom) d hf) hP hD hS hok.2.2.2.2.2.2.2.2.2.2.2 (fun a H1 locs1 ha hP1 hD1 hS1 => ?_)
  exact k a ha hok H1 locs1 ls hP1 hD1 hS1 h
end GnCalls
theorem con_ofN {y : MethodName} {M : Mi} {e0 : va_E} {mc ms : Nat} {F : Fw} (hy : plainName y.cls = true) (hc : M.2.1 = y.cls) (hret : M.2.2.2.1 = none) (hL : 1 ≤ M.2.2.1) (hn : y.name = "<init>") (hgo : ∀ (X : Cx) (h0 : Nat) (A : Nat → Prop), Gn X M A mc ms (BN h0 A F) 0 [(0, .ref h0)] [] (fun _ => [(h0, e0)]) 0 0) : ∀ l, ConN l y M e0 mc ms F := by
  intro l h0 D cA sz
  refine Met.ofW (cc := M.1) (maxL := M.2.2.1) (ret := none) hy rfl ?_
  intro p e s m args below meth c s₁ B hml hv
  obtain ⟨rfl, hsz, hP, hK, hN, hO⟩ := hv
  have hts := atoms_spec (ws := Cond.code y M.1 M.2.2.1 none :: GW) B.pre
  have hown : s.vm.findClass M.2.1 = some m.cls := by rw [hc]; exact findClass_of_methodNamed B.named
  have hin : meth.name = "<init>" := (name_of_methodNamed B.named B.method).1.trans hn
  have hl := lv_entry [.ref h0] (n := M.2.2.1) hL
  rw [lg_entry_eq]
  subst hsz
  exact hgo (p, l, e, s, m, ([Value.ref h0] : List Value).toArray, below, meth, c, D, cA) h0 (A1 h0 s.heap.size) ⟨B.exec, B.bytes, hml, hown, fun w hw => hts w (List.mem_cons_of_mem _ hw), B.notSynchronized, B.returns.trans hret.symm, hin, hK, hN, hO, fun q hq => Or.inr hq⟩ s.heap [] _ hP ⟨fun i j x y hi hj _ => by
    have h1 : i < 1 := (List.getElem?_eq_some_iff.mp hi).1
    have h2 : j < 1 := (List.getElem?_eq_some_iff.mp hj).1
    omega, fun k x hx => by
    have h1 : k < 1 := (List.getElem?_eq_some_iff.mp hx).1
    rw [show k = 0 by omega] at hx
    cases hx
    exact Or.inl rfl⟩ va_S.rf hl
