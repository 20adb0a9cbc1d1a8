/-! THE LAW: its body over the world; the words of the skeleton -/
def R_law : String := "EvenSpringLaw"
def lw_P (b : Addr) (xs : List Int32) (args : Array Value) (s : State) : Prop := args = #[.ref b] ∧ s.IntsAt b xs ∧ xs.length ≤ 3072 ∧ (Jvm.Cond.and given_1 narrow_1).before args s = true
def lw_Q (_ : Array Value) (s : State) (o : Outcome) (t : State) : Prop := o = .returned (some (.int 1)) ∧ Framed s o t [] 600000 7302250
def lw_Z (below : List Frame) (a : Array Value) (s : State) : State → Prop := fun t => ∃ o, t.status = .running ∧ Ended t below o ∧ lw_Q a s o t

/-- the law's own end, with 1 on the stack, nothing written that was there before, its room as the claim has it -/
theorem lw_ret {p : Program} {l : Launch} {e : Env} {s : State} {m : MethodId} {below : List Frame} {meth : Method} {c : Code} {b : Nat} (hx : p.tables.exec = Jvm.exec) (hb : c.code = code) (hr : meth.sig.returnType = ret) (hlocks : meth.locks = false) {pc : Nat} {H : Heap} {ls : Array Slot} (hdg : decode code pc = .ok (.ireturn, 1)) : W p l e room_1 s m #[Value.ref b] below meth c H [] 600000 7302250 (lw_Z below #[Value.ref b] s) (F0 m pc ls [.int 1]) := by
  intro T hT X
  obtain ⟨fs, hret, hrun, hended, hW, hframe⟩ := X.leave (v := some (.int 1)) (hlocks := hlocks) (fun h => by rw [hr] at h; cases h)
  have hmeth' : T.vm.method? m = some meth := X.method'
  refine ⟨T.setFrames fs, ?_, .returned (some (.int 1)), hrun, hended, rfl, ⟨_, rfl⟩, hW, hframe⟩
  jvm_step X.here [X.here.top, hx, hb, hdg, hmeth', hr, ret, narrow_b1]
  (try refine ⟨rfl, ?_⟩); (try refine ⟨rfl, ?_⟩)
  first | (intro acts; rw [hret _ acts rfl rfl rfl]) | rw [hret _ _ rfl rfl rfl]
  exact Steps.refl _
/-- what holds at the law's entry: the machine, the code, the tables' words (any of lw_tbl by 'hts w (by decide +kernel)'), the script of L ints xs at the cell b, what the Statement gives of the start (any of its parts by flat_of_before) -/
def lw_At (p : Program) (s : State) (m : MethodId) (meth : Method) (c : Code) (b L : Nat) (xs : Nat → Int32) : Prop :=
  p.tables.exec = Jvm.exec ∧ c.code = code ∧ meth.sig.returnType = ret ∧ c.maxLocals = 4 ∧ s.vm.findClass R_law = some m.cls ∧ (∀ w ∈ lw_tbl, w.before #[Value.ref b] s = true) ∧ va_X b L xs s s.heap ∧ b < s.heap.size ∧ meth.locks = false ∧ (Jvm.Cond.and given_1 narrow_1).before #[Value.ref b] s = true
theorem lw0 : Cond.methodLink R_law 13 yX5_calendar ∈ GW := GW_in (inT_1 (List.mem_of_getElem? (i := 188) rfl)) rfl
theorem lw1 : Cond.methodLink R_law 17 yX6_calendar ∈ GW := GW_in (inT_4 (List.mem_of_getElem? (i := 82) rfl)) rfl
theorem lw2 : Cond.methodLink R_law 18 yX5_of ∈ GW := GW_in (inT_1 (List.mem_of_getElem? (i := 221) rfl)) rfl
theorem lw3 : Cond.methodLink R_law 22 yX6_of ∈ GW := GW_in (inT_4 (List.mem_of_getElem? (i := 103) rfl)) rfl
theorem lw4 : Cond.methodLink R_law 23 yX5_set ∈ GW := GW_in (inT_1 (List.mem_of_getElem? (i := 234) rfl)) rfl
theorem lw5 : Cond.methodLink R_law 27 yX6_set ∈ GW := GW_in (inT_4 (List.mem_of_getElem? (i := 116) rfl)) rfl
theorem lw6 : Cond.methodLink R_law 28 yX5_turn ∈ GW := GW_in (inT_2 (List.mem_of_getElem? (i := 3) rfl)) rfl
theorem lw7 : Cond.methodLink R_law 31 yX6_turn ∈ GW := GW_in (inT_4 (List.mem_of_getElem? (i := 130) rfl)) rfl
theorem lw8 : Cond.methodLink R_law 32 yX5_as ∈ GW := GW_in (inT_2 (List.mem_of_getElem? (i := 7) rfl)) rfl
theorem lw9 : Cond.methodLink R_law 35 yX6_as ∈ GW := GW_in (inT_4 (List.mem_of_getElem? (i := 134) rfl)) rfl
theorem lw10 : Cond.methodLink R_law 36 yX5_date ∈ GW := GW_in (inT_2 (List.mem_of_getElem? (i := 16) rfl)) rfl
theorem lw11 : Cond.methodLink R_law 39 yX6_date ∈ GW := GW_in (inT_4 (List.mem_of_getElem? (i := 142) rfl)) rfl
theorem lw12 : Cond.methodLink R_law 40 yX5_law ∈ GW := GW_in (inT_2 (List.mem_of_getElem? (i := 52) rfl)) rfl
theorem lw13 : Cond.methodLink R_law 43 yX6_law ∈ GW := GW_in (inT_4 (List.mem_of_getElem? (i := 164) rfl)) rfl
theorem lw14 : Cond.methodLink R_law 44 yX5_pilgrim ∈ GW := GW_in (inT_2 (List.mem_of_getElem? (i := 56) rfl)) rfl
theorem lw15 : Cond.methodLink R_law 47 yX6_pilgrim ∈ GW := GW_in (inT_4 (List.mem_of_getElem? (i := 169) rfl)) rfl
theorem lw16 : Cond.methodLink R_law 48 yX5_about ∈ GW := GW_in (inT_2 (List.mem_of_getElem? (i := 73) rfl)) rfl
theorem lw17 : Cond.methodLink R_law 51 yX6_about ∈ GW := GW_in (inT_4 (List.mem_of_getElem? (i := 184) rfl)) rfl
theorem lw18 : Cond.methodLink R_law 52 yX5_mind ∈ GW := GW_in (inT_2 (List.mem_of_getElem? (i := 81) rfl)) rfl
theorem lw19 : Cond.methodLink R_law 55 yX6_mind ∈ GW := GW_in (inT_4 (List.mem_of_getElem? (i := 197) rfl)) rfl
theorem lw20 : Cond.methodLink R_law 56 yX5_drink ∈ GW := GW_in (inT_2 (List.mem_of_getElem? (i := 85) rfl)) rfl
theorem lw21 : Cond.methodLink R_law 59 yX6_drink ∈ GW := GW_in (inT_4 (List.mem_of_getElem? (i := 201) rfl)) rfl
theorem lw22 : Cond.methodLink R_law 60 yX5_bathe ∈ GW := GW_in (inT_2 (List.mem_of_getElem? (i := 104) rfl)) rfl
theorem lw23 : Cond.methodLink R_law 63 yX6_bathe ∈ GW := GW_in (inT_4 (List.mem_of_getElem? (i := 210) rfl)) rfl
theorem lw24 : Cond.methodLink R_law 64 yX5_days ∈ GW := GW_in (inT_2 (List.mem_of_getElem? (i := 118) rfl)) rfl
theorem lw25 : Cond.methodLink R_law 67 yX6_days ∈ GW := GW_in (inT_4 (List.mem_of_getElem? (i := 218) rfl)) rfl
theorem lw26 : Cond.methodLink R_law 68 yX5_now ∈ GW := GW_in (inT_2 (List.mem_of_getElem? (i := 154) rfl)) rfl
theorem lw27 : Cond.methodLink R_law 71 yX6_now ∈ GW := GW_in (inT_4 (List.mem_of_getElem? (i := 239) rfl)) rfl
theorem lw28 : Cond.methodLink R_law 72 yX5_on ∈ GW := GW_in (inT_2 (List.mem_of_getElem? (i := 162) rfl)) rfl
theorem lw29 : Cond.methodLink R_law 75 yX6_on ∈ GW := GW_in (inT_5 (List.mem_of_getElem? (i := 7) rfl)) rfl
theorem lw30 : Cond.methodLink R_law 76 yX5_well ∈ GW := GW_in (inT_2 (List.mem_of_getElem? (i := 180) rfl)) rfl
theorem lw31 : Cond.methodLink R_law 79 yX6_well ∈ GW := GW_in (inT_5 (List.mem_of_getElem? (i := 19) rfl)) rfl
theorem lw32 : Cond.methodLink R_law 80 yX5_next ∈ GW := GW_in (inT_2 (List.mem_of_getElem? (i := 189) rfl)) rfl
theorem lw33 : Cond.methodLink R_law 83 yX6_next ∈ GW := GW_in (inT_5 (List.mem_of_getElem? (i := 28) rfl)) rfl
theorem lw34 : Cond.methodLink R_law 84 yX5_agree ∈ GW := GW_in (inT_2 (List.mem_of_getElem? (i := 193) rfl)) rfl
theorem lw35 : Cond.methodLink R_law 87 yX6_agree ∈ GW := GW_in (inT_5 (List.mem_of_getElem? (i := 32) rfl)) rfl
theorem lw36 : Cond.methodLink R_law 88 yX5_row ∈ GW := GW_in (inT_2 (List.mem_of_getElem? (i := 206) rfl)) rfl
theorem lw37 : Cond.methodLink R_law 91 yX6_row ∈ GW := GW_in (inT_5 (List.mem_of_getElem? (i := 48) rfl)) rfl
theorem lw38 : Cond.methodLink R_law 92 yX5_meet ∈ GW := GW_in (inT_2 (List.mem_of_getElem? (i := 211) rfl)) rfl
theorem lw39 : Cond.methodLink R_law 95 yX6_meet ∈ GW := GW_in (inT_5 (List.mem_of_getElem? (i := 52) rfl)) rfl
theorem lw40 : Cond.methodLink R_law 96 yX5_both ∈ GW := GW_in (inT_2 (List.mem_of_getElem? (i := 215) rfl)) rfl
theorem lw41 : Cond.methodLink R_law 100 yX6_both ∈ GW := GW_in (inT_5 (List.mem_of_getElem? (i := 60) rfl)) rfl
theorem lw42 : Cond.methodLink R_law 101 yX5_trust ∈ GW := GW_in (inT_2 (List.mem_of_getElem? (i := 219) rfl)) rfl
theorem lw43 : Cond.methodLink R_law 104 yX6_trust ∈ GW := GW_in (inT_5 (List.mem_of_getElem? (i := 67) rfl)) rfl
theorem lw44 : Cond.methodLink R_law 105 yX5_truth ∈ GW := GW_in (inT_2 (List.mem_of_getElem? (i := 223) rfl)) rfl
theorem lw45 : Cond.methodLink R_law 108 yX6_truth ∈ GW := GW_in (inT_5 (List.mem_of_getElem? (i := 71) rfl)) rfl
theorem lw46 : Cond.methodLink R_law 109 yX5_cure ∈ GW := GW_in (inT_2 (List.mem_of_getElem? (i := 231) rfl)) rfl
theorem lw47 : Cond.methodLink R_law 112 yX6_cure ∈ GW := GW_in (inT_5 (List.mem_of_getElem? (i := 76) rfl)) rfl
theorem lw48 : Cond.methodLink R_law 113 yX5_kind ∈ GW := GW_in (inT_2 (List.mem_of_getElem? (i := 235) rfl)) rfl
theorem lw49 : Cond.methodLink R_law 116 yX6_kind ∈ GW := GW_in (inT_5 (List.mem_of_getElem? (i := 80) rfl)) rfl
theorem lw50 : Cond.methodLink R_law 117 yX5_begin ∈ GW := GW_in (inT_3 (List.mem_of_getElem? (i := 17) rfl)) rfl
theorem lw51 : Cond.methodLink R_law 120 yX6_begin ∈ GW := GW_in (inT_5 (List.mem_of_getElem? (i := 88) rfl)) rfl
theorem lw52 : Cond.methodLink R_law 121 yX5_power ∈ GW := GW_in (inT_3 (List.mem_of_getElem? (i := 21) rfl)) rfl
theorem lw53 : Cond.methodLink R_law 124 yX6_power ∈ GW := GW_in (inT_5 (List.mem_of_getElem? (i := 92) rfl)) rfl
theorem lw54 : Cond.methodLink R_law 125 yX5_feed ∈ GW := GW_in (inT_3 (List.mem_of_getElem? (i := 29) rfl)) rfl
theorem lw55 : Cond.methodLink R_law 128 yX6_feed ∈ GW := GW_in (inT_5 (List.mem_of_getElem? (i := 96) rfl)) rfl
theorem lw56 : Cond.methodLink R_law 129 yX5_wipe ∈ GW := GW_in (inT_3 (List.mem_of_getElem? (i := 37) rfl)) rfl
theorem lw57 : Cond.methodLink R_law 133 yX6_wipe ∈ GW := GW_in (inT_5 (List.mem_of_getElem? (i := 100) rfl)) rfl
theorem lw58 : Cond.methodLink R_law 134 yX5_spring ∈ GW := GW_in (inT_3 (List.mem_of_getElem? (i := 41) rfl)) rfl
theorem lw59 : Cond.methodLink R_law 137 yX6_spring ∈ GW := GW_in (inT_5 (List.mem_of_getElem? (i := 104) rfl)) rfl
theorem lw60 : Cond.methodLink R_law 138 yX5_sheet ∈ GW := GW_in (inT_3 (List.mem_of_getElem? (i := 178) rfl)) rfl
theorem lw61 : Cond.methodLink R_law 141 yX6_sheet ∈ GW := GW_in (inT_5 (List.mem_of_getElem? (i := 182) rfl)) rfl
theorem lw62 : Cond.constantLong R_law 142 (4294967295 : Int64) ∈ GW := GW_in (inT_6 (List.mem_of_getElem? (i := 8) rfl)) rfl
theorem lw63 : Cond.methodLink R_law 144 yX5_write ∈ GW := GW_in (inT_3 (List.mem_of_getElem? (i := 196) rfl)) rfl
theorem lw64 : Cond.methodLink R_law 148 yX6_write ∈ GW := GW_in (inT_5 (List.mem_of_getElem? (i := 190) rfl)) rfl
theorem lw65 : Cond.methodLink R_law 149 yX5_copy ∈ GW := GW_in (inT_3 (List.mem_of_getElem? (i := 217) rfl)) rfl
theorem lw66 : Cond.methodLink R_law 153 yX6_copy ∈ GW := GW_in (inT_5 (List.mem_of_getElem? (i := 202) rfl)) rfl
theorem lw67 : Cond.methodLink R_law 154 yX5_lays ∈ GW := GW_in (inT_3 (List.mem_of_getElem? (i := 226) rfl)) rfl
theorem lw68 : Cond.methodLink R_law 157 yX6_lays ∈ GW := GW_in (inT_5 (List.mem_of_getElem? (i := 206) rfl)) rfl
theorem lw69 : Cond.methodLink R_law 158 yX5_book ∈ GW := GW_in (inT_3 (List.mem_of_getElem? (i := 231) rfl)) rfl
theorem lw70 : Cond.methodLink R_law 161 yX6_book ∈ GW := GW_in (inT_5 (List.mem_of_getElem? (i := 210) rfl)) rfl
theorem lw71 : Cond.methodLink R_law 162 yX5_read ∈ GW := GW_in (inT_3 (List.mem_of_getElem? (i := 235) rfl)) rfl
theorem lw72 : Cond.methodLink R_law 165 yX6_read ∈ GW := GW_in (inT_5 (List.mem_of_getElem? (i := 218) rfl)) rfl
theorem lw73 : Cond.methodLink R_law 166 yX5_image ∈ GW := GW_in (inT_4 (List.mem_of_getElem? (i := 3) rfl)) rfl
theorem lw74 : Cond.methodLink R_law 169 yX6_image ∈ GW := GW_in (inT_5 (List.mem_of_getElem? (i := 226) rfl)) rfl
theorem lw75 : Cond.methodLink R_law 170 yX5_undo ∈ GW := GW_in (inT_4 (List.mem_of_getElem? (i := 7) rfl)) rfl
theorem lw76 : Cond.methodLink R_law 173 yX6_undo ∈ GW := GW_in (inT_5 (List.mem_of_getElem? (i := 230) rfl)) rfl
theorem lw77 : Cond.methodLink R_law 174 yX5_tear ∈ GW := GW_in (inT_4 (List.mem_of_getElem? (i := 11) rfl)) rfl
theorem lw78 : Cond.methodLink R_law 177 yX6_tear ∈ GW := GW_in (inT_5 (List.mem_of_getElem? (i := 234) rfl)) rfl
theorem lw79 : Cond.methodLink R_law 178 yX5_count ∈ GW := GW_in (inT_4 (List.mem_of_getElem? (i := 15) rfl)) rfl
theorem lw80 : Cond.methodLink R_law 181 yX6_count ∈ GW := GW_in (inT_5 (List.mem_of_getElem? (i := 238) rfl)) rfl
theorem lw81 : Cond.methodLink R_law 182 yX5_status ∈ GW := GW_in (inT_4 (List.mem_of_getElem? (i := 23) rfl)) rfl
theorem lw82 : Cond.methodLink R_law 185 yX6_status ∈ GW := GW_in (inT_6 (List.mem_of_getElem? (i := 2) rfl)) rfl
/-- the script's place, length and numbers; where the law is in its own walk -/
def OkL (X : Cx) (ad : Nat → Nat) (b L : Nat) (xs : Nat → Int32) : Prop := match X with
  | (p, _, _, s, m, args, _, meth, c, D, cA) => p.tables.exec = Jvm.exec ∧ c.code = code ∧ c.maxLocals = 4 ∧ s.vm.findClass R_law = some m.cls ∧ (∀ w ∈ GW, w.before args s = true) ∧ meth.locks = false ∧ meth.sig.returnType = ret ∧ injA ad ∧ va_K D vwCl (tys cA) s ∧ St ad s s.heap ∧ va_X b L xs s s.heap ∧ b < s.heap.size ∧ (∀ k, k < 97 → s.heap.size ≤ ad k) ∧ args = #[Value.ref b]
def Gl (X : Cx) (ad : Nat → Nat) (b L : Nat) (xs : Nat → Int32) (pc : Nat) (lv : List (Nat × Value)) (st : List Value) (u : Uw) : Prop := match X with
  | (p, l, e, s, m, args, below, meth, c, D, cA) => OkL (p, l, e, s, m, args, below, meth, c, D, cA) ad b L xs → ∀ (H : Heap) (locs : List Loc) (ls : Array Slot), va_P D vwCl (wl ad cA u) H → va_S (fun q => s.heap.size ≤ q) s.heap H locs → lv_has ls 4 lv →
    W p l e room_1 s m args below meth c H locs 600000 7302250 (lw_Z below #[Value.ref b] s) (F0 m pc ls st)
section GlRows
variable {X : Cx} {ad : Nat → Nat} {b L : Nat} {xs : Nat → Int32} {pc : Nat} {lv : List (Nat × Value)} {st stk : List Value} {u : Uw}
theorem gl_iconst {n : Int} {v : Int32} (d : decode code pc = .ok (.iconst n, 1)) (hv : Int32.ofInt n = v) (k : Gl X ad b L xs (pc + 1) lv (.int v :: st) u) : Gl X ad b L xs pc lv st u := by
  obtain ⟨p, l, e, s, m, args, below, meth, c, D, cA⟩ := X
  intro hok H locs ls hP hS h
  exact lv_iconst hok.1 hok.2.1 d hv (k hok H locs ls hP hS h)
theorem gl_bipush {n : Int} {v : Int32} (d : decode code pc = .ok (.bipush n, 2)) (hv : (Int8.ofInt n).toInt32 = v) (k : Gl X ad b L xs (pc + 2) lv (.int v :: st) u) : Gl X ad b L xs pc lv st u := by
  obtain ⟨p, l, e, s, m, args, below, meth, c, D, cA⟩ := X
  intro hok H locs ls hP hS h
  exact lv_bipush hok.1 hok.2.1 d hv (k hok H locs ls hP hS h)
theorem gl_ldc2 {index : Nat} {v : Int64} (w : Cond.constantLong R_law index v ∈ GW) (d : decode code pc = .ok (.ldc2_w index, 3)) (k : Gl X ad b L xs (pc + 3) lv (.long v :: st) u) : Gl X ad b L xs pc lv st u := by
  obtain ⟨p, l, e, s, m, args, below, meth, c, D, cA⟩ := X
  intro hok H locs ls hP hS h
  exact lv_ldc2 hok.1 hok.2.1 hok.2.2.2.1 (hok.2.2.2.2.1 _ w) d (k hok H locs ls hP hS h)
theorem gl_iload_n {q : Fin 4} {i : Nat} {x : Int32} (p0 : Nat) (hv : lv[p0]? = some (i, .int x)) (d : decode code pc = .ok (.iload_n q, 1)) (hi : (q : Nat) = i) (k : Gl X ad b L xs (pc + 1) lv (.int x :: st) u) : Gl X ad b L xs pc lv st u := by
  obtain ⟨p, l, e, s, m, args, below, meth, c, D, cA⟩ := X
  intro hok H locs ls hP hS h
  exact lv_iload_n hok.1 hok.2.1 d hi (lv_at h p0 hv) (k hok H locs ls hP hS h)
theorem gl_aload_n {q : Fin 4} {i : Nat} {x : Nat} (p0 : Nat) (hv : lv[p0]? = some (i, .ref x)) (d : decode code pc = .ok (.aload_n q, 1)) (hi : (q : Nat) = i) (k : Gl X ad b L xs (pc + 1) lv (.ref x :: st) u) : Gl X ad b L xs pc lv st u := by
  obtain ⟨p, l, e, s, m, args, below, meth, c, D, cA⟩ := X
  intro hok H locs ls hP hS h
  exact lv_aload_n hok.1 hok.2.1 d hi (lv_at h p0 hv) (k hok H locs ls hP hS h)
theorem gl_istore_n {q : Fin 4} {i : Nat} {x : Int32} {lv' : List (Nat × Value)} (d : decode code pc = .ok (.istore_n q, 1)) (hi : (q : Nat) = i) (hn : i < 4) (hl : (i, Value.int x) :: lv.filter (fun q => !(q.1 == i) && !(q.1 + 1 == i && q.2.category == 2)) = lv') (k : Gl X ad b L xs (pc + 1) lv' st u) : Gl X ad b L xs pc lv (.int x :: st) u := by
  obtain ⟨p, l, e, s, m, args, below, meth, c, D, cA⟩ := X
  intro hok H locs ls hP hS h
  exact lv_istore_n hok.1 hok.2.1 d hi h hn hl (fun ls' h' => k hok H locs ls' hP hS h')
theorem gl_iinc {i : Nat} {n : Int} {x v : Int32} {lv' : List (Nat × Value)} (p0 : Nat) (hv : lv[p0]? = some (i, .int x)) (d : decode code pc = .ok (.iinc i n, 3)) (he : x + Int32.ofInt n = v) (hn : i < 4) (hl : (i, Value.int v) :: lv.filter (fun q => !(q.1 == i) && !(q.1 + 1 == i && q.2.category == 2)) = lv') (k : Gl X ad b L xs (pc + 3) lv' st u) : Gl X ad b L xs pc lv st u := by
  obtain ⟨p, l, e, s, m, args, below, meth, c, D, cA⟩ := X
  intro hok H locs ls hP hS h
  exact lv_iinc hok.1 hok.2.1 d h hv he hn hl (fun ls' h' => k hok H locs ls' hP hS h')
theorem gl_iadd {x y : Int32} (d : decode code pc = .ok (.iadd, 1)) (k : Gl X ad b L xs (pc + 1) lv (.int (x + y) :: st) u) : Gl X ad b L xs pc lv (.int y :: .int x :: st) u := by
  obtain ⟨p, l, e, s, m, args, below, meth, c, D, cA⟩ := X
  intro hok H locs ls hP hS h
  exact lv_iadd hok.1 hok.2.1 d (k hok H locs ls hP hS h)
theorem gl_isub {x y : Int32} (d : decode code pc = .ok (.isub, 1)) (k : Gl X ad b L xs (pc + 1) lv (.int (x - y) :: st) u) : Gl X ad b L xs pc lv (.int y :: .int x :: st) u := by
  obtain ⟨p, l, e, s, m, args, below, meth, c, D, cA⟩ := X
  intro hok H locs ls hP hS h
  exact lv_isub hok.1 hok.2.1 d (k hok H locs ls hP hS h)
theorem gl_iand {x y : Int32} (d : decode code pc = .ok (.iand, 1)) (k : Gl X ad b L xs (pc + 1) lv (.int (x &&& y) :: st) u) : Gl X ad b L xs pc lv (.int y :: .int x :: st) u := by
  obtain ⟨p, l, e, s, m, args, below, meth, c, D, cA⟩ := X
  intro hok H locs ls hP hS h
  exact lv_iand hok.1 hok.2.1 d (k hok H locs ls hP hS h)
theorem gl_land {x y : Int64} (d : decode code pc = .ok (.land, 1)) (k : Gl X ad b L xs (pc + 1) lv (.long (x &&& y) :: st) u) : Gl X ad b L xs pc lv (.long y :: .long x :: st) u := by
  obtain ⟨p, l, e, s, m, args, below, meth, c, D, cA⟩ := X
  intro hok H locs ls hP hS h
  exact lv_land hok.1 hok.2.1 d (k hok H locs ls hP hS h)
theorem gl_lor {x y : Int64} (d : decode code pc = .ok (.lor, 1)) (k : Gl X ad b L xs (pc + 1) lv (.long (x ||| y) :: st) u) : Gl X ad b L xs pc lv (.long y :: .long x :: st) u := by
  obtain ⟨p, l, e, s, m, args, below, meth, c, D, cA⟩ := X
  intro hok H locs ls hP hS h
  exact lv_lor hok.1 hok.2.1 d (k hok H locs ls hP hS h)
theorem gl_lshl {x : Int64} {y : Int32} (d : decode code pc = .ok (.lshl, 1)) (k : Gl X ad b L xs (pc + 1) lv (.long (x <<< (y.toInt64 &&& 63)) :: st) u) : Gl X ad b L xs pc lv (.int y :: .long x :: st) u := by
  obtain ⟨p, l, e, s, m, args, below, meth, c, D, cA⟩ := X
  intro hok H locs ls hP hS h
  exact lv_lshl hok.1 hok.2.1 d rfl (k hok H locs ls hP hS h)
theorem gl_i2l {x : Int32} (d : decode code pc = .ok (.i2l, 1)) (k : Gl X ad b L xs (pc + 1) lv (.long x.toInt64 :: st) u) : Gl X ad b L xs pc lv (.int x :: st) u := by
  obtain ⟨p, l, e, s, m, args, below, meth, c, D, cA⟩ := X
  intro hok H locs ls hP hS h
  exact lv_i2l hok.1 hok.2.1 d rfl (k hok H locs ls hP hS h)
theorem gl_goto {off : Int} {tgt : Nat} (d : decode code pc = .ok (.goto off, 3)) (ht : (pc : Int) + off = (tgt : Int)) (k : Gl X ad b L xs tgt lv st u) : Gl X ad b L xs pc lv st u := by
  obtain ⟨p, l, e, s, m, args, below, meth, c, D, cA⟩ := X
  intro hok H locs ls hP hS h
  exact lv_goto hok.1 hok.2.1 d ht (k hok H locs ls hP hS h)
theorem gl_gt {x y : Int32} {off : Int} {tgt : Nat} (d : decode code pc = .ok (.if_icmp .gt off, 3)) (ht : (pc : Int) + off = (tgt : Int)) (k1 : y < x → Gl X ad b L xs tgt lv st u) (k2 : ¬ y < x → Gl X ad b L xs (pc + 3) lv st u) : Gl X ad b L xs pc lv (.int y :: .int x :: st) u := by
  obtain ⟨p, l, e, s, m, args, below, meth, c, D, cA⟩ := X
  intro hok H locs ls hP hS h
  exact lv_icmp_gt hok.1 hok.2.1 d ht (fun q => k1 q hok H locs ls hP hS h) (fun q => k2 q hok H locs ls hP hS h)
theorem gl_eqI {x : Int32} {off : Int} {tgt : Nat} (d : decode code pc = .ok (.if_icmp .eq off, 3)) (ht : (pc : Int) + off = (tgt : Int)) (k : Gl X ad b L xs tgt lv st u) : Gl X ad b L xs pc lv (.int x :: .int x :: st) u := by
  obtain ⟨p, l, e, s, m, args, below, meth, c, D, cA⟩ := X
  intro hok H locs ls hP hS h
  exact lv_icmp_eq hok.1 hok.2.1 d ht (fun _ => k hok H locs ls hP hS h) (fun q => absurd rfl q)
theorem gl_eqL {x : Int64} {off : Int} {tgt : Nat} (d1 : decode code pc = .ok (.lcmp, 1)) (d : decode code (pc + 1) = .ok (.ifCond .eq off, 3)) (ht : ((pc + 1 : Nat) : Int) + off = (tgt : Int)) (k : Gl X ad b L xs tgt lv st u) : Gl X ad b L xs pc lv (.long x :: .long x :: st) u := by
  obtain ⟨p, l, e, s, m, args, below, meth, c, D, cA⟩ := X
  intro hok H locs ls hP hS h
  refine W.lcmp hok.1 hok.2.1 d1 ?_
  exact lv_if_eq hok.1 hok.2.1 d ht (fun _ => k hok H locs ls hP hS h) (fun q => absurd (by simp [lg_cmp]) q)
theorem gl_tin {dflt lo hi : Int} {offs : Array Int} {len : Nat} {x : Int32} {off : Int} {tgt : Nat} (d : decode code pc = .ok (.tableswitch dflt lo hi offs, len)) (h1 : ¬ x.toInt < lo) (h2 : ¬ hi < x.toInt) (ho1 : offs[(x.toInt - lo).toNat]? = some off) (ht : (pc : Int) + off = (tgt : Int)) (k : Gl X ad b L xs tgt lv st u) : Gl X ad b L xs pc lv (.int x :: st) u := by
  obtain ⟨p, l, e, s, m, args, below, meth, c, D, cA⟩ := X
  intro hok H locs ls hP hS h
  exact lv_tableIn hok.1 hok.2.1 d h1 h2 ho1 ht (k hok H locs ls hP hS h)
theorem gl_tout {dflt lo hi : Int} {offs : Array Int} {len : Nat} {x : Int32} {tgt : Nat} (d : decode code pc = .ok (.tableswitch dflt lo hi offs, len)) (hx : x.toInt < lo ∨ hi < x.toInt) (ht : (pc : Int) + dflt = (tgt : Int)) (k : Gl X ad b L xs tgt lv st u) : Gl X ad b L xs pc lv (.int x :: st) u := by
  obtain ⟨p, l, e, s, m, args, below, meth, c, D, cA⟩ := X
  intro hok H locs ls hP hS h
  exact lv_tableOut hok.1 hok.2.1 d hx ht (k hok H locs ls hP hS h)
theorem gl_slen (d : decode code pc = .ok (.arraylength, 1)) (hL : L < 2 ^ 31) (k : Gl X ad b L xs (pc + 1) lv (.int (nI L) :: st) u) : Gl X ad b L xs pc lv (.ref b :: st) u := by
  obtain ⟨p, l, e, s, m, args, below, meth, c, D, cA⟩ := X
  intro hok H locs ls hP hS h
  have hx := hok.2.2.2.2.2.2.2.2.2.2.1
  have hbl := hok.2.2.2.2.2.2.2.2.2.2.2.1
  exact va_slen hok.1 hok.2.1 hx hbl (Nat.not_le.mpr hbl) hS d (k hok H locs ls hP hS h)
theorem gl_sld (j : Nat) {x : Int32} (hj : x = nI j) (hL : j < L) (hL2 : L < 2 ^ 31) (d : decode code pc = .ok (.iaload, 1)) (k : Gl X ad b L xs (pc + 1) lv (.int (xs j) :: st) u) : Gl X ad b L xs pc lv (.int x :: .ref b :: st) u := by
  obtain ⟨p, l, e, s, m, args, below, meth, c, D, cA⟩ := X
  intro hok H locs ls hP hS h
  have hx := hok.2.2.2.2.2.2.2.2.2.2.1
  have hbl := hok.2.2.2.2.2.2.2.2.2.2.2.1
  subst hj
  refine va_sld hok.1 hok.2.1 hx hbl (Nat.not_le.mpr hbl) hS (vp_in_nI hL hL2) d ?_
  rw [nI_clamp (by omega)]
  exact k hok H locs ls hP hS h
theorem gl_end (d : decode code pc = .ok (.ireturn, 1)) : Gl X ad b L xs pc lv [.int 1] u := by
  obtain ⟨p, l, e, s, m, args, below, meth, c, D, cA⟩ := X
  intro hok H locs ls hP hS h
  have ha := hok.2.2.2.2.2.2.2.2.2.2.2.2.2
  subst ha
  refine va_forget (fun q hq => hS.2.2 q hq) ?_
  exact lw_ret hok.1 hok.2.1 hok.2.2.2.2.2.2.1 hok.2.2.2.2.2.1 d
theorem lcall_core {p : Program} {l : Launch} {ev : Env} {R : Room} {s : State} {m : MethodId} {args : Array Value} {below : List Frame} {meth : Method} {c : Code} {H : Heap} {locs : List Loc} {Q : State → Prop} {pc cells slots : Nat} {ls : Array Slot} {rest st0 : List Value} {ad : Nat → Nat} {D : va_G} {cA : Nat → ClassId} {v : Option Value} {u1 : Uw} {a : Array Value} {A0 : Nat → Prop}
    (hr : va_Run p l ev R s m args below meth c H locs cells slots 0 0 (F0 m pc ls st0) rest (QW ad D cA v u1 a) (Aw ad)) (hS : va_S A0 s.heap H locs) (hA : ∀ q, Aw ad q → A0 q)
    (kk : ∀ (H1 : Heap) (locs1 : List Loc), va_P D vwCl (wl ad cA u1) H1 → va_S A0 s.heap H1 locs1 → W p l ev R s m args below meth c H1 locs1 cells slots Q (F0 m (pc + 3) ls (v.toList ++ rest))) : W p l ev R s m args below meth c H locs cells slots Q (F0 m pc ls st0) := by
  intro T hT X
  obtain ⟨v', st₀, t, T', LL, h0, X', hL, e1, e2, ⟨hv, hP1, hz, hk⟩, stp⟩ := hr T hT X
  cases hv
  rw [h0] at hz hk
  obtain ⟨t2, a1, b1⟩ := kk T'.heap (locs ++ LL) (by rw [e1]; exact hP1)
    ⟨Nat.le_trans hS.1 (by rw [e1]; exact hz), fun q h1 h2 => by rw [e1, hk q (Nat.lt_of_lt_of_le h1 hS.1) (fun z => h2 (hA q z))]; exact hS.2.1 q h1 h2, fun q hq => by
      rcases List.mem_append.mp hq with h | h
      · exact hS.2.2 q h
      · exact hA _ (hL q h)⟩ T' rfl X'
  exact ⟨t2, stp t2 a1, b1⟩
theorem gl_call {β : Type} {jv : (Nat → Nat) → β → Option Value} {y : MethodName} {N : Mi} {n index t e : Nat} {C : String} {T : u_T} {NF : Nat} {tyF : Nat → FieldType} {As : (Nat → Nat) → List Value} {f : Option (β × Uw)} {r : β} {u1 : Uw} (hM : ∀ l, Con l y N jv (fun ad => .ref (ad e) :: As ad) u f) (hf : f = some (r, u1)) (mo : MOV y N n C) (ok : clOk t C T NF tyF) (ht : (kT e == t) = true) (w : Cond.methodLink R_law index y ∈ GW) (hn : (As ad).length = n) (hR : N.2.2.2.2.frames + 1 ≤ room_1.frames ∧ 8 + (N.2.2.1 + 11) + N.2.2.2.2.locals ≤ room_1.locals) (hst : stk = (As ad).reverse ++ .ref (ad e) :: st) (hroom : (st.map fun v => v.category).sum ≤ 8) (d : decode code pc = .ok (.invokevirtual index, 3))
    (k : Gl X ad b L xs (pc + 3) lv ((jv ad r).toList ++ st) u1) : Gl X ad b L xs pc lv stk u := by
  obtain ⟨p, l, ev, s, m, args, below, meth, c, D, cA⟩ := X
  intro hok H locs ls hP hS h
  have hw := hok.2.2.2.2.1
  have hA : ∀ q, Aw ad q → s.heap.size ≤ q := fun q ⟨k, hk, e⟩ => by rw [e]; exact hok.2.2.2.2.2.2.2.2.2.2.2.2.1 k hk
  have hT : St ad s H := hok.2.2.2.2.2.2.2.2.2.1.kept (fun a h1 _ => hS.2.1 a h1 (Nat.not_le.mpr h1))
  refine lcall_core (va_runV (Ts := GW) (b := ad e) (As := As ad) (rest := st) (nL := 4) (C := C) ⟨hok.1, hok.2.1, hok.2.2.1, hok.2.2.2.1, hw⟩ (hM l ad D cA r u1 hf) ⟨callB_of n hw (goodGW mo.1.1) rfl mo.1.2.2.2.1 mo.1.2.2.2.2 (hw _ mo.1.2.1) (hw _ w) mo.1.2.2.1 hR, hw _ mo.2.1, hw _ mo.2.2⟩
    ⟨wd_blind, va_recv hok.2.2.2.2.2.2.2.2.1 hP ok.1 (by rw [wl_get (e97 ht (Nat.lt_trans ok.2.2.1 (by decide))), cell_obj ht ok.2.2.1]), fun U hU hW => ⟨rfl, by rw [hU]; exact hP, va_K.moved hW.alike hok.2.2.2.2.2.2.2.2.1, hok.2.2.2.2.2.2.2.1, by rw [hU]; exact hT.warm hW⟩⟩ rfl hn h.1 hst (lv_room hroom) d ⟨Nat.le_refl _, Nat.le_refl _⟩) hS hA (fun H1 locs1 hP1 hS1 => ?_)
  exact k hok H1 locs1 ls hP1 hS1 h
end GlRows
set_option maxHeartbeats 4000000 in
set_option maxRecDepth 100000 in
theorem case_0 {X : Cx} {ad : Nat → Nat} {b L : Nat} {xs : Nat → Int32} {i : Nat} (hi : i + 6 ≤ L) (hL : L ≤ 3072) {u u1 u2 : Uw} {r : Int32} (h1 : f_X5_calendar (xs (i + 1)) u = some (r, u1)) (h2 : f_X6_calendar (xs (i + 1)) u1 = some (r, u2)) (hk : Gl X ad b L xs 1486 [(3, .int (nI i)), (2, .ref (ad 86)), (1, .ref (ad 69)), (0, .ref b)] [] u2) : Gl X ad b L xs 212 [(3, .int (nI i)), (2, .ref (ad 86)), (1, .ref (ad 69)), (0, .ref b)] [] u := by
  refine gl_aload_n 2 rfl dL_law_212 rfl ?_
  refine gl_aload_n 3 rfl dL_law_213 rfl ?_
  refine gl_iload_n 0 rfl dL_law_214 rfl ?_
  refine gl_iconst (v := (1 : Int32)) dL_law_215 (by decide) ?_
  refine gl_iadd dL_law_216 ?_
  refine gl_sld (i + 1) (nI_add i 1) (by omega) (by omega) dL_law_217 ?_
  refine gl_call (As := fun ad => [.int (xs (i + 1))]) (g_X5_calendar (xs (i + 1)) u) h1 mv_X5_calendar clX5 kt_69 lw0 rfl ⟨Nat.le_of_ble_eq_true rfl, Nat.le_of_ble_eq_true rfl⟩ rfl (Nat.le_of_ble_eq_true rfl) dL_law_218 ?_
  show Gl X ad b L xs 221 [(3, .int (nI i)), (2, .ref (ad 86)), (1, .ref (ad 69)), (0, .ref b)] [.int r] u1
  refine gl_aload_n 1 rfl dL_law_221 rfl ?_
  refine gl_aload_n 3 rfl dL_law_222 rfl ?_
  refine gl_iload_n 0 rfl dL_law_223 rfl ?_
  refine gl_iconst (v := (1 : Int32)) dL_law_224 (by decide) ?_
  refine gl_iadd dL_law_225 ?_
  refine gl_sld (i + 1) (nI_add i 1) (by omega) (by omega) dL_law_226 ?_
  refine gl_call (As := fun ad => [.int (xs (i + 1))]) (g_X6_calendar (xs (i + 1)) u1) h2 mv_X6_calendar clX6 kt_86 lw1 rfl ⟨Nat.le_of_ble_eq_true rfl, Nat.le_of_ble_eq_true rfl⟩ rfl (Nat.le_of_ble_eq_true rfl) dL_law_227 ?_
  show Gl X ad b L xs 230 [(3, .int (nI i)), (2, .ref (ad 86)), (1, .ref (ad 69)), (0, .ref b)] [.int r, .int r] u2
  exact gl_eqI (tgt := 1486) dL_law_230 (by decide) hk
set_option maxHeartbeats 4000000 in
set_option maxRecDepth 100000 in
theorem case_1 {X : Cx} {ad : Nat → Nat} {b L : Nat} {xs : Nat → Int32} {i : Nat} (hi : i + 6 ≤ L) (hL : L ≤ 3072) {u u1 u2 : Uw} {r : Int32} (h1 : f_X5_of (xs (i + 1)) (xs (i + 2)) u = some (r, u1)) (h2 : f_X6_of (xs (i + 1)) (xs (i + 2)) u1 = some (r, u2)) (hk : Gl X ad b L xs 1486 [(3, .int (nI i)), (2, .ref (ad 86)), (1, .ref (ad 69)), (0, .ref b)] [] u2) : Gl X ad b L xs 235 [(3, .int (nI i)), (2, .ref (ad 86)), (1, .ref (ad 69)), (0, .ref b)] [] u := by
  refine gl_aload_n 2 rfl dL_law_235 rfl ?_
  refine gl_aload_n 3 rfl dL_law_236 rfl ?_
  refine gl_iload_n 0 rfl dL_law_237 rfl ?_
  refine gl_iconst (v := (1 : Int32)) dL_law_238 (by decide) ?_
  refine gl_iadd dL_law_239 ?_
  refine gl_sld (i + 1) (nI_add i 1) (by omega) (by omega) dL_law_240 ?_
  refine gl_aload_n 3 rfl dL_law_241 rfl ?_
  refine gl_iload_n 0 rfl dL_law_242 rfl ?_
  refine gl_iconst (v := (2 : Int32)) dL_law_243 (by decide) ?_
  refine gl_iadd dL_law_244 ?_
  refine gl_sld (i + 2) (nI_add i 2) (by omega) (by omega) dL_law_245 ?_
  refine gl_call (As := fun ad => [.int (xs (i + 1)), .int (xs (i + 2))]) (g_X5_of (xs (i + 1)) (xs (i + 2)) u) h1 mv_X5_of clX5 kt_69 lw2 rfl ⟨Nat.le_of_ble_eq_true rfl, Nat.le_of_ble_eq_true rfl⟩ rfl (Nat.le_of_ble_eq_true rfl) dL_law_246 ?_
  show Gl X ad b L xs 249 [(3, .int (nI i)), (2, .ref (ad 86)), (1, .ref (ad 69)), (0, .ref b)] [.int r] u1
  refine gl_aload_n 1 rfl dL_law_249 rfl ?_
  refine gl_aload_n 3 rfl dL_law_250 rfl ?_
  refine gl_iload_n 0 rfl dL_law_251 rfl ?_
  refine gl_iconst (v := (1 : Int32)) dL_law_252 (by decide) ?_
  refine gl_iadd dL_law_253 ?_
  refine gl_sld (i + 1) (nI_add i 1) (by omega) (by omega) dL_law_254 ?_
  refine gl_aload_n 3 rfl dL_law_255 rfl ?_
  refine gl_iload_n 0 rfl dL_law_256 rfl ?_
  refine gl_iconst (v := (2 : Int32)) dL_law_257 (by decide) ?_
  refine gl_iadd dL_law_258 ?_
  refine gl_sld (i + 2) (nI_add i 2) (by omega) (by omega) dL_law_259 ?_
  refine gl_call (As := fun ad => [.int (xs (i + 1)), .int (xs (i + 2))]) (g_X6_of (xs (i + 1)) (xs (i + 2)) u1) h2 mv_X6_of clX6 kt_86 lw3 rfl ⟨Nat.le_of_ble_eq_true rfl, Nat.le_of_ble_eq_true rfl⟩ rfl (Nat.le_of_ble_eq_true rfl) dL_law_260 ?_
  show Gl X ad b L xs 263 [(3, .int (nI i)), (2, .ref (ad 86)), (1, .ref (ad 69)), (0, .ref b)] [.int r, .int r] u2
  exact gl_eqI (tgt := 1486) dL_law_263 (by decide) hk
set_option maxHeartbeats 4000000 in
set_option maxRecDepth 100000 in
theorem case_2 {X : Cx} {ad : Nat → Nat} {b L : Nat} {xs : Nat → Int32} {i : Nat} (hi : i + 6 ≤ L) (hL : L ≤ 3072) {u u1 u2 : Uw} {r : Int32} (h1 : f_X5_set (xs (i + 1)) (xs (i + 2)) (xs (i + 3)) u = some (r, u1)) (h2 : f_X6_set (xs (i + 1)) (xs (i + 2)) (xs (i + 3)) u1 = some (r, u2)) (hk : Gl X ad b L xs 1486 [(3, .int (nI i)), (2, .ref (ad 86)), (1, .ref (ad 69)), (0, .ref b)] [] u2) : Gl X ad b L xs 268 [(3, .int (nI i)), (2, .ref (ad 86)), (1, .ref (ad 69)), (0, .ref b)] [] u := by
  refine gl_aload_n 2 rfl dL_law_268 rfl ?_
  refine gl_aload_n 3 rfl dL_law_269 rfl ?_
  refine gl_iload_n 0 rfl dL_law_270 rfl ?_
  refine gl_iconst (v := (1 : Int32)) dL_law_271 (by decide) ?_
  refine gl_iadd dL_law_272 ?_
  refine gl_sld (i + 1) (nI_add i 1) (by omega) (by omega) dL_law_273 ?_
  refine gl_aload_n 3 rfl dL_law_274 rfl ?_
  refine gl_iload_n 0 rfl dL_law_275 rfl ?_
  refine gl_iconst (v := (2 : Int32)) dL_law_276 (by decide) ?_
  refine gl_iadd dL_law_277 ?_
  refine gl_sld (i + 2) (nI_add i 2) (by omega) (by omega) dL_law_278 ?_
  refine gl_aload_n 3 rfl dL_law_279 rfl ?_
  refine gl_iload_n 0 rfl dL_law_280 rfl ?_
  refine gl_iconst (v := (3 : Int32)) dL_law_281 (by decide) ?_
  refine gl_iadd dL_law_282 ?_
  refine gl_sld (i + 3) (nI_add i 3) (by omega) (by omega) dL_law_283 ?_
  refine gl_call (As := fun ad => [.int (xs (i + 1)), .int (xs (i + 2)), .int (xs (i + 3))]) (g_X5_set (xs (i + 1)) (xs (i + 2)) (xs (i + 3)) u) h1 mv_X5_set clX5 kt_69 lw4 rfl ⟨Nat.le_of_ble_eq_true rfl, Nat.le_of_ble_eq_true rfl⟩ rfl (Nat.le_of_ble_eq_true rfl) dL_law_284 ?_
  show Gl X ad b L xs 287 [(3, .int (nI i)), (2, .ref (ad 86)), (1, .ref (ad 69)), (0, .ref b)] [.int r] u1
  refine gl_aload_n 1 rfl dL_law_287 rfl ?_
  refine gl_aload_n 3 rfl dL_law_288 rfl ?_
  refine gl_iload_n 0 rfl dL_law_289 rfl ?_
  refine gl_iconst (v := (1 : Int32)) dL_law_290 (by decide) ?_
  refine gl_iadd dL_law_291 ?_
  refine gl_sld (i + 1) (nI_add i 1) (by omega) (by omega) dL_law_292 ?_
  refine gl_aload_n 3 rfl dL_law_293 rfl ?_
  refine gl_iload_n 0 rfl dL_law_294 rfl ?_
  refine gl_iconst (v := (2 : Int32)) dL_law_295 (by decide) ?_
  refine gl_iadd dL_law_296 ?_
  refine gl_sld (i + 2) (nI_add i 2) (by omega) (by omega) dL_law_297 ?_
  refine gl_aload_n 3 rfl dL_law_298 rfl ?_
  refine gl_iload_n 0 rfl dL_law_299 rfl ?_
  refine gl_iconst (v := (3 : Int32)) dL_law_300 (by decide) ?_
  refine gl_iadd dL_law_301 ?_
  refine gl_sld (i + 3) (nI_add i 3) (by omega) (by omega) dL_law_302 ?_
  refine gl_call (As := fun ad => [.int (xs (i + 1)), .int (xs (i + 2)), .int (xs (i + 3))]) (g_X6_set (xs (i + 1)) (xs (i + 2)) (xs (i + 3)) u1) h2 mv_X6_set clX6 kt_86 lw5 rfl ⟨Nat.le_of_ble_eq_true rfl, Nat.le_of_ble_eq_true rfl⟩ rfl (Nat.le_of_ble_eq_true rfl) dL_law_303 ?_
  show Gl X ad b L xs 306 [(3, .int (nI i)), (2, .ref (ad 86)), (1, .ref (ad 69)), (0, .ref b)] [.int r, .int r] u2
  exact gl_eqI (tgt := 1486) dL_law_306 (by decide) hk
set_option maxHeartbeats 4000000 in
set_option maxRecDepth 100000 in
theorem case_3 {X : Cx} {ad : Nat → Nat} {b L : Nat} {xs : Nat → Int32} {i : Nat} (hi : i + 6 ≤ L) (hL : L ≤ 3072) {u u1 u2 : Uw} {r : Int32} (h1 : f_X5_turn (xs (i + 1)) (xs (i + 2)) u = some (r, u1)) (h2 : f_X6_turn (xs (i + 1)) (xs (i + 2)) u1 = some (r, u2)) (hk : Gl X ad b L xs 1486 [(3, .int (nI i)), (2, .ref (ad 86)), (1, .ref (ad 69)), (0, .ref b)] [] u2) : Gl X ad b L xs 311 [(3, .int (nI i)), (2, .ref (ad 86)), (1, .ref (ad 69)), (0, .ref b)] [] u := by
  refine gl_aload_n 2 rfl dL_law_311 rfl ?_
  refine gl_aload_n 3 rfl dL_law_312 rfl ?_
  refine gl_iload_n 0 rfl dL_law_313 rfl ?_
  refine gl_iconst (v := (1 : Int32)) dL_law_314 (by decide) ?_
  refine gl_iadd dL_law_315 ?_
  refine gl_sld (i + 1) (nI_add i 1) (by omega) (by omega) dL_law_316 ?_
  refine gl_aload_n 3 rfl dL_law_317 rfl ?_
  refine gl_iload_n 0 rfl dL_law_318 rfl ?_
  refine gl_iconst (v := (2 : Int32)) dL_law_319 (by decide) ?_
  refine gl_iadd dL_law_320 ?_
  refine gl_sld (i + 2) (nI_add i 2) (by omega) (by omega) dL_law_321 ?_
  refine gl_call (As := fun ad => [.int (xs (i + 1)), .int (xs (i + 2))]) (g_X5_turn (xs (i + 1)) (xs (i + 2)) u) h1 mv_X5_turn clX5 kt_69 lw6 rfl ⟨Nat.le_of_ble_eq_true rfl, Nat.le_of_ble_eq_true rfl⟩ rfl (Nat.le_of_ble_eq_true rfl) dL_law_322 ?_
  show Gl X ad b L xs 325 [(3, .int (nI i)), (2, .ref (ad 86)), (1, .ref (ad 69)), (0, .ref b)] [.int r] u1
  refine gl_aload_n 1 rfl dL_law_325 rfl ?_
  refine gl_aload_n 3 rfl dL_law_326 rfl ?_
  refine gl_iload_n 0 rfl dL_law_327 rfl ?_
  refine gl_iconst (v := (1 : Int32)) dL_law_328 (by decide) ?_
  refine gl_iadd dL_law_329 ?_
  refine gl_sld (i + 1) (nI_add i 1) (by omega) (by omega) dL_law_330 ?_
  refine gl_aload_n 3 rfl dL_law_331 rfl ?_
  refine gl_iload_n 0 rfl dL_law_332 rfl ?_
  refine gl_iconst (v := (2 : Int32)) dL_law_333 (by decide) ?_
  refine gl_iadd dL_law_334 ?_
  refine gl_sld (i + 2) (nI_add i 2) (by omega) (by omega) dL_law_335 ?_
  refine gl_call (As := fun ad => [.int (xs (i + 1)), .int (xs (i + 2))]) (g_X6_turn (xs (i + 1)) (xs (i + 2)) u1) h2 mv_X6_turn clX6 kt_86 lw7 rfl ⟨Nat.le_of_ble_eq_true rfl, Nat.le_of_ble_eq_true rfl⟩ rfl (Nat.le_of_ble_eq_true rfl) dL_law_336 ?_
  show Gl X ad b L xs 339 [(3, .int (nI i)), (2, .ref (ad 86)), (1, .ref (ad 69)), (0, .ref b)] [.int r, .int r] u2
  exact gl_eqI (tgt := 1486) dL_law_339 (by decide) hk
set_option maxHeartbeats 4000000 in
set_option maxRecDepth 100000 in
theorem case_4 {X : Cx} {ad : Nat → Nat} {b L : Nat} {xs : Nat → Int32} {i : Nat} (hi : i + 6 ≤ L) (hL : L ≤ 3072) {u u1 u2 : Uw} {r : Int32} (h1 : f_X5_as (xs (i + 1)) (xs (i + 2)) u = some (r, u1)) (h2 : f_X6_as (xs (i + 1)) (xs (i + 2)) u1 = some (r, u2)) (hk : Gl X ad b L xs 1486 [(3, .int (nI i)), (2, .ref (ad 86)), (1, .ref (ad 69)), (0, .ref b)] [] u2) : Gl X ad b L xs 344 [(3, .int (nI i)), (2, .ref (ad 86)), (1, .ref (ad 69)), (0, .ref b)] [] u := by
  refine gl_aload_n 2 rfl dL_law_344 rfl ?_
  refine gl_aload_n 3 rfl dL_law_345 rfl ?_
  refine gl_iload_n 0 rfl dL_law_346 rfl ?_
  refine gl_iconst (v := (1 : Int32)) dL_law_347 (by decide) ?_
  refine gl_iadd dL_law_348 ?_
  refine gl_sld (i + 1) (nI_add i 1) (by omega) (by omega) dL_law_349 ?_
  refine gl_aload_n 3 rfl dL_law_350 rfl ?_
  refine gl_iload_n 0 rfl dL_law_351 rfl ?_
  refine gl_iconst (v := (2 : Int32)) dL_law_352 (by decide) ?_
  refine gl_iadd dL_law_353 ?_
  refine gl_sld (i + 2) (nI_add i 2) (by omega) (by omega) dL_law_354 ?_
  refine gl_call (As := fun ad => [.int (xs (i + 1)), .int (xs (i + 2))]) (g_X5_as (xs (i + 1)) (xs (i + 2)) u) h1 mv_X5_as clX5 kt_69 lw8 rfl ⟨Nat.le_of_ble_eq_true rfl, Nat.le_of_ble_eq_true rfl⟩ rfl (Nat.le_of_ble_eq_true rfl) dL_law_355 ?_
  show Gl X ad b L xs 358 [(3, .int (nI i)), (2, .ref (ad 86)), (1, .ref (ad 69)), (0, .ref b)] [.int r] u1
  refine gl_aload_n 1 rfl dL_law_358 rfl ?_
  refine gl_aload_n 3 rfl dL_law_359 rfl ?_
  refine gl_iload_n 0 rfl dL_law_360 rfl ?_
  refine gl_iconst (v := (1 : Int32)) dL_law_361 (by decide) ?_
  refine gl_iadd dL_law_362 ?_
  refine gl_sld (i + 1) (nI_add i 1) (by omega) (by omega) dL_law_363 ?_
  refine gl_aload_n 3 rfl dL_law_364 rfl ?_
  refine gl_iload_n 0 rfl dL_law_365 rfl ?_
  refine gl_iconst (v := (2 : Int32)) dL_law_366 (by decide) ?_
  refine gl_iadd dL_law_367 ?_
  refine gl_sld (i + 2) (nI_add i 2) (by omega) (by omega) dL_law_368 ?_
  refine gl_call (As := fun ad => [.int (xs (i + 1)), .int (xs (i + 2))]) (g_X6_as (xs (i + 1)) (xs (i + 2)) u1) h2 mv_X6_as clX6 kt_86 lw9 rfl ⟨Nat.le_of_ble_eq_true rfl, Nat.le_of_ble_eq_true rfl⟩ rfl (Nat.le_of_ble_eq_true rfl) dL_law_369 ?_
  show Gl X ad b L xs 372 [(3, .int (nI i)), (2, .ref (ad 86)), (1, .ref (ad 69)), (0, .ref b)] [.int r, .int r] u2
  exact gl_eqI (tgt := 1486) dL_law_372 (by decide) hk
set_option maxHeartbeats 4000000 in
set_option maxRecDepth 100000 in
theorem case_5 {X : Cx} {ad : Nat → Nat} {b L : Nat} {xs : Nat → Int32} {i : Nat} (hi : i + 6 ≤ L) (hL : L ≤ 3072) {u u1 u2 : Uw} {r : Int32} (h1 : f_X5_date (xs (i + 1)) (xs (i + 2)) (xs (i + 3)) u = some (r, u1)) (h2 : f_X6_date (xs (i + 1)) (xs (i + 2)) (xs (i + 3)) u1 = some (r, u2)) (hk : Gl X ad b L xs 1486 [(3, .int (nI i)), (2, .ref (ad 86)), (1, .ref (ad 69)), (0, .ref b)] [] u2) : Gl X ad b L xs 377 [(3, .int (nI i)), (2, .ref (ad 86)), (1, .ref (ad 69)), (0, .ref b)] [] u := by
  refine gl_aload_n 2 rfl dL_law_377 rfl ?_
  refine gl_aload_n 3 rfl dL_law_378 rfl ?_
  refine gl_iload_n 0 rfl dL_law_379 rfl ?_
  refine gl_iconst (v := (1 : Int32)) dL_law_380 (by decide) ?_
  refine gl_iadd dL_law_381 ?_
  refine gl_sld (i + 1) (nI_add i 1) (by omega) (by omega) dL_law_382 ?_
  refine gl_aload_n 3 rfl dL_law_383 rfl ?_
  refine gl_iload_n 0 rfl dL_law_384 rfl ?_
  refine gl_iconst (v := (2 : Int32)) dL_law_385 (by decide) ?_
  refine gl_iadd dL_law_386 ?_
  refine gl_sld (i + 2) (nI_add i 2) (by omega) (by omega) dL_law_387 ?_
  refine gl_aload_n 3 rfl dL_law_388 rfl ?_
  refine gl_iload_n 0 rfl dL_law_389 rfl ?_
  refine gl_iconst (v := (3 : Int32)) dL_law_390 (by decide) ?_
  refine gl_iadd dL_law_391 ?_
  refine gl_sld (i + 3) (nI_add i 3) (by omega) (by omega) dL_law_392 ?_
  refine gl_call (As := fun ad => [.int (xs (i + 1)), .int (xs (i + 2)), .int (xs (i + 3))]) (g_X5_date (xs (i + 1)) (xs (i + 2)) (xs (i + 3)) u) h1 mv_X5_date clX5 kt_69 lw10 rfl ⟨Nat.le_of_ble_eq_true rfl, Nat.le_of_ble_eq_true rfl⟩ rfl (Nat.le_of_ble_eq_true rfl) dL_law_393 ?_
  show Gl X ad b L xs 396 [(3, .int (nI i)), (2, .ref (ad 86)), (1, .ref (ad 69)), (0, .ref b)] [.int r] u1
  refine gl_aload_n 1 rfl dL_law_396 rfl ?_
  refine gl_aload_n 3 rfl dL_law_397 rfl ?_
  refine gl_iload_n 0 rfl dL_law_398 rfl ?_
  refine gl_iconst (v := (1 : Int32)) dL_law_399 (by decide) ?_
  refine gl_iadd dL_law_400 ?_
  refine gl_sld (i + 1) (nI_add i 1) (by omega) (by omega) dL_law_401 ?_
  refine gl_aload_n 3 rfl dL_law_402 rfl ?_
  refine gl_iload_n 0 rfl dL_law_403 rfl ?_
  refine gl_iconst (v := (2 : Int32)) dL_law_404 (by decide) ?_
  refine gl_iadd dL_law_405 ?_
  refine gl_sld (i + 2) (nI_add i 2) (by omega) (by omega) dL_law_406 ?_
  refine gl_aload_n 3 rfl dL_law_407 rfl ?_
  refine gl_iload_n 0 rfl dL_law_408 rfl ?_
  refine gl_iconst (v := (3 : Int32)) dL_law_409 (by decide) ?_
  refine gl_iadd dL_law_410 ?_
  refine gl_sld (i + 3) (nI_add i 3) (by omega) (by omega) dL_law_411 ?_
  refine gl_call (As := fun ad => [.int (xs (i + 1)), .int (xs (i + 2)), .int (xs (i + 3))]) (g_X6_date (xs (i + 1)) (xs (i + 2)) (xs (i + 3)) u1) h2 mv_X6_date clX6 kt_86 lw11 rfl ⟨Nat.le_of_ble_eq_true rfl, Nat.le_of_ble_eq_true rfl⟩ rfl (Nat.le_of_ble_eq_true rfl) dL_law_412 ?_
  show Gl X ad b L xs 415 [(3, .int (nI i)), (2, .ref (ad 86)), (1, .ref (ad 69)), (0, .ref b)] [.int r, .int r] u2
  exact gl_eqI (tgt := 1486) dL_law_415 (by decide) hk
set_option maxHeartbeats 4000000 in
set_option maxRecDepth 100000 in
theorem case_6 {X : Cx} {ad : Nat → Nat} {b L : Nat} {xs : Nat → Int32} {i : Nat} (hi : i + 6 ≤ L) (hL : L ≤ 3072) {u u1 u2 : Uw} {r : Int32} (h1 : f_X5_law (xs (i + 1)) (xs (i + 2)) u = some (r, u1)) (h2 : f_X6_law (xs (i + 1)) (xs (i + 2)) u1 = some (r, u2)) (hk : Gl X ad b L xs 1486 [(3, .int (nI i)), (2, .ref (ad 86)), (1, .ref (ad 69)), (0, .ref b)] [] u2) : Gl X ad b L xs 420 [(3, .int (nI i)), (2, .ref (ad 86)), (1, .ref (ad 69)), (0, .ref b)] [] u := by
  refine gl_aload_n 2 rfl dL_law_420 rfl ?_
  refine gl_aload_n 3 rfl dL_law_421 rfl ?_
  refine gl_iload_n 0 rfl dL_law_422 rfl ?_
  refine gl_iconst (v := (1 : Int32)) dL_law_423 (by decide) ?_
  refine gl_iadd dL_law_424 ?_
  refine gl_sld (i + 1) (nI_add i 1) (by omega) (by omega) dL_law_425 ?_
  refine gl_aload_n 3 rfl dL_law_426 rfl ?_
  refine gl_iload_n 0 rfl dL_law_427 rfl ?_
  refine gl_iconst (v := (2 : Int32)) dL_law_428 (by decide) ?_
  refine gl_iadd dL_law_429 ?_
  refine gl_sld (i + 2) (nI_add i 2) (by omega) (by omega) dL_law_430 ?_
  refine gl_call (As := fun ad => [.int (xs (i + 1)), .int (xs (i + 2))]) (g_X5_law (xs (i + 1)) (xs (i + 2)) u) h1 mv_X5_law clX5 kt_69 lw12 rfl ⟨Nat.le_of_ble_eq_true rfl, Nat.le_of_ble_eq_true rfl⟩ rfl (Nat.le_of_ble_eq_true rfl) dL_law_431 ?_
  show Gl X ad b L xs 434 [(3, .int (nI i)), (2, .ref (ad 86)), (1, .ref (ad 69)), (0, .ref b)] [.int r] u1
  refine gl_aload_n 1 rfl dL_law_434 rfl ?_
  refine gl_aload_n 3 rfl dL_law_435 rfl ?_
  refine gl_iload_n 0 rfl dL_law_436 rfl ?_
  refine gl_iconst (v := (1 : Int32)) dL_law_437 (by decide) ?_
  refine gl_iadd dL_law_438 ?_
  refine gl_sld (i + 1) (nI_add i 1) (by omega) (by omega) dL_law_439 ?_
  refine gl_aload_n 3 rfl dL_law_440 rfl ?_
  refine gl_iload_n 0 rfl dL_law_441 rfl ?_
  refine gl_iconst (v := (2 : Int32)) dL_law_442 (by decide) ?_
  refine gl_iadd dL_law_443 ?_
  refine gl_sld (i + 2) (nI_add i 2) (by omega) (by omega) dL_law_444 ?_
  refine gl_call (As := fun ad => [.int (xs (i + 1)), .int (xs (i + 2))]) (g_X6_law (xs (i + 1)) (xs (i + 2)) u1) h2 mv_X6_law clX6 kt_86 lw13 rfl ⟨Nat.le_of_ble_eq_true rfl, Nat.le_of_ble_eq_true rfl⟩ rfl (Nat.le_of_ble_eq_true rfl) dL_law_445 ?_
  show Gl X ad b L xs 448 [(3, .int (nI i)), (2, .ref (ad 86)), (1, .ref (ad 69)), (0, .ref b)] [.int r, .int r] u2
  exact gl_eqI (tgt := 1486) dL_law_448 (by decide) hk
set_option maxHeartbeats 4000000 in
set_option maxRecDepth 100000 in
theorem case_7 {X : Cx} {ad : Nat → Nat} {b L : Nat} {xs : Nat → Int32} {i : Nat} (hi : i + 6 ≤ L) (hL : L ≤ 3072) {u u1 u2 : Uw} {r : Int32} (h1 : f_X5_pilgrim (xs (i + 1)) (xs (i + 2)) u = some (r, u1)) (h2 : f_X6_pilgrim (xs (i + 1)) (xs (i + 2)) u1 = some (r, u2)) (hk : Gl X ad b L xs 1486 [(3, .int (nI i)), (2, .ref (ad 86)), (1, .ref (ad 69)), (0, .ref b)] [] u2) : Gl X ad b L xs 453 [(3, .int (nI i)), (2, .ref (ad 86)), (1, .ref (ad 69)), (0, .ref b)] [] u := by
  refine gl_aload_n 2 rfl dL_law_453 rfl ?_
  refine gl_aload_n 3 rfl dL_law_454 rfl ?_
  refine gl_iload_n 0 rfl dL_law_455 rfl ?_
  refine gl_iconst (v := (1 : Int32)) dL_law_456 (by decide) ?_
  refine gl_iadd dL_law_457 ?_
  refine gl_sld (i + 1) (nI_add i 1) (by omega) (by omega) dL_law_458 ?_
  refine gl_aload_n 3 rfl dL_law_459 rfl ?_
  refine gl_iload_n 0 rfl dL_law_460 rfl ?_
  refine gl_iconst (v := (2 : Int32)) dL_law_461 (by decide) ?_
  refine gl_iadd dL_law_462 ?_
  refine gl_sld (i + 2) (nI_add i 2) (by omega) (by omega) dL_law_463 ?_
  refine gl_call (As := fun ad => [.int (xs (i + 1)), .int (xs (i + 2))]) (g_X5_pilgrim (xs (i + 1)) (xs (i + 2)) u) h1 mv_X5_pilgrim clX5 kt_69 lw14 rfl ⟨Nat.le_of_ble_eq_true rfl, Nat.le_of_ble_eq_true rfl⟩ rfl (Nat.le_of_ble_eq_true rfl) dL_law_464 ?_
  show Gl X ad b L xs 467 [(3, .int (nI i)), (2, .ref (ad 86)), (1, .ref (ad 69)), (0, .ref b)] [.int r] u1
  refine gl_aload_n 1 rfl dL_law_467 rfl ?_
  refine gl_aload_n 3 rfl dL_law_468 rfl ?_
  refine gl_iload_n 0 rfl dL_law_469 rfl ?_
  refine gl_iconst (v := (1 : Int32)) dL_law_470 (by decide) ?_
  refine gl_iadd dL_law_471 ?_
  refine gl_sld (i + 1) (nI_add i 1) (by omega) (by omega) dL_law_472 ?_
  refine gl_aload_n 3 rfl dL_law_473 rfl ?_
  refine gl_iload_n 0 rfl dL_law_474 rfl ?_
  refine gl_iconst (v := (2 : Int32)) dL_law_475 (by decide) ?_
  refine gl_iadd dL_law_476 ?_
  refine gl_sld (i + 2) (nI_add i 2) (by omega) (by omega) dL_law_477 ?_
  refine gl_call (As := fun ad => [.int (xs (i + 1)), .int (xs (i + 2))]) (g_X6_pilgrim (xs (i + 1)) (xs (i + 2)) u1) h2 mv_X6_pilgrim clX6 kt_86 lw15 rfl ⟨Nat.le_of_ble_eq_true rfl, Nat.le_of_ble_eq_true rfl⟩ rfl (Nat.le_of_ble_eq_true rfl) dL_law_478 ?_
  show Gl X ad b L xs 481 [(3, .int (nI i)), (2, .ref (ad 86)), (1, .ref (ad 69)), (0, .ref b)] [.int r, .int r] u2
  exact gl_eqI (tgt := 1486) dL_law_481 (by decide) hk
set_option maxHeartbeats 4000000 in
set_option maxRecDepth 100000 in
theorem case_8 {X : Cx} {ad : Nat → Nat} {b L : Nat} {xs : Nat → Int32} {i : Nat} (hi : i + 6 ≤ L) (hL : L ≤ 3072) {u u1 u2 : Uw} {r : Int32} (h1 : f_X5_about (xs (i + 1)) (xs (i + 2)) u = some (r, u1)) (h2 : f_X6_about (xs (i + 1)) (xs (i + 2)) u1 = some (r, u2)) (hk : Gl X ad b L xs 1486 [(3, .int (nI i)), (2, .ref (ad 86)), (1, .ref (ad 69)), (0, .ref b)] [] u2) : Gl X ad b L xs 486 [(3, .int (nI i)), (2, .ref (ad 86)), (1, .ref (ad 69)), (0, .ref b)] [] u := by
  refine gl_aload_n 2 rfl dL_law_486 rfl ?_
  refine gl_aload_n 3 rfl dL_law_487 rfl ?_
  refine gl_iload_n 0 rfl dL_law_488 rfl ?_
  refine gl_iconst (v := (1 : Int32)) dL_law_489 (by decide) ?_
  refine gl_iadd dL_law_490 ?_
  refine gl_sld (i + 1) (nI_add i 1) (by omega) (by omega) dL_law_491 ?_
  refine gl_aload_n 3 rfl dL_law_492 rfl ?_
  refine gl_iload_n 0 rfl dL_law_493 rfl ?_
  refine gl_iconst (v := (2 : Int32)) dL_law_494 (by decide) ?_
  refine gl_iadd dL_law_495 ?_
  refine gl_sld (i + 2) (nI_add i 2) (by omega) (by omega) dL_law_496 ?_
  refine gl_call (As := fun ad => [.int (xs (i + 1)), .int (xs (i + 2))]) (g_X5_about (xs (i + 1)) (xs (i + 2)) u) h1 mv_X5_about clX5 kt_69 lw16 rfl ⟨Nat.le_of_ble_eq_true rfl, Nat.le_of_ble_eq_true rfl⟩ rfl (Nat.le_of_ble_eq_true rfl) dL_law_497 ?_
  show Gl X ad b L xs 500 [(3, .int (nI i)), (2, .ref (ad 86)), (1, .ref (ad 69)), (0, .ref b)] [.int r] u1
  refine gl_aload_n 1 rfl dL_law_500 rfl ?_
  refine gl_aload_n 3 rfl dL_law_501 rfl ?_
  refine gl_iload_n 0 rfl dL_law_502 rfl ?_
  refine gl_iconst (v := (1 : Int32)) dL_law_503 (by decide) ?_
  refine gl_iadd dL_law_504 ?_
  refine gl_sld (i + 1) (nI_add i 1) (by omega) (by omega) dL_law_505 ?_
  refine gl_aload_n 3 rfl dL_law_506 rfl ?_
  refine gl_iload_n 0 rfl dL_law_507 rfl ?_
  refine gl_iconst (v := (2 : Int32)) dL_law_508 (by decide) ?_
  refine gl_iadd dL_law_509 ?_
  refine gl_sld (i + 2) (nI_add i 2) (by omega) (by omega) dL_law_510 ?_
  refine gl_call (As := fun ad => [.int (xs (i + 1)), .int (xs (i + 2))]) (g_X6_about (xs (i + 1)) (xs (i + 2)) u1) h2 mv_X6_about clX6 kt_86 lw17 rfl ⟨Nat.le_of_ble_eq_true rfl, Nat.le_of_ble_eq_true rfl⟩ rfl (Nat.le_of_ble_eq_true rfl) dL_law_511 ?_
  show Gl X ad b L xs 514 [(3, .int (nI i)), (2, .ref (ad 86)), (1, .ref (ad 69)), (0, .ref b)] [.int r, .int r] u2
  exact gl_eqI (tgt := 1486) dL_law_514 (by decide) hk
set_option maxHeartbeats 4000000 in
set_option maxRecDepth 100000 in
theorem case_9 {X : Cx} {ad : Nat → Nat} {b L : Nat} {xs : Nat → Int32} {i : Nat} (hi : i + 6 ≤ L) (hL : L ≤ 3072) {u u1 u2 : Uw} {r : Int32} (h1 : f_X5_mind (xs (i + 1)) (xs (i + 2)) (xs (i + 3)) u = some (r, u1)) (h2 : f_X6_mind (xs (i + 1)) (xs (i + 2)) (xs (i + 3)) u1 = some (r, u2)) (hk : Gl X ad b L xs 1486 [(3, .int (nI i)), (2, .ref (ad 86)), (1, .ref (ad 69)), (0, .ref b)] [] u2) : Gl X ad b L xs 519 [(3, .int (nI i)), (2, .ref (ad 86)), (1, .ref (ad 69)), (0, .ref b)] [] u := by
  refine gl_aload_n 2 rfl dL_law_519 rfl ?_
  refine gl_aload_n 3 rfl dL_law_520 rfl ?_
  refine gl_iload_n 0 rfl dL_law_521 rfl ?_
  refine gl_iconst (v := (1 : Int32)) dL_law_522 (by decide) ?_
  refine gl_iadd dL_law_523 ?_
  refine gl_sld (i + 1) (nI_add i 1) (by omega) (by omega) dL_law_524 ?_
  refine gl_aload_n 3 rfl dL_law_525 rfl ?_
  refine gl_iload_n 0 rfl dL_law_526 rfl ?_
  refine gl_iconst (v := (2 : Int32)) dL_law_527 (by decide) ?_
  refine gl_iadd dL_law_528 ?_
  refine gl_sld (i + 2) (nI_add i 2) (by omega) (by omega) dL_law_529 ?_
  refine gl_aload_n 3 rfl dL_law_530 rfl ?_
  refine gl_iload_n 0 rfl dL_law_531 rfl ?_
  refine gl_iconst (v := (3 : Int32)) dL_law_532 (by decide) ?_
  refine gl_iadd dL_law_533 ?_
  refine gl_sld (i + 3) (nI_add i 3) (by omega) (by omega) dL_law_534 ?_
  refine gl_call (As := fun ad => [.int (xs (i + 1)), .int (xs (i + 2)), .int (xs (i + 3))]) (g_X5_mind (xs (i + 1)) (xs (i + 2)) (xs (i + 3)) u) h1 mv_X5_mind clX5 kt_69 lw18 rfl ⟨Nat.le_of_ble_eq_true rfl, Nat.le_of_ble_eq_true rfl⟩ rfl (Nat.le_of_ble_eq_true rfl) dL_law_535 ?_
  show Gl X ad b L xs 538 [(3, .int (nI i)), (2, .ref (ad 86)), (1, .ref (ad 69)), (0, .ref b)] [.int r] u1
  refine gl_aload_n 1 rfl dL_law_538 rfl ?_
  refine gl_aload_n 3 rfl dL_law_539 rfl ?_
  refine gl_iload_n 0 rfl dL_law_540 rfl ?_
  refine gl_iconst (v := (1 : Int32)) dL_law_541 (by decide) ?_
  refine gl_iadd dL_law_542 ?_
  refine gl_sld (i + 1) (nI_add i 1) (by omega) (by omega) dL_law_543 ?_
  refine gl_aload_n 3 rfl dL_law_544 rfl ?_
  refine gl_iload_n 0 rfl dL_law_545 rfl ?_
  refine gl_iconst (v := (2 : Int32)) dL_law_546 (by decide) ?_
  refine gl_iadd dL_law_547 ?_
  refine gl_sld (i + 2) (nI_add i 2) (by omega) (by omega) dL_law_548 ?_
  refine gl_aload_n 3 rfl dL_law_549 rfl ?_
  refine gl_iload_n 0 rfl dL_law_550 rfl ?_
  refine gl_iconst (v := (3 : Int32)) dL_law_551 (by decide) ?_
  refine gl_iadd dL_law_552 ?_
  refine gl_sld (i + 3) (nI_add i 3) (by omega) (by omega) dL_law_553 ?_
  refine gl_call (As := fun ad => [.int (xs (i + 1)), .int (xs (i + 2)), .int (xs (i + 3))]) (g_X6_mind (xs (i + 1)) (xs (i + 2)) (xs (i + 3)) u1) h2 mv_X6_mind clX6 kt_86 lw19 rfl ⟨Nat.le_of_ble_eq_true rfl, Nat.le_of_ble_eq_true rfl⟩ rfl (Nat.le_of_ble_eq_true rfl) dL_law_554 ?_
  show Gl X ad b L xs 557 [(3, .int (nI i)), (2, .ref (ad 86)), (1, .ref (ad 69)), (0, .ref b)] [.int r, .int r] u2
  exact gl_eqI (tgt := 1486) dL_law_557 (by decide) hk
set_option maxHeartbeats 4000000 in
set_option maxRecDepth 100000 in
theorem case_10 {X : Cx} {ad : Nat → Nat} {b L : Nat} {xs : Nat → Int32} {i : Nat} (hi : i + 6 ≤ L) (hL : L ≤ 3072) {u u1 u2 : Uw} {r : Int32} (h1 : f_X5_drink (xs (i + 1)) (xs (i + 2)) u = some (r, u1)) (h2 : f_X6_drink (xs (i + 1)) (xs (i + 2)) u1 = some (r, u2)) (hk : Gl X ad b L xs 1486 [(3, .int (nI i)), (2, .ref (ad 86)), (1, .ref (ad 69)), (0, .ref b)] [] u2) : Gl X ad b L xs 562 [(3, .int (nI i)), (2, .ref (ad 86)), (1, .ref (ad 69)), (0, .ref b)] [] u := by
  refine gl_aload_n 2 rfl dL_law_562 rfl ?_
  refine gl_aload_n 3 rfl dL_law_563 rfl ?_
  refine gl_iload_n 0 rfl dL_law_564 rfl ?_
  refine gl_iconst (v := (1 : Int32)) dL_law_565 (by decide) ?_
  refine gl_iadd dL_law_566 ?_
  refine gl_sld (i + 1) (nI_add i 1) (by omega) (by omega) dL_law_567 ?_
  refine gl_aload_n 3 rfl dL_law_568 rfl ?_
  refine gl_iload_n 0 rfl dL_law_569 rfl ?_
  refine gl_iconst (v := (2 : Int32)) dL_law_570 (by decide) ?_
  refine gl_iadd dL_law_571 ?_
  refine gl_sld (i + 2) (nI_add i 2) (by omega) (by omega) dL_law_572 ?_
  refine gl_call (As := fun ad => [.int (xs (i + 1)), .int (xs (i + 2))]) (g_X5_drink (xs (i + 1)) (xs (i + 2)) u) h1 mv_X5_drink clX5 kt_69 lw20 rfl ⟨Nat.le_of_ble_eq_true rfl, Nat.le_of_ble_eq_true rfl⟩ rfl (Nat.le_of_ble_eq_true rfl) dL_law_573 ?_
  show Gl X ad b L xs 576 [(3, .int (nI i)), (2, .ref (ad 86)), (1, .ref (ad 69)), (0, .ref b)] [.int r] u1
  refine gl_aload_n 1 rfl dL_law_576 rfl ?_
  refine gl_aload_n 3 rfl dL_law_577 rfl ?_
  refine gl_iload_n 0 rfl dL_law_578 rfl ?_
  refine gl_iconst (v := (1 : Int32)) dL_law_579 (by decide) ?_
  refine gl_iadd dL_law_580 ?_
  refine gl_sld (i + 1) (nI_add i 1) (by omega) (by omega) dL_law_581 ?_
  refine gl_aload_n 3 rfl dL_law_582 rfl ?_
  refine gl_iload_n 0 rfl dL_law_583 rfl ?_
  refine gl_iconst (v := (2 : Int32)) dL_law_584 (by decide) ?_
  refine gl_iadd dL_law_585 ?_
  refine gl_sld (i + 2) (nI_add i 2) (by omega) (by omega) dL_law_586 ?_
  refine gl_call (As := fun ad => [.int (xs (i + 1)), .int (xs (i + 2))]) (g_X6_drink (xs (i + 1)) (xs (i + 2)) u1) h2 mv_X6_drink clX6 kt_86 lw21 rfl ⟨Nat.le_of_ble_eq_true rfl, Nat.le_of_ble_eq_true rfl⟩ rfl (Nat.le_of_ble_eq_true rfl) dL_law_587 ?_
  show Gl X ad b L xs 590 [(3, .int (nI i)), (2, .ref (ad 86)), (1, .ref (ad 69)), (0, .ref b)] [.int r, .int r] u2
  exact gl_eqI (tgt := 1486) dL_law_590 (by decide) hk
set_option maxHeartbeats 4000000 in
set_option maxRecDepth 100000 in
theorem case_11 {X : Cx} {ad : Nat → Nat} {b L : Nat} {xs : Nat → Int32} {i : Nat} (hi : i + 6 ≤ L) (hL : L ≤ 3072) {u u1 u2 : Uw} {r : Int32} (h1 : f_X5_bathe (xs (i + 1)) u = some (r, u1)) (h2 : f_X6_bathe (xs (i + 1)) u1 = some (r, u2)) (hk : Gl X ad b L xs 1486 [(3, .int (nI i)), (2, .ref (ad 86)), (1, .ref (ad 69)), (0, .ref b)] [] u2) : Gl X ad b L xs 595 [(3, .int (nI i)), (2, .ref (ad 86)), (1, .ref (ad 69)), (0, .ref b)] [] u := by
  refine gl_aload_n 2 rfl dL_law_595 rfl ?_
  refine gl_aload_n 3 rfl dL_law_596 rfl ?_
  refine gl_iload_n 0 rfl dL_law_597 rfl ?_
  refine gl_iconst (v := (1 : Int32)) dL_law_598 (by decide) ?_
  refine gl_iadd dL_law_599 ?_
  refine gl_sld (i + 1) (nI_add i 1) (by omega) (by omega) dL_law_600 ?_
  refine gl_call (As := fun ad => [.int (xs (i + 1))]) (g_X5_bathe (xs (i + 1)) u) h1 mv_X5_bathe clX5 kt_69 lw22 rfl ⟨Nat.le_of_ble_eq_true rfl, Nat.le_of_ble_eq_true rfl⟩ rfl (Nat.le_of_ble_eq_true rfl) dL_law_601 ?_
  show Gl X ad b L xs 604 [(3, .int (nI i)), (2, .ref (ad 86)), (1, .ref (ad 69)), (0, .ref b)] [.int r] u1
  refine gl_aload_n 1 rfl dL_law_604 rfl ?_
  refine gl_aload_n 3 rfl dL_law_605 rfl ?_
  refine gl_iload_n 0 rfl dL_law_606 rfl ?_
  refine gl_iconst (v := (1 : Int32)) dL_law_607 (by decide) ?_
  refine gl_iadd dL_law_608 ?_
  refine gl_sld (i + 1) (nI_add i 1) (by omega) (by omega) dL_law_609 ?_
  refine gl_call (As := fun ad => [.int (xs (i + 1))]) (g_X6_bathe (xs (i + 1)) u1) h2 mv_X6_bathe clX6 kt_86 lw23 rfl ⟨Nat.le_of_ble_eq_true rfl, Nat.le_of_ble_eq_true rfl⟩ rfl (Nat.le_of_ble_eq_true rfl) dL_law_610 ?_
  show Gl X ad b L xs 613 [(3, .int (nI i)), (2, .ref (ad 86)), (1, .ref (ad 69)), (0, .ref b)] [.int r, .int r] u2
  exact gl_eqI (tgt := 1486) dL_law_613 (by decide) hk
set_option maxHeartbeats 4000000 in
set_option maxRecDepth 100000 in
theorem case_12 {X : Cx} {ad : Nat → Nat} {b L : Nat} {xs : Nat → Int32} {i : Nat} (hi : i + 6 ≤ L) (hL : L ≤ 3072) {u u1 u2 : Uw} {r : Int32} (h1 : f_X5_days (xs (i + 1)) u = some (r, u1)) (h2 : f_X6_days (xs (i + 1)) u1 = some (r, u2)) (hk : Gl X ad b L xs 1486 [(3, .int (nI i)), (2, .ref (ad 86)), (1, .ref (ad 69)), (0, .ref b)] [] u2) : Gl X ad b L xs 618 [(3, .int (nI i)), (2, .ref (ad 86)), (1, .ref (ad 69)), (0, .ref b)] [] u := by
  refine gl_aload_n 2 rfl dL_law_618 rfl ?_
  refine gl_aload_n 3 rfl dL_law_619 rfl ?_
  refine gl_iload_n 0 rfl dL_law_620 rfl ?_
  refine gl_iconst (v := (1 : Int32)) dL_law_621 (by decide) ?_
  refine gl_iadd dL_law_622 ?_
  refine gl_sld (i + 1) (nI_add i 1) (by omega) (by omega) dL_law_623 ?_
  refine gl_call (As := fun ad => [.int (xs (i + 1))]) (g_X5_days (xs (i + 1)) u) h1 mv_X5_days clX5 kt_69 lw24 rfl ⟨Nat.le_of_ble_eq_true rfl, Nat.le_of_ble_eq_true rfl⟩ rfl (Nat.le_of_ble_eq_true rfl) dL_law_624 ?_
  show Gl X ad b L xs 627 [(3, .int (nI i)), (2, .ref (ad 86)), (1, .ref (ad 69)), (0, .ref b)] [.int r] u1
  refine gl_aload_n 1 rfl dL_law_627 rfl ?_
  refine gl_aload_n 3 rfl dL_law_628 rfl ?_
  refine gl_iload_n 0 rfl dL_law_629 rfl ?_
  refine gl_iconst (v := (1 : Int32)) dL_law_630 (by decide) ?_
  refine gl_iadd dL_law_631 ?_
  refine gl_sld (i + 1) (nI_add i 1) (by omega) (by omega) dL_law_632 ?_
  refine gl_call (As := fun ad => [.int (xs (i + 1))]) (g_X6_days (xs (i + 1)) u1) h2 mv_X6_days clX6 kt_86 lw25 rfl ⟨Nat.le_of_ble_eq_true rfl, Nat.le_of_ble_eq_true rfl⟩ rfl (Nat.le_of_ble_eq_true rfl) dL_law_633 ?_
  show Gl X ad b L xs 636 [(3, .int (nI i)), (2, .ref (ad 86)), (1, .ref (ad 69)), (0, .ref b)] [.int r, .int r] u2
  exact gl_eqI (tgt := 1486) dL_law_636 (by decide) hk
set_option maxHeartbeats 4000000 in
set_option maxRecDepth 100000 in
theorem case_13 {X : Cx} {ad : Nat → Nat} {b L : Nat} {xs : Nat → Int32} {i : Nat} (hi : i + 6 ≤ L) (hL : L ≤ 3072) {u u1 u2 : Uw} {r : Int32} (h1 : f_X5_now (xs (i + 1)) u = some (r, u1)) (h2 : f_X6_now (xs (i + 1)) u1 = some (r, u2)) (hk : Gl X ad b L xs 1486 [(3, .int (nI i)), (2, .ref (ad 86)), (1, .ref (ad 69)), (0, .ref b)] [] u2) : Gl X ad b L xs 641 [(3, .int (nI i)), (2, .ref (ad 86)), (1, .ref (ad 69)), (0, .ref b)] [] u := by
  refine gl_aload_n 2 rfl dL_law_641 rfl ?_
  refine gl_aload_n 3 rfl dL_law_642 rfl ?_
  refine gl_iload_n 0 rfl dL_law_643 rfl ?_
  refine gl_iconst (v := (1 : Int32)) dL_law_644 (by decide) ?_
  refine gl_iadd dL_law_645 ?_
  refine gl_sld (i + 1) (nI_add i 1) (by omega) (by omega) dL_law_646 ?_
  refine gl_call (As := fun ad => [.int (xs (i + 1))]) (g_X5_now (xs (i + 1)) u) h1 mv_X5_now clX5 kt_69 lw26 rfl ⟨Nat.le_of_ble_eq_true rfl, Nat.le_of_ble_eq_true rfl⟩ rfl (Nat.le_of_ble_eq_true rfl) dL_law_647 ?_
  show Gl X ad b L xs 650 [(3, .int (nI i)), (2, .ref (ad 86)), (1, .ref (ad 69)), (0, .ref b)] [.int r] u1
  refine gl_aload_n 1 rfl dL_law_650 rfl ?_
  refine gl_aload_n 3 rfl dL_law_651 rfl ?_
  refine gl_iload_n 0 rfl dL_law_652 rfl ?_
  refine gl_iconst (v := (1 : Int32)) dL_law_653 (by decide) ?_
  refine gl_iadd dL_law_654 ?_
  refine gl_sld (i + 1) (nI_add i 1) (by omega) (by omega) dL_law_655 ?_
  refine gl_call (As := fun ad => [.int (xs (i + 1))]) (g_X6_now (xs (i + 1)) u1) h2 mv_X6_now clX6 kt_86 lw27 rfl ⟨Nat.le_of_ble_eq_true rfl, Nat.le_of_ble_eq_true rfl⟩ rfl (Nat.le_of_ble_eq_true rfl) dL_law_656 ?_
  show Gl X ad b L xs 659 [(3, .int (nI i)), (2, .ref (ad 86)), (1, .ref (ad 69)), (0, .ref b)] [.int r, .int r] u2
  exact gl_eqI (tgt := 1486) dL_law_659 (by decide) hk
set_option maxHeartbeats 4000000 in
set_option maxRecDepth 100000 in
theorem case_14 {X : Cx} {ad : Nat → Nat} {b L : Nat} {xs : Nat → Int32} {i : Nat} (hi : i + 6 ≤ L) (hL : L ≤ 3072) {u u1 u2 : Uw} {r : Int32} (h1 : f_X5_on (xs (i + 1)) (xs (i + 2)) (xs (i + 3)) u = some (r, u1)) (h2 : f_X6_on (xs (i + 1)) (xs (i + 2)) (xs (i + 3)) u1 = some (r, u2)) (hk : Gl X ad b L xs 1486 [(3, .int (nI i)), (2, .ref (ad 86)), (1, .ref (ad 69)), (0, .ref b)] [] u2) : Gl X ad b L xs 664 [(3, .int (nI i)), (2, .ref (ad 86)), (1, .ref (ad 69)), (0, .ref b)] [] u := by
  refine gl_aload_n 2 rfl dL_law_664 rfl ?_
  refine gl_aload_n 3 rfl dL_law_665 rfl ?_
  refine gl_iload_n 0 rfl dL_law_666 rfl ?_
  refine gl_iconst (v := (1 : Int32)) dL_law_667 (by decide) ?_
  refine gl_iadd dL_law_668 ?_
  refine gl_sld (i + 1) (nI_add i 1) (by omega) (by omega) dL_law_669 ?_
  refine gl_aload_n 3 rfl dL_law_670 rfl ?_
  refine gl_iload_n 0 rfl dL_law_671 rfl ?_
  refine gl_iconst (v := (2 : Int32)) dL_law_672 (by decide) ?_
  refine gl_iadd dL_law_673 ?_
  refine gl_sld (i + 2) (nI_add i 2) (by omega) (by omega) dL_law_674 ?_
  refine gl_aload_n 3 rfl dL_law_675 rfl ?_
  refine gl_iload_n 0 rfl dL_law_676 rfl ?_
  refine gl_iconst (v := (3 : Int32)) dL_law_677 (by decide) ?_
  refine gl_iadd dL_law_678 ?_
  refine gl_sld (i + 3) (nI_add i 3) (by omega) (by omega) dL_law_679 ?_
  refine gl_call (As := fun ad => [.int (xs (i + 1)), .int (xs (i + 2)), .int (xs (i + 3))]) (g_X5_on (xs (i + 1)) (xs (i + 2)) (xs (i + 3)) u) h1 mv_X5_on clX5 kt_69 lw28 rfl ⟨Nat.le_of_ble_eq_true rfl, Nat.le_of_ble_eq_true rfl⟩ rfl (Nat.le_of_ble_eq_true rfl) dL_law_680 ?_
  show Gl X ad b L xs 683 [(3, .int (nI i)), (2, .ref (ad 86)), (1, .ref (ad 69)), (0, .ref b)] [.int r] u1
  refine gl_aload_n 1 rfl dL_law_683 rfl ?_
  refine gl_aload_n 3 rfl dL_law_684 rfl ?_
  refine gl_iload_n 0 rfl dL_law_685 rfl ?_
  refine gl_iconst (v := (1 : Int32)) dL_law_686 (by decide) ?_
  refine gl_iadd dL_law_687 ?_
  refine gl_sld (i + 1) (nI_add i 1) (by omega) (by omega) dL_law_688 ?_
  refine gl_aload_n 3 rfl dL_law_689 rfl ?_
  refine gl_iload_n 0 rfl dL_law_690 rfl ?_
  refine gl_iconst (v := (2 : Int32)) dL_law_691 (by decide) ?_
  refine gl_iadd dL_law_692 ?_
  refine gl_sld (i + 2) (nI_add i 2) (by omega) (by omega) dL_law_693 ?_
  refine gl_aload_n 3 rfl dL_law_694 rfl ?_
  refine gl_iload_n 0 rfl dL_law_695 rfl ?_
  refine gl_iconst (v := (3 : Int32)) dL_law_696 (by decide) ?_
  refine gl_iadd dL_law_697 ?_
  refine gl_sld (i + 3) (nI_add i 3) (by omega) (by omega) dL_law_698 ?_
  refine gl_call (As := fun ad => [.int (xs (i + 1)), .int (xs (i + 2)), .int (xs (i + 3))]) (g_X6_on (xs (i + 1)) (xs (i + 2)) (xs (i + 3)) u1) h2 mv_X6_on clX6 kt_86 lw29 rfl ⟨Nat.le_of_ble_eq_true rfl, Nat.le_of_ble_eq_true rfl⟩ rfl (Nat.le_of_ble_eq_true rfl) dL_law_699 ?_
  show Gl X ad b L xs 702 [(3, .int (nI i)), (2, .ref (ad 86)), (1, .ref (ad 69)), (0, .ref b)] [.int r, .int r] u2
  exact gl_eqI (tgt := 1486) dL_law_702 (by decide) hk
set_option maxHeartbeats 4000000 in
set_option maxRecDepth 100000 in
theorem case_15 {X : Cx} {ad : Nat → Nat} {b L : Nat} {xs : Nat → Int32} {i : Nat} (hi : i + 6 ≤ L) (hL : L ≤ 3072) {u u1 u2 : Uw} {r : Int32} (h1 : f_X5_well (xs (i + 1)) u = some (r, u1)) (h2 : f_X6_well (xs (i + 1)) u1 = some (r, u2)) (hk : Gl X ad b L xs 1486 [(3, .int (nI i)), (2, .ref (ad 86)), (1, .ref (ad 69)), (0, .ref b)] [] u2) : Gl X ad b L xs 707 [(3, .int (nI i)), (2, .ref (ad 86)), (1, .ref (ad 69)), (0, .ref b)] [] u := by
  refine gl_aload_n 2 rfl dL_law_707 rfl ?_
  refine gl_aload_n 3 rfl dL_law_708 rfl ?_
  refine gl_iload_n 0 rfl dL_law_709 rfl ?_
  refine gl_iconst (v := (1 : Int32)) dL_law_710 (by decide) ?_
  refine gl_iadd dL_law_711 ?_
  refine gl_sld (i + 1) (nI_add i 1) (by omega) (by omega) dL_law_712 ?_
  refine gl_call (As := fun ad => [.int (xs (i + 1))]) (g_X5_well (xs (i + 1)) u) h1 mv_X5_well clX5 kt_69 lw30 rfl ⟨Nat.le_of_ble_eq_true rfl, Nat.le_of_ble_eq_true rfl⟩ rfl (Nat.le_of_ble_eq_true rfl) dL_law_713 ?_
  show Gl X ad b L xs 716 [(3, .int (nI i)), (2, .ref (ad 86)), (1, .ref (ad 69)), (0, .ref b)] [.int r] u1
  refine gl_aload_n 1 rfl dL_law_716 rfl ?_
  refine gl_aload_n 3 rfl dL_law_717 rfl ?_
  refine gl_iload_n 0 rfl dL_law_718 rfl ?_
  refine gl_iconst (v := (1 : Int32)) dL_law_719 (by decide) ?_
  refine gl_iadd dL_law_720 ?_
  refine gl_sld (i + 1) (nI_add i 1) (by omega) (by omega) dL_law_721 ?_
  refine gl_call (As := fun ad => [.int (xs (i + 1))]) (g_X6_well (xs (i + 1)) u1) h2 mv_X6_well clX6 kt_86 lw31 rfl ⟨Nat.le_of_ble_eq_true rfl, Nat.le_of_ble_eq_true rfl⟩ rfl (Nat.le_of_ble_eq_true rfl) dL_law_722 ?_
  show Gl X ad b L xs 725 [(3, .int (nI i)), (2, .ref (ad 86)), (1, .ref (ad 69)), (0, .ref b)] [.int r, .int r] u2
  exact gl_eqI (tgt := 1486) dL_law_725 (by decide) hk
set_option maxHeartbeats 4000000 in
set_option maxRecDepth 100000 in
theorem case_16 {X : Cx} {ad : Nat → Nat} {b L : Nat} {xs : Nat → Int32} {i : Nat} (hi : i + 6 ≤ L) (hL : L ≤ 3072) {u u1 u2 : Uw} {r : Int32} (h1 : f_X5_next (xs (i + 1)) u = some (r, u1)) (h2 : f_X6_next (xs (i + 1)) u1 = some (r, u2)) (hk : Gl X ad b L xs 1486 [(3, .int (nI i)), (2, .ref (ad 86)), (1, .ref (ad 69)), (0, .ref b)] [] u2) : Gl X ad b L xs 730 [(3, .int (nI i)), (2, .ref (ad 86)), (1, .ref (ad 69)), (0, .ref b)] [] u := by
  refine gl_aload_n 2 rfl dL_law_730 rfl ?_
  refine gl_aload_n 3 rfl dL_law_731 rfl ?_
  refine gl_iload_n 0 rfl dL_law_732 rfl ?_
  refine gl_iconst (v := (1 : Int32)) dL_law_733 (by decide) ?_
  refine gl_iadd dL_law_734 ?_
  refine gl_sld (i + 1) (nI_add i 1) (by omega) (by omega) dL_law_735 ?_
  refine gl_call (As := fun ad => [.int (xs (i + 1))]) (g_X5_next (xs (i + 1)) u) h1 mv_X5_next clX5 kt_69 lw32 rfl ⟨Nat.le_of_ble_eq_true rfl, Nat.le_of_ble_eq_true rfl⟩ rfl (Nat.le_of_ble_eq_true rfl) dL_law_736 ?_
  show Gl X ad b L xs 739 [(3, .int (nI i)), (2, .ref (ad 86)), (1, .ref (ad 69)), (0, .ref b)] [.int r] u1
  refine gl_aload_n 1 rfl dL_law_739 rfl ?_
  refine gl_aload_n 3 rfl dL_law_740 rfl ?_
  refine gl_iload_n 0 rfl dL_law_741 rfl ?_
  refine gl_iconst (v := (1 : Int32)) dL_law_742 (by decide) ?_
  refine gl_iadd dL_law_743 ?_
  refine gl_sld (i + 1) (nI_add i 1) (by omega) (by omega) dL_law_744 ?_
  refine gl_call (As := fun ad => [.int (xs (i + 1))]) (g_X6_next (xs (i + 1)) u1) h2 mv_X6_next clX6 kt_86 lw33 rfl ⟨Nat.le_of_ble_eq_true rfl, Nat.le_of_ble_eq_true rfl⟩ rfl (Nat.le_of_ble_eq_true rfl) dL_law_745 ?_
  show Gl X ad b L xs 748 [(3, .int (nI i)), (2, .ref (ad 86)), (1, .ref (ad 69)), (0, .ref b)] [.int r, .int r] u2
  exact gl_eqI (tgt := 1486) dL_law_748 (by decide) hk
set_option maxHeartbeats 4000000 in
set_option maxRecDepth 100000 in
theorem case_17 {X : Cx} {ad : Nat → Nat} {b L : Nat} {xs : Nat → Int32} {i : Nat} (hi : i + 6 ≤ L) (hL : L ≤ 3072) {u u1 u2 : Uw} {r : Int32} (h1 : f_X5_agree (xs (i + 1)) (xs (i + 2)) (xs (i + 3)) u = some (r, u1)) (h2 : f_X6_agree (xs (i + 1)) (xs (i + 2)) (xs (i + 3)) u1 = some (r, u2)) (hk : Gl X ad b L xs 1486 [(3, .int (nI i)), (2, .ref (ad 86)), (1, .ref (ad 69)), (0, .ref b)] [] u2) : Gl X ad b L xs 753 [(3, .int (nI i)), (2, .ref (ad 86)), (1, .ref (ad 69)), (0, .ref b)] [] u := by
  refine gl_aload_n 2 rfl dL_law_753 rfl ?_
  refine gl_aload_n 3 rfl dL_law_754 rfl ?_
  refine gl_iload_n 0 rfl dL_law_755 rfl ?_
  refine gl_iconst (v := (1 : Int32)) dL_law_756 (by decide) ?_
  refine gl_iadd dL_law_757 ?_
  refine gl_sld (i + 1) (nI_add i 1) (by omega) (by omega) dL_law_758 ?_
  refine gl_aload_n 3 rfl dL_law_759 rfl ?_
  refine gl_iload_n 0 rfl dL_law_760 rfl ?_
  refine gl_iconst (v := (2 : Int32)) dL_law_761 (by decide) ?_
  refine gl_iadd dL_law_762 ?_
  refine gl_sld (i + 2) (nI_add i 2) (by omega) (by omega) dL_law_763 ?_
  refine gl_aload_n 3 rfl dL_law_764 rfl ?_
  refine gl_iload_n 0 rfl dL_law_765 rfl ?_
  refine gl_iconst (v := (3 : Int32)) dL_law_766 (by decide) ?_
  refine gl_iadd dL_law_767 ?_
  refine gl_sld (i + 3) (nI_add i 3) (by omega) (by omega) dL_law_768 ?_
  refine gl_call (As := fun ad => [.int (xs (i + 1)), .int (xs (i + 2)), .int (xs (i + 3))]) (g_X5_agree (xs (i + 1)) (xs (i + 2)) (xs (i + 3)) u) h1 mv_X5_agree clX5 kt_69 lw34 rfl ⟨Nat.le_of_ble_eq_true rfl, Nat.le_of_ble_eq_true rfl⟩ rfl (Nat.le_of_ble_eq_true rfl) dL_law_769 ?_
  show Gl X ad b L xs 772 [(3, .int (nI i)), (2, .ref (ad 86)), (1, .ref (ad 69)), (0, .ref b)] [.int r] u1
  refine gl_aload_n 1 rfl dL_law_772 rfl ?_
  refine gl_aload_n 3 rfl dL_law_773 rfl ?_
  refine gl_iload_n 0 rfl dL_law_774 rfl ?_
  refine gl_iconst (v := (1 : Int32)) dL_law_775 (by decide) ?_
  refine gl_iadd dL_law_776 ?_
  refine gl_sld (i + 1) (nI_add i 1) (by omega) (by omega) dL_law_777 ?_
  refine gl_aload_n 3 rfl dL_law_778 rfl ?_
  refine gl_iload_n 0 rfl dL_law_779 rfl ?_
  refine gl_iconst (v := (2 : Int32)) dL_law_780 (by decide) ?_
  refine gl_iadd dL_law_781 ?_
  refine gl_sld (i + 2) (nI_add i 2) (by omega) (by omega) dL_law_782 ?_
  refine gl_aload_n 3 rfl dL_law_783 rfl ?_
  refine gl_iload_n 0 rfl dL_law_784 rfl ?_
  refine gl_iconst (v := (3 : Int32)) dL_law_785 (by decide) ?_
  refine gl_iadd dL_law_786 ?_
  refine gl_sld (i + 3) (nI_add i 3) (by omega) (by omega) dL_law_787 ?_
  refine gl_call (As := fun ad => [.int (xs (i + 1)), .int (xs (i + 2)), .int (xs (i + 3))]) (g_X6_agree (xs (i + 1)) (xs (i + 2)) (xs (i + 3)) u1) h2 mv_X6_agree clX6 kt_86 lw35 rfl ⟨Nat.le_of_ble_eq_true rfl, Nat.le_of_ble_eq_true rfl⟩ rfl (Nat.le_of_ble_eq_true rfl) dL_law_788 ?_
  show Gl X ad b L xs 791 [(3, .int (nI i)), (2, .ref (ad 86)), (1, .ref (ad 69)), (0, .ref b)] [.int r, .int r] u2
  exact gl_eqI (tgt := 1486) dL_law_791 (by decide) hk
set_option maxHeartbeats 4000000 in
set_option maxRecDepth 100000 in
theorem case_18 {X : Cx} {ad : Nat → Nat} {b L : Nat} {xs : Nat → Int32} {i : Nat} (hi : i + 6 ≤ L) (hL : L ≤ 3072) {u u1 u2 : Uw} {r : Int32} (h1 : f_X5_row (xs (i + 1)) (xs (i + 2)) (xs (i + 3)) u = some (r, u1)) (h2 : f_X6_row (xs (i + 1)) (xs (i + 2)) (xs (i + 3)) u1 = some (r, u2)) (hk : Gl X ad b L xs 1486 [(3, .int (nI i)), (2, .ref (ad 86)), (1, .ref (ad 69)), (0, .ref b)] [] u2) : Gl X ad b L xs 796 [(3, .int (nI i)), (2, .ref (ad 86)), (1, .ref (ad 69)), (0, .ref b)] [] u := by
  refine gl_aload_n 2 rfl dL_law_796 rfl ?_
  refine gl_aload_n 3 rfl dL_law_797 rfl ?_
  refine gl_iload_n 0 rfl dL_law_798 rfl ?_
  refine gl_iconst (v := (1 : Int32)) dL_law_799 (by decide) ?_
  refine gl_iadd dL_law_800 ?_
  refine gl_sld (i + 1) (nI_add i 1) (by omega) (by omega) dL_law_801 ?_
  refine gl_aload_n 3 rfl dL_law_802 rfl ?_
  refine gl_iload_n 0 rfl dL_law_803 rfl ?_
  refine gl_iconst (v := (2 : Int32)) dL_law_804 (by decide) ?_
  refine gl_iadd dL_law_805 ?_
  refine gl_sld (i + 2) (nI_add i 2) (by omega) (by omega) dL_law_806 ?_
  refine gl_aload_n 3 rfl dL_law_807 rfl ?_
  refine gl_iload_n 0 rfl dL_law_808 rfl ?_
  refine gl_iconst (v := (3 : Int32)) dL_law_809 (by decide) ?_
  refine gl_iadd dL_law_810 ?_
  refine gl_sld (i + 3) (nI_add i 3) (by omega) (by omega) dL_law_811 ?_
  refine gl_call (As := fun ad => [.int (xs (i + 1)), .int (xs (i + 2)), .int (xs (i + 3))]) (g_X5_row (xs (i + 1)) (xs (i + 2)) (xs (i + 3)) u) h1 mv_X5_row clX5 kt_69 lw36 rfl ⟨Nat.le_of_ble_eq_true rfl, Nat.le_of_ble_eq_true rfl⟩ rfl (Nat.le_of_ble_eq_true rfl) dL_law_812 ?_
  show Gl X ad b L xs 815 [(3, .int (nI i)), (2, .ref (ad 86)), (1, .ref (ad 69)), (0, .ref b)] [.int r] u1
  refine gl_aload_n 1 rfl dL_law_815 rfl ?_
  refine gl_aload_n 3 rfl dL_law_816 rfl ?_
  refine gl_iload_n 0 rfl dL_law_817 rfl ?_
  refine gl_iconst (v := (1 : Int32)) dL_law_818 (by decide) ?_
  refine gl_iadd dL_law_819 ?_
  refine gl_sld (i + 1) (nI_add i 1) (by omega) (by omega) dL_law_820 ?_
  refine gl_aload_n 3 rfl dL_law_821 rfl ?_
  refine gl_iload_n 0 rfl dL_law_822 rfl ?_
  refine gl_iconst (v := (2 : Int32)) dL_law_823 (by decide) ?_
  refine gl_iadd dL_law_824 ?_
  refine gl_sld (i + 2) (nI_add i 2) (by omega) (by omega) dL_law_825 ?_
  refine gl_aload_n 3 rfl dL_law_826 rfl ?_
  refine gl_iload_n 0 rfl dL_law_827 rfl ?_
  refine gl_iconst (v := (3 : Int32)) dL_law_828 (by decide) ?_
  refine gl_iadd dL_law_829 ?_
  refine gl_sld (i + 3) (nI_add i 3) (by omega) (by omega) dL_law_830 ?_
  refine gl_call (As := fun ad => [.int (xs (i + 1)), .int (xs (i + 2)), .int (xs (i + 3))]) (g_X6_row (xs (i + 1)) (xs (i + 2)) (xs (i + 3)) u1) h2 mv_X6_row clX6 kt_86 lw37 rfl ⟨Nat.le_of_ble_eq_true rfl, Nat.le_of_ble_eq_true rfl⟩ rfl (Nat.le_of_ble_eq_true rfl) dL_law_831 ?_
  show Gl X ad b L xs 834 [(3, .int (nI i)), (2, .ref (ad 86)), (1, .ref (ad 69)), (0, .ref b)] [.int r, .int r] u2
  exact gl_eqI (tgt := 1486) dL_law_834 (by decide) hk
set_option maxHeartbeats 4000000 in
set_option maxRecDepth 100000 in
theorem case_19 {X : Cx} {ad : Nat → Nat} {b L : Nat} {xs : Nat → Int32} {i : Nat} (hi : i + 6 ≤ L) (hL : L ≤ 3072) {u u1 u2 : Uw} {r : Int32} (h1 : f_X5_meet (xs (i + 1)) u = some (r, u1)) (h2 : f_X6_meet (xs (i + 1)) u1 = some (r, u2)) (hk : Gl X ad b L xs 1486 [(3, .int (nI i)), (2, .ref (ad 86)), (1, .ref (ad 69)), (0, .ref b)] [] u2) : Gl X ad b L xs 839 [(3, .int (nI i)), (2, .ref (ad 86)), (1, .ref (ad 69)), (0, .ref b)] [] u := by
  refine gl_aload_n 2 rfl dL_law_839 rfl ?_
  refine gl_aload_n 3 rfl dL_law_840 rfl ?_
  refine gl_iload_n 0 rfl dL_law_841 rfl ?_
  refine gl_iconst (v := (1 : Int32)) dL_law_842 (by decide) ?_
  refine gl_iadd dL_law_843 ?_
  refine gl_sld (i + 1) (nI_add i 1) (by omega) (by omega) dL_law_844 ?_
  refine gl_call (As := fun ad => [.int (xs (i + 1))]) (g_X5_meet (xs (i + 1)) u) h1 mv_X5_meet clX5 kt_69 lw38 rfl ⟨Nat.le_of_ble_eq_true rfl, Nat.le_of_ble_eq_true rfl⟩ rfl (Nat.le_of_ble_eq_true rfl) dL_law_845 ?_
  show Gl X ad b L xs 848 [(3, .int (nI i)), (2, .ref (ad 86)), (1, .ref (ad 69)), (0, .ref b)] [.int r] u1
  refine gl_aload_n 1 rfl dL_law_848 rfl ?_
  refine gl_aload_n 3 rfl dL_law_849 rfl ?_
  refine gl_iload_n 0 rfl dL_law_850 rfl ?_
  refine gl_iconst (v := (1 : Int32)) dL_law_851 (by decide) ?_
  refine gl_iadd dL_law_852 ?_
  refine gl_sld (i + 1) (nI_add i 1) (by omega) (by omega) dL_law_853 ?_
  refine gl_call (As := fun ad => [.int (xs (i + 1))]) (g_X6_meet (xs (i + 1)) u1) h2 mv_X6_meet clX6 kt_86 lw39 rfl ⟨Nat.le_of_ble_eq_true rfl, Nat.le_of_ble_eq_true rfl⟩ rfl (Nat.le_of_ble_eq_true rfl) dL_law_854 ?_
  show Gl X ad b L xs 857 [(3, .int (nI i)), (2, .ref (ad 86)), (1, .ref (ad 69)), (0, .ref b)] [.int r, .int r] u2
  exact gl_eqI (tgt := 1486) dL_law_857 (by decide) hk
set_option maxHeartbeats 4000000 in
set_option maxRecDepth 100000 in
theorem case_20 {X : Cx} {ad : Nat → Nat} {b L : Nat} {xs : Nat → Int32} {i : Nat} (hi : i + 6 ≤ L) (hL : L ≤ 3072) {u u1 u2 : Uw} {r : Int32} (h1 : f_X5_both (xs (i + 1)) (xs (i + 2)) (xs (i + 3)) (xs (i + 4)) u = some (r, u1)) (h2 : f_X6_both (xs (i + 1)) (xs (i + 2)) (xs (i + 3)) (xs (i + 4)) u1 = some (r, u2)) (hk : Gl X ad b L xs 1486 [(3, .int (nI i)), (2, .ref (ad 86)), (1, .ref (ad 69)), (0, .ref b)] [] u2) : Gl X ad b L xs 862 [(3, .int (nI i)), (2, .ref (ad 86)), (1, .ref (ad 69)), (0, .ref b)] [] u := by
  refine gl_aload_n 2 rfl dL_law_862 rfl ?_
  refine gl_aload_n 3 rfl dL_law_863 rfl ?_
  refine gl_iload_n 0 rfl dL_law_864 rfl ?_
  refine gl_iconst (v := (1 : Int32)) dL_law_865 (by decide) ?_
  refine gl_iadd dL_law_866 ?_
  refine gl_sld (i + 1) (nI_add i 1) (by omega) (by omega) dL_law_867 ?_
  refine gl_aload_n 3 rfl dL_law_868 rfl ?_
  refine gl_iload_n 0 rfl dL_law_869 rfl ?_
  refine gl_iconst (v := (2 : Int32)) dL_law_870 (by decide) ?_
  refine gl_iadd dL_law_871 ?_
  refine gl_sld (i + 2) (nI_add i 2) (by omega) (by omega) dL_law_872 ?_
  refine gl_aload_n 3 rfl dL_law_873 rfl ?_
  refine gl_iload_n 0 rfl dL_law_874 rfl ?_
  refine gl_iconst (v := (3 : Int32)) dL_law_875 (by decide) ?_
  refine gl_iadd dL_law_876 ?_
  refine gl_sld (i + 3) (nI_add i 3) (by omega) (by omega) dL_law_877 ?_
  refine gl_aload_n 3 rfl dL_law_878 rfl ?_
  refine gl_iload_n 0 rfl dL_law_879 rfl ?_
  refine gl_iconst (v := (4 : Int32)) dL_law_880 (by decide) ?_
  refine gl_iadd dL_law_881 ?_
  refine gl_sld (i + 4) (nI_add i 4) (by omega) (by omega) dL_law_882 ?_
  refine gl_call (As := fun ad => [.int (xs (i + 1)), .int (xs (i + 2)), .int (xs (i + 3)), .int (xs (i + 4))]) (g_X5_both (xs (i + 1)) (xs (i + 2)) (xs (i + 3)) (xs (i + 4)) u) h1 mv_X5_both clX5 kt_69 lw40 rfl ⟨Nat.le_of_ble_eq_true rfl, Nat.le_of_ble_eq_true rfl⟩ rfl (Nat.le_of_ble_eq_true rfl) dL_law_883 ?_
  show Gl X ad b L xs 886 [(3, .int (nI i)), (2, .ref (ad 86)), (1, .ref (ad 69)), (0, .ref b)] [.int r] u1
  refine gl_aload_n 1 rfl dL_law_886 rfl ?_
  refine gl_aload_n 3 rfl dL_law_887 rfl ?_
  refine gl_iload_n 0 rfl dL_law_888 rfl ?_
  refine gl_iconst (v := (1 : Int32)) dL_law_889 (by decide) ?_
  refine gl_iadd dL_law_890 ?_
  refine gl_sld (i + 1) (nI_add i 1) (by omega) (by omega) dL_law_891 ?_
  refine gl_aload_n 3 rfl dL_law_892 rfl ?_
  refine gl_iload_n 0 rfl dL_law_893 rfl ?_
  refine gl_iconst (v := (2 : Int32)) dL_law_894 (by decide) ?_
  refine gl_iadd dL_law_895 ?_
  refine gl_sld (i + 2) (nI_add i 2) (by omega) (by omega) dL_law_896 ?_
  refine gl_aload_n 3 rfl dL_law_897 rfl ?_
  refine gl_iload_n 0 rfl dL_law_898 rfl ?_
  refine gl_iconst (v := (3 : Int32)) dL_law_899 (by decide) ?_
  refine gl_iadd dL_law_900 ?_
  refine gl_sld (i + 3) (nI_add i 3) (by omega) (by omega) dL_law_901 ?_
  refine gl_aload_n 3 rfl dL_law_902 rfl ?_
  refine gl_iload_n 0 rfl dL_law_903 rfl ?_
  refine gl_iconst (v := (4 : Int32)) dL_law_904 (by decide) ?_
  refine gl_iadd dL_law_905 ?_
  refine gl_sld (i + 4) (nI_add i 4) (by omega) (by omega) dL_law_906 ?_
  refine gl_call (As := fun ad => [.int (xs (i + 1)), .int (xs (i + 2)), .int (xs (i + 3)), .int (xs (i + 4))]) (g_X6_both (xs (i + 1)) (xs (i + 2)) (xs (i + 3)) (xs (i + 4)) u1) h2 mv_X6_both clX6 kt_86 lw41 rfl ⟨Nat.le_of_ble_eq_true rfl, Nat.le_of_ble_eq_true rfl⟩ rfl (Nat.le_of_ble_eq_true rfl) dL_law_907 ?_
  show Gl X ad b L xs 910 [(3, .int (nI i)), (2, .ref (ad 86)), (1, .ref (ad 69)), (0, .ref b)] [.int r, .int r] u2
  exact gl_eqI (tgt := 1486) dL_law_910 (by decide) hk
set_option maxHeartbeats 4000000 in
set_option maxRecDepth 100000 in
theorem case_21 {X : Cx} {ad : Nat → Nat} {b L : Nat} {xs : Nat → Int32} {i : Nat} (hi : i + 6 ≤ L) (hL : L ≤ 3072) {u u1 u2 : Uw} {r : Int32} (h1 : f_X5_trust (xs (i + 1)) u = some (r, u1)) (h2 : f_X6_trust (xs (i + 1)) u1 = some (r, u2)) (hk : Gl X ad b L xs 1486 [(3, .int (nI i)), (2, .ref (ad 86)), (1, .ref (ad 69)), (0, .ref b)] [] u2) : Gl X ad b L xs 915 [(3, .int (nI i)), (2, .ref (ad 86)), (1, .ref (ad 69)), (0, .ref b)] [] u := by
  refine gl_aload_n 2 rfl dL_law_915 rfl ?_
  refine gl_aload_n 3 rfl dL_law_916 rfl ?_
  refine gl_iload_n 0 rfl dL_law_917 rfl ?_
  refine gl_iconst (v := (1 : Int32)) dL_law_918 (by decide) ?_
  refine gl_iadd dL_law_919 ?_
  refine gl_sld (i + 1) (nI_add i 1) (by omega) (by omega) dL_law_920 ?_
  refine gl_call (As := fun ad => [.int (xs (i + 1))]) (g_X5_trust (xs (i + 1)) u) h1 mv_X5_trust clX5 kt_69 lw42 rfl ⟨Nat.le_of_ble_eq_true rfl, Nat.le_of_ble_eq_true rfl⟩ rfl (Nat.le_of_ble_eq_true rfl) dL_law_921 ?_
  show Gl X ad b L xs 924 [(3, .int (nI i)), (2, .ref (ad 86)), (1, .ref (ad 69)), (0, .ref b)] [.int r] u1
  refine gl_aload_n 1 rfl dL_law_924 rfl ?_
  refine gl_aload_n 3 rfl dL_law_925 rfl ?_
  refine gl_iload_n 0 rfl dL_law_926 rfl ?_
  refine gl_iconst (v := (1 : Int32)) dL_law_927 (by decide) ?_
  refine gl_iadd dL_law_928 ?_
  refine gl_sld (i + 1) (nI_add i 1) (by omega) (by omega) dL_law_929 ?_
  refine gl_call (As := fun ad => [.int (xs (i + 1))]) (g_X6_trust (xs (i + 1)) u1) h2 mv_X6_trust clX6 kt_86 lw43 rfl ⟨Nat.le_of_ble_eq_true rfl, Nat.le_of_ble_eq_true rfl⟩ rfl (Nat.le_of_ble_eq_true rfl) dL_law_930 ?_
  show Gl X ad b L xs 933 [(3, .int (nI i)), (2, .ref (ad 86)), (1, .ref (ad 69)), (0, .ref b)] [.int r, .int r] u2
  exact gl_eqI (tgt := 1486) dL_law_933 (by decide) hk
set_option maxHeartbeats 4000000 in
set_option maxRecDepth 100000 in
theorem case_22 {X : Cx} {ad : Nat → Nat} {b L : Nat} {xs : Nat → Int32} {i : Nat} (hi : i + 6 ≤ L) (hL : L ≤ 3072) {u u1 u2 : Uw} {r : Int32} (h1 : f_X5_truth (xs (i + 1)) u = some (r, u1)) (h2 : f_X6_truth (xs (i + 1)) u1 = some (r, u2)) (hk : Gl X ad b L xs 1486 [(3, .int (nI i)), (2, .ref (ad 86)), (1, .ref (ad 69)), (0, .ref b)] [] u2) : Gl X ad b L xs 938 [(3, .int (nI i)), (2, .ref (ad 86)), (1, .ref (ad 69)), (0, .ref b)] [] u := by
  refine gl_aload_n 2 rfl dL_law_938 rfl ?_
  refine gl_aload_n 3 rfl dL_law_939 rfl ?_
  refine gl_iload_n 0 rfl dL_law_940 rfl ?_
  refine gl_iconst (v := (1 : Int32)) dL_law_941 (by decide) ?_
  refine gl_iadd dL_law_942 ?_
  refine gl_sld (i + 1) (nI_add i 1) (by omega) (by omega) dL_law_943 ?_
  refine gl_call (As := fun ad => [.int (xs (i + 1))]) (g_X5_truth (xs (i + 1)) u) h1 mv_X5_truth clX5 kt_69 lw44 rfl ⟨Nat.le_of_ble_eq_true rfl, Nat.le_of_ble_eq_true rfl⟩ rfl (Nat.le_of_ble_eq_true rfl) dL_law_944 ?_
  show Gl X ad b L xs 947 [(3, .int (nI i)), (2, .ref (ad 86)), (1, .ref (ad 69)), (0, .ref b)] [.int r] u1
  refine gl_aload_n 1 rfl dL_law_947 rfl ?_
  refine gl_aload_n 3 rfl dL_law_948 rfl ?_
  refine gl_iload_n 0 rfl dL_law_949 rfl ?_
  refine gl_iconst (v := (1 : Int32)) dL_law_950 (by decide) ?_
  refine gl_iadd dL_law_951 ?_
  refine gl_sld (i + 1) (nI_add i 1) (by omega) (by omega) dL_law_952 ?_
  refine gl_call (As := fun ad => [.int (xs (i + 1))]) (g_X6_truth (xs (i + 1)) u1) h2 mv_X6_truth clX6 kt_86 lw45 rfl ⟨Nat.le_of_ble_eq_true rfl, Nat.le_of_ble_eq_true rfl⟩ rfl (Nat.le_of_ble_eq_true rfl) dL_law_953 ?_
  show Gl X ad b L xs 956 [(3, .int (nI i)), (2, .ref (ad 86)), (1, .ref (ad 69)), (0, .ref b)] [.int r, .int r] u2
  exact gl_eqI (tgt := 1486) dL_law_956 (by decide) hk
set_option maxHeartbeats 4000000 in
set_option maxRecDepth 100000 in
theorem case_23 {X : Cx} {ad : Nat → Nat} {b L : Nat} {xs : Nat → Int32} {i : Nat} (hi : i + 6 ≤ L) (hL : L ≤ 3072) {u u1 u2 : Uw} {r : Int32} (h1 : f_X5_cure (xs (i + 1)) u = some (r, u1)) (h2 : f_X6_cure (xs (i + 1)) u1 = some (r, u2)) (hk : Gl X ad b L xs 1486 [(3, .int (nI i)), (2, .ref (ad 86)), (1, .ref (ad 69)), (0, .ref b)] [] u2) : Gl X ad b L xs 961 [(3, .int (nI i)), (2, .ref (ad 86)), (1, .ref (ad 69)), (0, .ref b)] [] u := by
  refine gl_aload_n 2 rfl dL_law_961 rfl ?_
  refine gl_aload_n 3 rfl dL_law_962 rfl ?_
  refine gl_iload_n 0 rfl dL_law_963 rfl ?_
  refine gl_iconst (v := (1 : Int32)) dL_law_964 (by decide) ?_
  refine gl_iadd dL_law_965 ?_
  refine gl_sld (i + 1) (nI_add i 1) (by omega) (by omega) dL_law_966 ?_
  refine gl_call (As := fun ad => [.int (xs (i + 1))]) (g_X5_cure (xs (i + 1)) u) h1 mv_X5_cure clX5 kt_69 lw46 rfl ⟨Nat.le_of_ble_eq_true rfl, Nat.le_of_ble_eq_true rfl⟩ rfl (Nat.le_of_ble_eq_true rfl) dL_law_967 ?_
  show Gl X ad b L xs 970 [(3, .int (nI i)), (2, .ref (ad 86)), (1, .ref (ad 69)), (0, .ref b)] [.int r] u1
  refine gl_aload_n 1 rfl dL_law_970 rfl ?_
  refine gl_aload_n 3 rfl dL_law_971 rfl ?_
  refine gl_iload_n 0 rfl dL_law_972 rfl ?_
  refine gl_iconst (v := (1 : Int32)) dL_law_973 (by decide) ?_
  refine gl_iadd dL_law_974 ?_
  refine gl_sld (i + 1) (nI_add i 1) (by omega) (by omega) dL_law_975 ?_
  refine gl_call (As := fun ad => [.int (xs (i + 1))]) (g_X6_cure (xs (i + 1)) u1) h2 mv_X6_cure clX6 kt_86 lw47 rfl ⟨Nat.le_of_ble_eq_true rfl, Nat.le_of_ble_eq_true rfl⟩ rfl (Nat.le_of_ble_eq_true rfl) dL_law_976 ?_
  show Gl X ad b L xs 979 [(3, .int (nI i)), (2, .ref (ad 86)), (1, .ref (ad 69)), (0, .ref b)] [.int r, .int r] u2
  exact gl_eqI (tgt := 1486) dL_law_979 (by decide) hk
set_option maxHeartbeats 4000000 in
set_option maxRecDepth 100000 in
theorem case_24 {X : Cx} {ad : Nat → Nat} {b L : Nat} {xs : Nat → Int32} {i : Nat} (hi : i + 6 ≤ L) (hL : L ≤ 3072) {u u1 u2 : Uw} {r : Int32} (h1 : f_X5_kind (xs (i + 1)) (xs (i + 2)) u = some (r, u1)) (h2 : f_X6_kind (xs (i + 1)) (xs (i + 2)) u1 = some (r, u2)) (hk : Gl X ad b L xs 1486 [(3, .int (nI i)), (2, .ref (ad 86)), (1, .ref (ad 69)), (0, .ref b)] [] u2) : Gl X ad b L xs 984 [(3, .int (nI i)), (2, .ref (ad 86)), (1, .ref (ad 69)), (0, .ref b)] [] u := by
  refine gl_aload_n 2 rfl dL_law_984 rfl ?_
  refine gl_aload_n 3 rfl dL_law_985 rfl ?_
  refine gl_iload_n 0 rfl dL_law_986 rfl ?_
  refine gl_iconst (v := (1 : Int32)) dL_law_987 (by decide) ?_
  refine gl_iadd dL_law_988 ?_
  refine gl_sld (i + 1) (nI_add i 1) (by omega) (by omega) dL_law_989 ?_
  refine gl_aload_n 3 rfl dL_law_990 rfl ?_
  refine gl_iload_n 0 rfl dL_law_991 rfl ?_
  refine gl_iconst (v := (2 : Int32)) dL_law_992 (by decide) ?_
  refine gl_iadd dL_law_993 ?_
  refine gl_sld (i + 2) (nI_add i 2) (by omega) (by omega) dL_law_994 ?_
  refine gl_call (As := fun ad => [.int (xs (i + 1)), .int (xs (i + 2))]) (g_X5_kind (xs (i + 1)) (xs (i + 2)) u) h1 mv_X5_kind clX5 kt_69 lw48 rfl ⟨Nat.le_of_ble_eq_true rfl, Nat.le_of_ble_eq_true rfl⟩ rfl (Nat.le_of_ble_eq_true rfl) dL_law_995 ?_
  show Gl X ad b L xs 998 [(3, .int (nI i)), (2, .ref (ad 86)), (1, .ref (ad 69)), (0, .ref b)] [.int r] u1
  refine gl_aload_n 1 rfl dL_law_998 rfl ?_
  refine gl_aload_n 3 rfl dL_law_999 rfl ?_
  refine gl_iload_n 0 rfl dL_law_1000 rfl ?_
  refine gl_iconst (v := (1 : Int32)) dL_law_1001 (by decide) ?_
  refine gl_iadd dL_law_1002 ?_
  refine gl_sld (i + 1) (nI_add i 1) (by omega) (by omega) dL_law_1003 ?_
  refine gl_aload_n 3 rfl dL_law_1004 rfl ?_
  refine gl_iload_n 0 rfl dL_law_1005 rfl ?_
  refine gl_iconst (v := (2 : Int32)) dL_law_1006 (by decide) ?_
  refine gl_iadd dL_law_1007 ?_
  refine gl_sld (i + 2) (nI_add i 2) (by omega) (by omega) dL_law_1008 ?_
  refine gl_call (As := fun ad => [.int (xs (i + 1)), .int (xs (i + 2))]) (g_X6_kind (xs (i + 1)) (xs (i + 2)) u1) h2 mv_X6_kind clX6 kt_86 lw49 rfl ⟨Nat.le_of_ble_eq_true rfl, Nat.le_of_ble_eq_true rfl⟩ rfl (Nat.le_of_ble_eq_true rfl) dL_law_1009 ?_
  show Gl X ad b L xs 1012 [(3, .int (nI i)), (2, .ref (ad 86)), (1, .ref (ad 69)), (0, .ref b)] [.int r, .int r] u2
  exact gl_eqI (tgt := 1486) dL_law_1012 (by decide) hk
set_option maxHeartbeats 4000000 in
set_option maxRecDepth 100000 in
theorem case_25 {X : Cx} {ad : Nat → Nat} {b L : Nat} {xs : Nat → Int32} {i : Nat} (hi : i + 6 ≤ L) (hL : L ≤ 3072) {u u1 u2 : Uw} {r : Int32} (h1 : f_X5_begin (xs (i + 1)) (xs (i + 2)) u = some (r, u1)) (h2 : f_X6_begin (xs (i + 1)) (xs (i + 2)) u1 = some (r, u2)) (hk : Gl X ad b L xs 1486 [(3, .int (nI i)), (2, .ref (ad 86)), (1, .ref (ad 69)), (0, .ref b)] [] u2) : Gl X ad b L xs 1017 [(3, .int (nI i)), (2, .ref (ad 86)), (1, .ref (ad 69)), (0, .ref b)] [] u := by
  refine gl_aload_n 2 rfl dL_law_1017 rfl ?_
  refine gl_aload_n 3 rfl dL_law_1018 rfl ?_
  refine gl_iload_n 0 rfl dL_law_1019 rfl ?_
  refine gl_iconst (v := (1 : Int32)) dL_law_1020 (by decide) ?_
  refine gl_iadd dL_law_1021 ?_
  refine gl_sld (i + 1) (nI_add i 1) (by omega) (by omega) dL_law_1022 ?_
  refine gl_aload_n 3 rfl dL_law_1023 rfl ?_
  refine gl_iload_n 0 rfl dL_law_1024 rfl ?_
  refine gl_iconst (v := (2 : Int32)) dL_law_1025 (by decide) ?_
  refine gl_iadd dL_law_1026 ?_
  refine gl_sld (i + 2) (nI_add i 2) (by omega) (by omega) dL_law_1027 ?_
  refine gl_call (As := fun ad => [.int (xs (i + 1)), .int (xs (i + 2))]) (g_X5_begin (xs (i + 1)) (xs (i + 2)) u) h1 mv_X5_begin clX5 kt_69 lw50 rfl ⟨Nat.le_of_ble_eq_true rfl, Nat.le_of_ble_eq_true rfl⟩ rfl (Nat.le_of_ble_eq_true rfl) dL_law_1028 ?_
  show Gl X ad b L xs 1031 [(3, .int (nI i)), (2, .ref (ad 86)), (1, .ref (ad 69)), (0, .ref b)] [.int r] u1
  refine gl_aload_n 1 rfl dL_law_1031 rfl ?_
  refine gl_aload_n 3 rfl dL_law_1032 rfl ?_
  refine gl_iload_n 0 rfl dL_law_1033 rfl ?_
  refine gl_iconst (v := (1 : Int32)) dL_law_1034 (by decide) ?_
  refine gl_iadd dL_law_1035 ?_
  refine gl_sld (i + 1) (nI_add i 1) (by omega) (by omega) dL_law_1036 ?_
  refine gl_aload_n 3 rfl dL_law_1037 rfl ?_
  refine gl_iload_n 0 rfl dL_law_1038 rfl ?_
  refine gl_iconst (v := (2 : Int32)) dL_law_1039 (by decide) ?_
  refine gl_iadd dL_law_1040 ?_
  refine gl_sld (i + 2) (nI_add i 2) (by omega) (by omega) dL_law_1041 ?_
  refine gl_call (As := fun ad => [.int (xs (i + 1)), .int (xs (i + 2))]) (g_X6_begin (xs (i + 1)) (xs (i + 2)) u1) h2 mv_X6_begin clX6 kt_86 lw51 rfl ⟨Nat.le_of_ble_eq_true rfl, Nat.le_of_ble_eq_true rfl⟩ rfl (Nat.le_of_ble_eq_true rfl) dL_law_1042 ?_
  show Gl X ad b L xs 1045 [(3, .int (nI i)), (2, .ref (ad 86)), (1, .ref (ad 69)), (0, .ref b)] [.int r, .int r] u2
  exact gl_eqI (tgt := 1486) dL_law_1045 (by decide) hk
set_option maxHeartbeats 4000000 in
set_option maxRecDepth 100000 in
theorem case_26 {X : Cx} {ad : Nat → Nat} {b L : Nat} {xs : Nat → Int32} {i : Nat} (hi : i + 6 ≤ L) (hL : L ≤ 3072) {u u1 u2 : Uw} {r : Int32} (h1 : f_X5_power (xs (i + 1)) u = some (r, u1)) (h2 : f_X6_power (xs (i + 1)) u1 = some (r, u2)) (hk : Gl X ad b L xs 1486 [(3, .int (nI i)), (2, .ref (ad 86)), (1, .ref (ad 69)), (0, .ref b)] [] u2) : Gl X ad b L xs 1050 [(3, .int (nI i)), (2, .ref (ad 86)), (1, .ref (ad 69)), (0, .ref b)] [] u := by
  refine gl_aload_n 2 rfl dL_law_1050 rfl ?_
  refine gl_aload_n 3 rfl dL_law_1051 rfl ?_
  refine gl_iload_n 0 rfl dL_law_1052 rfl ?_
  refine gl_iconst (v := (1 : Int32)) dL_law_1053 (by decide) ?_
  refine gl_iadd dL_law_1054 ?_
  refine gl_sld (i + 1) (nI_add i 1) (by omega) (by omega) dL_law_1055 ?_
  refine gl_call (As := fun ad => [.int (xs (i + 1))]) (g_X5_power (xs (i + 1)) u) h1 mv_X5_power clX5 kt_69 lw52 rfl ⟨Nat.le_of_ble_eq_true rfl, Nat.le_of_ble_eq_true rfl⟩ rfl (Nat.le_of_ble_eq_true rfl) dL_law_1056 ?_
  show Gl X ad b L xs 1059 [(3, .int (nI i)), (2, .ref (ad 86)), (1, .ref (ad 69)), (0, .ref b)] [.int r] u1
  refine gl_aload_n 1 rfl dL_law_1059 rfl ?_
  refine gl_aload_n 3 rfl dL_law_1060 rfl ?_
  refine gl_iload_n 0 rfl dL_law_1061 rfl ?_
  refine gl_iconst (v := (1 : Int32)) dL_law_1062 (by decide) ?_
  refine gl_iadd dL_law_1063 ?_
  refine gl_sld (i + 1) (nI_add i 1) (by omega) (by omega) dL_law_1064 ?_
  refine gl_call (As := fun ad => [.int (xs (i + 1))]) (g_X6_power (xs (i + 1)) u1) h2 mv_X6_power clX6 kt_86 lw53 rfl ⟨Nat.le_of_ble_eq_true rfl, Nat.le_of_ble_eq_true rfl⟩ rfl (Nat.le_of_ble_eq_true rfl) dL_law_1065 ?_
  show Gl X ad b L xs 1068 [(3, .int (nI i)), (2, .ref (ad 86)), (1, .ref (ad 69)), (0, .ref b)] [.int r, .int r] u2
  exact gl_eqI (tgt := 1486) dL_law_1068 (by decide) hk
set_option maxHeartbeats 4000000 in
set_option maxRecDepth 100000 in
theorem case_27 {X : Cx} {ad : Nat → Nat} {b L : Nat} {xs : Nat → Int32} {i : Nat} (hi : i + 6 ≤ L) (hL : L ≤ 3072) {u u1 u2 : Uw} {r : Int32} (h1 : f_X5_feed (xs (i + 1)) (xs (i + 2)) u = some (r, u1)) (h2 : f_X6_feed (xs (i + 1)) (xs (i + 2)) u1 = some (r, u2)) (hk : Gl X ad b L xs 1486 [(3, .int (nI i)), (2, .ref (ad 86)), (1, .ref (ad 69)), (0, .ref b)] [] u2) : Gl X ad b L xs 1073 [(3, .int (nI i)), (2, .ref (ad 86)), (1, .ref (ad 69)), (0, .ref b)] [] u := by
  refine gl_aload_n 2 rfl dL_law_1073 rfl ?_
  refine gl_aload_n 3 rfl dL_law_1074 rfl ?_
  refine gl_iload_n 0 rfl dL_law_1075 rfl ?_
  refine gl_iconst (v := (1 : Int32)) dL_law_1076 (by decide) ?_
  refine gl_iadd dL_law_1077 ?_
  refine gl_sld (i + 1) (nI_add i 1) (by omega) (by omega) dL_law_1078 ?_
  refine gl_aload_n 3 rfl dL_law_1079 rfl ?_
  refine gl_iload_n 0 rfl dL_law_1080 rfl ?_
  refine gl_iconst (v := (2 : Int32)) dL_law_1081 (by decide) ?_
  refine gl_iadd dL_law_1082 ?_
  refine gl_sld (i + 2) (nI_add i 2) (by omega) (by omega) dL_law_1083 ?_
  refine gl_call (As := fun ad => [.int (xs (i + 1)), .int (xs (i + 2))]) (g_X5_feed (xs (i + 1)) (xs (i + 2)) u) h1 mv_X5_feed clX5 kt_69 lw54 rfl ⟨Nat.le_of_ble_eq_true rfl, Nat.le_of_ble_eq_true rfl⟩ rfl (Nat.le_of_ble_eq_true rfl) dL_law_1084 ?_
  show Gl X ad b L xs 1087 [(3, .int (nI i)), (2, .ref (ad 86)), (1, .ref (ad 69)), (0, .ref b)] [.int r] u1
  refine gl_aload_n 1 rfl dL_law_1087 rfl ?_
  refine gl_aload_n 3 rfl dL_law_1088 rfl ?_
  refine gl_iload_n 0 rfl dL_law_1089 rfl ?_
  refine gl_iconst (v := (1 : Int32)) dL_law_1090 (by decide) ?_
  refine gl_iadd dL_law_1091 ?_
  refine gl_sld (i + 1) (nI_add i 1) (by omega) (by omega) dL_law_1092 ?_
  refine gl_aload_n 3 rfl dL_law_1093 rfl ?_
  refine gl_iload_n 0 rfl dL_law_1094 rfl ?_
  refine gl_iconst (v := (2 : Int32)) dL_law_1095 (by decide) ?_
  refine gl_iadd dL_law_1096 ?_
  refine gl_sld (i + 2) (nI_add i 2) (by omega) (by omega) dL_law_1097 ?_
  refine gl_call (As := fun ad => [.int (xs (i + 1)), .int (xs (i + 2))]) (g_X6_feed (xs (i + 1)) (xs (i + 2)) u1) h2 mv_X6_feed clX6 kt_86 lw55 rfl ⟨Nat.le_of_ble_eq_true rfl, Nat.le_of_ble_eq_true rfl⟩ rfl (Nat.le_of_ble_eq_true rfl) dL_law_1098 ?_
  show Gl X ad b L xs 1101 [(3, .int (nI i)), (2, .ref (ad 86)), (1, .ref (ad 69)), (0, .ref b)] [.int r, .int r] u2
  exact gl_eqI (tgt := 1486) dL_law_1101 (by decide) hk
set_option maxHeartbeats 4000000 in
set_option maxRecDepth 100000 in
theorem case_28 {X : Cx} {ad : Nat → Nat} {b L : Nat} {xs : Nat → Int32} {i : Nat} (hi : i + 6 ≤ L) (hL : L ≤ 3072) {u u1 u2 : Uw} {r : Int32} (h1 : f_X5_wipe  u = some (r, u1)) (h2 : f_X6_wipe  u1 = some (r, u2)) (hk : Gl X ad b L xs 1486 [(3, .int (nI i)), (2, .ref (ad 86)), (1, .ref (ad 69)), (0, .ref b)] [] u2) : Gl X ad b L xs 1106 [(3, .int (nI i)), (2, .ref (ad 86)), (1, .ref (ad 69)), (0, .ref b)] [] u := by
  refine gl_aload_n 2 rfl dL_law_1106 rfl ?_
  refine gl_call (As := fun ad => []) (g_X5_wipe  u) h1 mv_X5_wipe clX5 kt_69 lw56 rfl ⟨Nat.le_of_ble_eq_true rfl, Nat.le_of_ble_eq_true rfl⟩ rfl (Nat.le_of_ble_eq_true rfl) dL_law_1107 ?_
  show Gl X ad b L xs 1110 [(3, .int (nI i)), (2, .ref (ad 86)), (1, .ref (ad 69)), (0, .ref b)] [.int r] u1
  refine gl_aload_n 1 rfl dL_law_1110 rfl ?_
  refine gl_call (As := fun ad => []) (g_X6_wipe  u1) h2 mv_X6_wipe clX6 kt_86 lw57 rfl ⟨Nat.le_of_ble_eq_true rfl, Nat.le_of_ble_eq_true rfl⟩ rfl (Nat.le_of_ble_eq_true rfl) dL_law_1111 ?_
  show Gl X ad b L xs 1114 [(3, .int (nI i)), (2, .ref (ad 86)), (1, .ref (ad 69)), (0, .ref b)] [.int r, .int r] u2
  exact gl_eqI (tgt := 1486) dL_law_1114 (by decide) hk
set_option maxHeartbeats 4000000 in
set_option maxRecDepth 100000 in
theorem case_29 {X : Cx} {ad : Nat → Nat} {b L : Nat} {xs : Nat → Int32} {i : Nat} (hi : i + 6 ≤ L) (hL : L ≤ 3072) {u u1 u2 : Uw} {r : Int32} (h1 : f_X5_spring  u = some (r, u1)) (h2 : f_X6_spring  u1 = some (r, u2)) (hk : Gl X ad b L xs 1486 [(3, .int (nI i)), (2, .ref (ad 86)), (1, .ref (ad 69)), (0, .ref b)] [] u2) : Gl X ad b L xs 1119 [(3, .int (nI i)), (2, .ref (ad 86)), (1, .ref (ad 69)), (0, .ref b)] [] u := by
  refine gl_aload_n 2 rfl dL_law_1119 rfl ?_
  refine gl_call (As := fun ad => []) (g_X5_spring  u) h1 mv_X5_spring clX5 kt_69 lw58 rfl ⟨Nat.le_of_ble_eq_true rfl, Nat.le_of_ble_eq_true rfl⟩ rfl (Nat.le_of_ble_eq_true rfl) dL_law_1120 ?_
  show Gl X ad b L xs 1123 [(3, .int (nI i)), (2, .ref (ad 86)), (1, .ref (ad 69)), (0, .ref b)] [.int r] u1
  refine gl_aload_n 1 rfl dL_law_1123 rfl ?_
  refine gl_call (As := fun ad => []) (g_X6_spring  u1) h2 mv_X6_spring clX6 kt_86 lw59 rfl ⟨Nat.le_of_ble_eq_true rfl, Nat.le_of_ble_eq_true rfl⟩ rfl (Nat.le_of_ble_eq_true rfl) dL_law_1124 ?_
  show Gl X ad b L xs 1127 [(3, .int (nI i)), (2, .ref (ad 86)), (1, .ref (ad 69)), (0, .ref b)] [.int r, .int r] u2
  exact gl_eqI (tgt := 1486) dL_law_1127 (by decide) hk
set_option maxHeartbeats 4000000 in
set_option maxRecDepth 100000 in
theorem case_30 {X : Cx} {ad : Nat → Nat} {b L : Nat} {xs : Nat → Int32} {i : Nat} (hi : i + 6 ≤ L) (hL : L ≤ 3072) {u u1 u2 : Uw} {r : Int32} (h1 : f_X5_sheet (xs (i + 1)) (xs (i + 2)) (xs (i + 3)) u = some (r, u1)) (h2 : f_X6_sheet (xs (i + 1)) (xs (i + 2)) (xs (i + 3)) u1 = some (r, u2)) (hk : Gl X ad b L xs 1486 [(3, .int (nI i)), (2, .ref (ad 86)), (1, .ref (ad 69)), (0, .ref b)] [] u2) : Gl X ad b L xs 1132 [(3, .int (nI i)), (2, .ref (ad 86)), (1, .ref (ad 69)), (0, .ref b)] [] u := by
  refine gl_aload_n 2 rfl dL_law_1132 rfl ?_
  refine gl_aload_n 3 rfl dL_law_1133 rfl ?_
  refine gl_iload_n 0 rfl dL_law_1134 rfl ?_
  refine gl_iconst (v := (1 : Int32)) dL_law_1135 (by decide) ?_
  refine gl_iadd dL_law_1136 ?_
  refine gl_sld (i + 1) (nI_add i 1) (by omega) (by omega) dL_law_1137 ?_
  refine gl_aload_n 3 rfl dL_law_1138 rfl ?_
  refine gl_iload_n 0 rfl dL_law_1139 rfl ?_
  refine gl_iconst (v := (2 : Int32)) dL_law_1140 (by decide) ?_
  refine gl_iadd dL_law_1141 ?_
  refine gl_sld (i + 2) (nI_add i 2) (by omega) (by omega) dL_law_1142 ?_
  refine gl_aload_n 3 rfl dL_law_1143 rfl ?_
  refine gl_iload_n 0 rfl dL_law_1144 rfl ?_
  refine gl_iconst (v := (3 : Int32)) dL_law_1145 (by decide) ?_
  refine gl_iadd dL_law_1146 ?_
  refine gl_sld (i + 3) (nI_add i 3) (by omega) (by omega) dL_law_1147 ?_
  refine gl_call (As := fun ad => [.int (xs (i + 1)), .int (xs (i + 2)), .int (xs (i + 3))]) (g_X5_sheet (xs (i + 1)) (xs (i + 2)) (xs (i + 3)) u) h1 mv_X5_sheet clX5 kt_69 lw60 rfl ⟨Nat.le_of_ble_eq_true rfl, Nat.le_of_ble_eq_true rfl⟩ rfl (Nat.le_of_ble_eq_true rfl) dL_law_1148 ?_
  show Gl X ad b L xs 1151 [(3, .int (nI i)), (2, .ref (ad 86)), (1, .ref (ad 69)), (0, .ref b)] [.int r] u1
  refine gl_aload_n 1 rfl dL_law_1151 rfl ?_
  refine gl_aload_n 3 rfl dL_law_1152 rfl ?_
  refine gl_iload_n 0 rfl dL_law_1153 rfl ?_
  refine gl_iconst (v := (1 : Int32)) dL_law_1154 (by decide) ?_
  refine gl_iadd dL_law_1155 ?_
  refine gl_sld (i + 1) (nI_add i 1) (by omega) (by omega) dL_law_1156 ?_
  refine gl_aload_n 3 rfl dL_law_1157 rfl ?_
  refine gl_iload_n 0 rfl dL_law_1158 rfl ?_
  refine gl_iconst (v := (2 : Int32)) dL_law_1159 (by decide) ?_
  refine gl_iadd dL_law_1160 ?_
  refine gl_sld (i + 2) (nI_add i 2) (by omega) (by omega) dL_law_1161 ?_
  refine gl_aload_n 3 rfl dL_law_1162 rfl ?_
  refine gl_iload_n 0 rfl dL_law_1163 rfl ?_
  refine gl_iconst (v := (3 : Int32)) dL_law_1164 (by decide) ?_
  refine gl_iadd dL_law_1165 ?_
  refine gl_sld (i + 3) (nI_add i 3) (by omega) (by omega) dL_law_1166 ?_
  refine gl_call (As := fun ad => [.int (xs (i + 1)), .int (xs (i + 2)), .int (xs (i + 3))]) (g_X6_sheet (xs (i + 1)) (xs (i + 2)) (xs (i + 3)) u1) h2 mv_X6_sheet clX6 kt_86 lw61 rfl ⟨Nat.le_of_ble_eq_true rfl, Nat.le_of_ble_eq_true rfl⟩ rfl (Nat.le_of_ble_eq_true rfl) dL_law_1167 ?_
  show Gl X ad b L xs 1170 [(3, .int (nI i)), (2, .ref (ad 86)), (1, .ref (ad 69)), (0, .ref b)] [.int r, .int r] u2
  exact gl_eqI (tgt := 1486) dL_law_1170 (by decide) hk
set_option maxHeartbeats 4000000 in
set_option maxRecDepth 100000 in
theorem case_31 {X : Cx} {ad : Nat → Nat} {b L : Nat} {xs : Nat → Int32} {i : Nat} (hi : i + 6 ≤ L) (hL : L ≤ 3072) {u u1 u2 : Uw} {r : Int64} (h1 : f_X5_write (xs (i + 1)) (xs (i + 2)) (((xs (i + 3)).toInt64 <<< ((32 : Int32).toInt64 &&& 63)) ||| ((xs (i + 4)).toInt64 &&& (4294967295 : Int64))) u = some (r, u1)) (h2 : f_X6_write (xs (i + 1)) (xs (i + 2)) (((xs (i + 3)).toInt64 <<< ((32 : Int32).toInt64 &&& 63)) ||| ((xs (i + 4)).toInt64 &&& (4294967295 : Int64))) u1 = some (r, u2)) (hk : Gl X ad b L xs 1486 [(3, .int (nI i)), (2, .ref (ad 86)), (1, .ref (ad 69)), (0, .ref b)] [] u2) : Gl X ad b L xs 1175 [(3, .int (nI i)), (2, .ref (ad 86)), (1, .ref (ad 69)), (0, .ref b)] [] u := by
  refine gl_aload_n 2 rfl dL_law_1175 rfl ?_
  refine gl_aload_n 3 rfl dL_law_1176 rfl ?_
  refine gl_iload_n 0 rfl dL_law_1177 rfl ?_
  refine gl_iconst (v := (1 : Int32)) dL_law_1178 (by decide) ?_
  refine gl_iadd dL_law_1179 ?_
  refine gl_sld (i + 1) (nI_add i 1) (by omega) (by omega) dL_law_1180 ?_
  refine gl_aload_n 3 rfl dL_law_1181 rfl ?_
  refine gl_iload_n 0 rfl dL_law_1182 rfl ?_
  refine gl_iconst (v := (2 : Int32)) dL_law_1183 (by decide) ?_
  refine gl_iadd dL_law_1184 ?_
  refine gl_sld (i + 2) (nI_add i 2) (by omega) (by omega) dL_law_1185 ?_
  refine gl_aload_n 3 rfl dL_law_1186 rfl ?_
  refine gl_iload_n 0 rfl dL_law_1187 rfl ?_
  refine gl_iconst (v := (3 : Int32)) dL_law_1188 (by decide) ?_
  refine gl_iadd dL_law_1189 ?_
  refine gl_sld (i + 3) (nI_add i 3) (by omega) (by omega) dL_law_1190 ?_
  refine gl_i2l dL_law_1191 ?_
  refine gl_bipush (v := (32 : Int32)) dL_law_1192 (by decide) ?_
  refine gl_lshl dL_law_1194 ?_
  refine gl_aload_n 3 rfl dL_law_1195 rfl ?_
  refine gl_iload_n 0 rfl dL_law_1196 rfl ?_
  refine gl_iconst (v := (4 : Int32)) dL_law_1197 (by decide) ?_
  refine gl_iadd dL_law_1198 ?_
  refine gl_sld (i + 4) (nI_add i 4) (by omega) (by omega) dL_law_1199 ?_
  refine gl_i2l dL_law_1200 ?_
  refine gl_ldc2 (v := (4294967295 : Int64)) lw62 dL_law_1201 ?_
  refine gl_land dL_law_1204 ?_
  refine gl_lor dL_law_1205 ?_
  refine gl_call (As := fun ad => [.int (xs (i + 1)), .int (xs (i + 2)), .long (((xs (i + 3)).toInt64 <<< ((32 : Int32).toInt64 &&& 63)) ||| ((xs (i + 4)).toInt64 &&& (4294967295 : Int64)))]) (g_X5_write (xs (i + 1)) (xs (i + 2)) (((xs (i + 3)).toInt64 <<< ((32 : Int32).toInt64 &&& 63)) ||| ((xs (i + 4)).toInt64 &&& (4294967295 : Int64))) u) h1 mv_X5_write clX5 kt_69 lw63 rfl ⟨Nat.le_of_ble_eq_true rfl, Nat.le_of_ble_eq_true rfl⟩ rfl (Nat.le_of_ble_eq_true rfl) dL_law_1206 ?_
  show Gl X ad b L xs 1209 [(3, .int (nI i)), (2, .ref (ad 86)), (1, .ref (ad 69)), (0, .ref b)] [.long r] u1
  refine gl_aload_n 1 rfl dL_law_1209 rfl ?_
  refine gl_aload_n 3 rfl dL_law_1210 rfl ?_
  refine gl_iload_n 0 rfl dL_law_1211 rfl ?_
  refine gl_iconst (v := (1 : Int32)) dL_law_1212 (by decide) ?_
  refine gl_iadd dL_law_1213 ?_
  refine gl_sld (i + 1) (nI_add i 1) (by omega) (by omega) dL_law_1214 ?_
  refine gl_aload_n 3 rfl dL_law_1215 rfl ?_
  refine gl_iload_n 0 rfl dL_law_1216 rfl ?_
  refine gl_iconst (v := (2 : Int32)) dL_law_1217 (by decide) ?_
  refine gl_iadd dL_law_1218 ?_
  refine gl_sld (i + 2) (nI_add i 2) (by omega) (by omega) dL_law_1219 ?_
  refine gl_aload_n 3 rfl dL_law_1220 rfl ?_
  refine gl_iload_n 0 rfl dL_law_1221 rfl ?_
  refine gl_iconst (v := (3 : Int32)) dL_law_1222 (by decide) ?_
  refine gl_iadd dL_law_1223 ?_
  refine gl_sld (i + 3) (nI_add i 3) (by omega) (by omega) dL_law_1224 ?_
  refine gl_i2l dL_law_1225 ?_
  refine gl_bipush (v := (32 : Int32)) dL_law_1226 (by decide) ?_
  refine gl_lshl dL_law_1228 ?_
  refine gl_aload_n 3 rfl dL_law_1229 rfl ?_
  refine gl_iload_n 0 rfl dL_law_1230 rfl ?_
  refine gl_iconst (v := (4 : Int32)) dL_law_1231 (by decide) ?_
  refine gl_iadd dL_law_1232 ?_
  refine gl_sld (i + 4) (nI_add i 4) (by omega) (by omega) dL_law_1233 ?_
  refine gl_i2l dL_law_1234 ?_
  refine gl_ldc2 (v := (4294967295 : Int64)) lw62 dL_law_1235 ?_
  refine gl_land dL_law_1238 ?_
  refine gl_lor dL_law_1239 ?_
  refine gl_call (As := fun ad => [.int (xs (i + 1)), .int (xs (i + 2)), .long (((xs (i + 3)).toInt64 <<< ((32 : Int32).toInt64 &&& 63)) ||| ((xs (i + 4)).toInt64 &&& (4294967295 : Int64)))]) (g_X6_write (xs (i + 1)) (xs (i + 2)) (((xs (i + 3)).toInt64 <<< ((32 : Int32).toInt64 &&& 63)) ||| ((xs (i + 4)).toInt64 &&& (4294967295 : Int64))) u1) h2 mv_X6_write clX6 kt_86 lw64 rfl ⟨Nat.le_of_ble_eq_true rfl, Nat.le_of_ble_eq_true rfl⟩ rfl (Nat.le_of_ble_eq_true rfl) dL_law_1240 ?_
  show Gl X ad b L xs 1243 [(3, .int (nI i)), (2, .ref (ad 86)), (1, .ref (ad 69)), (0, .ref b)] [.long r, .long r] u2
  exact gl_eqL (tgt := 1486) dL_law_1243 dL_law_1244 (by decide) hk
set_option maxHeartbeats 4000000 in
set_option maxRecDepth 100000 in
theorem case_32 {X : Cx} {ad : Nat → Nat} {b L : Nat} {xs : Nat → Int32} {i : Nat} (hi : i + 6 ≤ L) (hL : L ≤ 3072) {u u1 u2 : Uw} {r : Int32} (h1 : f_X5_copy (xs (i + 1)) (xs (i + 2)) (xs (i + 3)) (xs (i + 4)) (xs (i + 5)) u = some (r, u1)) (h2 : f_X6_copy (xs (i + 1)) (xs (i + 2)) (xs (i + 3)) (xs (i + 4)) (xs (i + 5)) u1 = some (r, u2)) (hk : Gl X ad b L xs 1486 [(3, .int (nI i)), (2, .ref (ad 86)), (1, .ref (ad 69)), (0, .ref b)] [] u2) : Gl X ad b L xs 1249 [(3, .int (nI i)), (2, .ref (ad 86)), (1, .ref (ad 69)), (0, .ref b)] [] u := by
  refine gl_aload_n 2 rfl dL_law_1249 rfl ?_
  refine gl_aload_n 3 rfl dL_law_1250 rfl ?_
  refine gl_iload_n 0 rfl dL_law_1251 rfl ?_
  refine gl_iconst (v := (1 : Int32)) dL_law_1252 (by decide) ?_
  refine gl_iadd dL_law_1253 ?_
  refine gl_sld (i + 1) (nI_add i 1) (by omega) (by omega) dL_law_1254 ?_
  refine gl_aload_n 3 rfl dL_law_1255 rfl ?_
  refine gl_iload_n 0 rfl dL_law_1256 rfl ?_
  refine gl_iconst (v := (2 : Int32)) dL_law_1257 (by decide) ?_
  refine gl_iadd dL_law_1258 ?_
  refine gl_sld (i + 2) (nI_add i 2) (by omega) (by omega) dL_law_1259 ?_
  refine gl_aload_n 3 rfl dL_law_1260 rfl ?_
  refine gl_iload_n 0 rfl dL_law_1261 rfl ?_
  refine gl_iconst (v := (3 : Int32)) dL_law_1262 (by decide) ?_
  refine gl_iadd dL_law_1263 ?_
  refine gl_sld (i + 3) (nI_add i 3) (by omega) (by omega) dL_law_1264 ?_
  refine gl_aload_n 3 rfl dL_law_1265 rfl ?_
  refine gl_iload_n 0 rfl dL_law_1266 rfl ?_
  refine gl_iconst (v := (4 : Int32)) dL_law_1267 (by decide) ?_
  refine gl_iadd dL_law_1268 ?_
  refine gl_sld (i + 4) (nI_add i 4) (by omega) (by omega) dL_law_1269 ?_
  refine gl_aload_n 3 rfl dL_law_1270 rfl ?_
  refine gl_iload_n 0 rfl dL_law_1271 rfl ?_
  refine gl_iconst (v := (5 : Int32)) dL_law_1272 (by decide) ?_
  refine gl_iadd dL_law_1273 ?_
  refine gl_sld (i + 5) (nI_add i 5) (by omega) (by omega) dL_law_1274 ?_
  refine gl_call (As := fun ad => [.int (xs (i + 1)), .int (xs (i + 2)), .int (xs (i + 3)), .int (xs (i + 4)), .int (xs (i + 5))]) (g_X5_copy (xs (i + 1)) (xs (i + 2)) (xs (i + 3)) (xs (i + 4)) (xs (i + 5)) u) h1 mv_X5_copy clX5 kt_69 lw65 rfl ⟨Nat.le_of_ble_eq_true rfl, Nat.le_of_ble_eq_true rfl⟩ rfl (Nat.le_of_ble_eq_true rfl) dL_law_1275 ?_
  show Gl X ad b L xs 1278 [(3, .int (nI i)), (2, .ref (ad 86)), (1, .ref (ad 69)), (0, .ref b)] [.int r] u1
  refine gl_aload_n 1 rfl dL_law_1278 rfl ?_
  refine gl_aload_n 3 rfl dL_law_1279 rfl ?_
  refine gl_iload_n 0 rfl dL_law_1280 rfl ?_
  refine gl_iconst (v := (1 : Int32)) dL_law_1281 (by decide) ?_
  refine gl_iadd dL_law_1282 ?_
  refine gl_sld (i + 1) (nI_add i 1) (by omega) (by omega) dL_law_1283 ?_
  refine gl_aload_n 3 rfl dL_law_1284 rfl ?_
  refine gl_iload_n 0 rfl dL_law_1285 rfl ?_
  refine gl_iconst (v := (2 : Int32)) dL_law_1286 (by decide) ?_
  refine gl_iadd dL_law_1287 ?_
  refine gl_sld (i + 2) (nI_add i 2) (by omega) (by omega) dL_law_1288 ?_
  refine gl_aload_n 3 rfl dL_law_1289 rfl ?_
  refine gl_iload_n 0 rfl dL_law_1290 rfl ?_
  refine gl_iconst (v := (3 : Int32)) dL_law_1291 (by decide) ?_
  refine gl_iadd dL_law_1292 ?_
  refine gl_sld (i + 3) (nI_add i 3) (by omega) (by omega) dL_law_1293 ?_
  refine gl_aload_n 3 rfl dL_law_1294 rfl ?_
  refine gl_iload_n 0 rfl dL_law_1295 rfl ?_
  refine gl_iconst (v := (4 : Int32)) dL_law_1296 (by decide) ?_
  refine gl_iadd dL_law_1297 ?_
  refine gl_sld (i + 4) (nI_add i 4) (by omega) (by omega) dL_law_1298 ?_
  refine gl_aload_n 3 rfl dL_law_1299 rfl ?_
  refine gl_iload_n 0 rfl dL_law_1300 rfl ?_
  refine gl_iconst (v := (5 : Int32)) dL_law_1301 (by decide) ?_
  refine gl_iadd dL_law_1302 ?_
  refine gl_sld (i + 5) (nI_add i 5) (by omega) (by omega) dL_law_1303 ?_
  refine gl_call (As := fun ad => [.int (xs (i + 1)), .int (xs (i + 2)), .int (xs (i + 3)), .int (xs (i + 4)), .int (xs (i + 5))]) (g_X6_copy (xs (i + 1)) (xs (i + 2)) (xs (i + 3)) (xs (i + 4)) (xs (i + 5)) u1) h2 mv_X6_copy clX6 kt_86 lw66 rfl ⟨Nat.le_of_ble_eq_true rfl, Nat.le_of_ble_eq_true rfl⟩ rfl (Nat.le_of_ble_eq_true rfl) dL_law_1304 ?_
  show Gl X ad b L xs 1307 [(3, .int (nI i)), (2, .ref (ad 86)), (1, .ref (ad 69)), (0, .ref b)] [.int r, .int r] u2
  exact gl_eqI (tgt := 1486) dL_law_1307 (by decide) hk
set_option maxHeartbeats 4000000 in
set_option maxRecDepth 100000 in
theorem case_33 {X : Cx} {ad : Nat → Nat} {b L : Nat} {xs : Nat → Int32} {i : Nat} (hi : i + 6 ≤ L) (hL : L ≤ 3072) {u u1 u2 : Uw} {r : Int32} (h1 : f_X5_lays (xs (i + 1)) u = some (r, u1)) (h2 : f_X6_lays (xs (i + 1)) u1 = some (r, u2)) (hk : Gl X ad b L xs 1486 [(3, .int (nI i)), (2, .ref (ad 86)), (1, .ref (ad 69)), (0, .ref b)] [] u2) : Gl X ad b L xs 1312 [(3, .int (nI i)), (2, .ref (ad 86)), (1, .ref (ad 69)), (0, .ref b)] [] u := by
  refine gl_aload_n 2 rfl dL_law_1312 rfl ?_
  refine gl_aload_n 3 rfl dL_law_1313 rfl ?_
  refine gl_iload_n 0 rfl dL_law_1314 rfl ?_
  refine gl_iconst (v := (1 : Int32)) dL_law_1315 (by decide) ?_
  refine gl_iadd dL_law_1316 ?_
  refine gl_sld (i + 1) (nI_add i 1) (by omega) (by omega) dL_law_1317 ?_
  refine gl_call (As := fun ad => [.int (xs (i + 1))]) (g_X5_lays (xs (i + 1)) u) h1 mv_X5_lays clX5 kt_69 lw67 rfl ⟨Nat.le_of_ble_eq_true rfl, Nat.le_of_ble_eq_true rfl⟩ rfl (Nat.le_of_ble_eq_true rfl) dL_law_1318 ?_
  show Gl X ad b L xs 1321 [(3, .int (nI i)), (2, .ref (ad 86)), (1, .ref (ad 69)), (0, .ref b)] [.int r] u1
  refine gl_aload_n 1 rfl dL_law_1321 rfl ?_
  refine gl_aload_n 3 rfl dL_law_1322 rfl ?_
  refine gl_iload_n 0 rfl dL_law_1323 rfl ?_
  refine gl_iconst (v := (1 : Int32)) dL_law_1324 (by decide) ?_
  refine gl_iadd dL_law_1325 ?_
  refine gl_sld (i + 1) (nI_add i 1) (by omega) (by omega) dL_law_1326 ?_
  refine gl_call (As := fun ad => [.int (xs (i + 1))]) (g_X6_lays (xs (i + 1)) u1) h2 mv_X6_lays clX6 kt_86 lw68 rfl ⟨Nat.le_of_ble_eq_true rfl, Nat.le_of_ble_eq_true rfl⟩ rfl (Nat.le_of_ble_eq_true rfl) dL_law_1327 ?_
  show Gl X ad b L xs 1330 [(3, .int (nI i)), (2, .ref (ad 86)), (1, .ref (ad 69)), (0, .ref b)] [.int r, .int r] u2
  exact gl_eqI (tgt := 1486) dL_law_1330 (by decide) hk
set_option maxHeartbeats 4000000 in
set_option maxRecDepth 100000 in
theorem case_34 {X : Cx} {ad : Nat → Nat} {b L : Nat} {xs : Nat → Int32} {i : Nat} (hi : i + 6 ≤ L) (hL : L ≤ 3072) {u u1 u2 : Uw} {r : Int32} (h1 : f_X5_book (xs (i + 1)) (xs (i + 2)) u = some (r, u1)) (h2 : f_X6_book (xs (i + 1)) (xs (i + 2)) u1 = some (r, u2)) (hk : Gl X ad b L xs 1486 [(3, .int (nI i)), (2, .ref (ad 86)), (1, .ref (ad 69)), (0, .ref b)] [] u2) : Gl X ad b L xs 1335 [(3, .int (nI i)), (2, .ref (ad 86)), (1, .ref (ad 69)), (0, .ref b)] [] u := by
  refine gl_aload_n 2 rfl dL_law_1335 rfl ?_
  refine gl_aload_n 3 rfl dL_law_1336 rfl ?_
  refine gl_iload_n 0 rfl dL_law_1337 rfl ?_
  refine gl_iconst (v := (1 : Int32)) dL_law_1338 (by decide) ?_
  refine gl_iadd dL_law_1339 ?_
  refine gl_sld (i + 1) (nI_add i 1) (by omega) (by omega) dL_law_1340 ?_
  refine gl_aload_n 3 rfl dL_law_1341 rfl ?_
  refine gl_iload_n 0 rfl dL_law_1342 rfl ?_
  refine gl_iconst (v := (2 : Int32)) dL_law_1343 (by decide) ?_
  refine gl_iadd dL_law_1344 ?_
  refine gl_sld (i + 2) (nI_add i 2) (by omega) (by omega) dL_law_1345 ?_
  refine gl_call (As := fun ad => [.int (xs (i + 1)), .int (xs (i + 2))]) (g_X5_book (xs (i + 1)) (xs (i + 2)) u) h1 mv_X5_book clX5 kt_69 lw69 rfl ⟨Nat.le_of_ble_eq_true rfl, Nat.le_of_ble_eq_true rfl⟩ rfl (Nat.le_of_ble_eq_true rfl) dL_law_1346 ?_
  show Gl X ad b L xs 1349 [(3, .int (nI i)), (2, .ref (ad 86)), (1, .ref (ad 69)), (0, .ref b)] [.int r] u1
  refine gl_aload_n 1 rfl dL_law_1349 rfl ?_
  refine gl_aload_n 3 rfl dL_law_1350 rfl ?_
  refine gl_iload_n 0 rfl dL_law_1351 rfl ?_
  refine gl_iconst (v := (1 : Int32)) dL_law_1352 (by decide) ?_
  refine gl_iadd dL_law_1353 ?_
  refine gl_sld (i + 1) (nI_add i 1) (by omega) (by omega) dL_law_1354 ?_
  refine gl_aload_n 3 rfl dL_law_1355 rfl ?_
  refine gl_iload_n 0 rfl dL_law_1356 rfl ?_
  refine gl_iconst (v := (2 : Int32)) dL_law_1357 (by decide) ?_
  refine gl_iadd dL_law_1358 ?_
  refine gl_sld (i + 2) (nI_add i 2) (by omega) (by omega) dL_law_1359 ?_
  refine gl_call (As := fun ad => [.int (xs (i + 1)), .int (xs (i + 2))]) (g_X6_book (xs (i + 1)) (xs (i + 2)) u1) h2 mv_X6_book clX6 kt_86 lw70 rfl ⟨Nat.le_of_ble_eq_true rfl, Nat.le_of_ble_eq_true rfl⟩ rfl (Nat.le_of_ble_eq_true rfl) dL_law_1360 ?_
  show Gl X ad b L xs 1363 [(3, .int (nI i)), (2, .ref (ad 86)), (1, .ref (ad 69)), (0, .ref b)] [.int r, .int r] u2
  exact gl_eqI (tgt := 1486) dL_law_1363 (by decide) hk
set_option maxHeartbeats 4000000 in
set_option maxRecDepth 100000 in
theorem case_35 {X : Cx} {ad : Nat → Nat} {b L : Nat} {xs : Nat → Int32} {i : Nat} (hi : i + 6 ≤ L) (hL : L ≤ 3072) {u u1 u2 : Uw} {r : Int32} (h1 : f_X5_read (xs (i + 1)) (xs (i + 2)) u = some (r, u1)) (h2 : f_X6_read (xs (i + 1)) (xs (i + 2)) u1 = some (r, u2)) (hk : Gl X ad b L xs 1486 [(3, .int (nI i)), (2, .ref (ad 86)), (1, .ref (ad 69)), (0, .ref b)] [] u2) : Gl X ad b L xs 1368 [(3, .int (nI i)), (2, .ref (ad 86)), (1, .ref (ad 69)), (0, .ref b)] [] u := by
  refine gl_aload_n 2 rfl dL_law_1368 rfl ?_
  refine gl_aload_n 3 rfl dL_law_1369 rfl ?_
  refine gl_iload_n 0 rfl dL_law_1370 rfl ?_
  refine gl_iconst (v := (1 : Int32)) dL_law_1371 (by decide) ?_
  refine gl_iadd dL_law_1372 ?_
  refine gl_sld (i + 1) (nI_add i 1) (by omega) (by omega) dL_law_1373 ?_
  refine gl_aload_n 3 rfl dL_law_1374 rfl ?_
  refine gl_iload_n 0 rfl dL_law_1375 rfl ?_
  refine gl_iconst (v := (2 : Int32)) dL_law_1376 (by decide) ?_
  refine gl_iadd dL_law_1377 ?_
  refine gl_sld (i + 2) (nI_add i 2) (by omega) (by omega) dL_law_1378 ?_
  refine gl_call (As := fun ad => [.int (xs (i + 1)), .int (xs (i + 2))]) (g_X5_read (xs (i + 1)) (xs (i + 2)) u) h1 mv_X5_read clX5 kt_69 lw71 rfl ⟨Nat.le_of_ble_eq_true rfl, Nat.le_of_ble_eq_true rfl⟩ rfl (Nat.le_of_ble_eq_true rfl) dL_law_1379 ?_
  show Gl X ad b L xs 1382 [(3, .int (nI i)), (2, .ref (ad 86)), (1, .ref (ad 69)), (0, .ref b)] [.int r] u1
  refine gl_aload_n 1 rfl dL_law_1382 rfl ?_
  refine gl_aload_n 3 rfl dL_law_1383 rfl ?_
  refine gl_iload_n 0 rfl dL_law_1384 rfl ?_
  refine gl_iconst (v := (1 : Int32)) dL_law_1385 (by decide) ?_
  refine gl_iadd dL_law_1386 ?_
  refine gl_sld (i + 1) (nI_add i 1) (by omega) (by omega) dL_law_1387 ?_
  refine gl_aload_n 3 rfl dL_law_1388 rfl ?_
  refine gl_iload_n 0 rfl dL_law_1389 rfl ?_
  refine gl_iconst (v := (2 : Int32)) dL_law_1390 (by decide) ?_
  refine gl_iadd dL_law_1391 ?_
  refine gl_sld (i + 2) (nI_add i 2) (by omega) (by omega) dL_law_1392 ?_
  refine gl_call (As := fun ad => [.int (xs (i + 1)), .int (xs (i + 2))]) (g_X6_read (xs (i + 1)) (xs (i + 2)) u1) h2 mv_X6_read clX6 kt_86 lw72 rfl ⟨Nat.le_of_ble_eq_true rfl, Nat.le_of_ble_eq_true rfl⟩ rfl (Nat.le_of_ble_eq_true rfl) dL_law_1393 ?_
  show Gl X ad b L xs 1396 [(3, .int (nI i)), (2, .ref (ad 86)), (1, .ref (ad 69)), (0, .ref b)] [.int r, .int r] u2
  exact gl_eqI (tgt := 1486) dL_law_1396 (by decide) hk
set_option maxHeartbeats 4000000 in
set_option maxRecDepth 100000 in
theorem case_36 {X : Cx} {ad : Nat → Nat} {b L : Nat} {xs : Nat → Int32} {i : Nat} (hi : i + 6 ≤ L) (hL : L ≤ 3072) {u u1 u2 : Uw} {r : Int32} (h1 : f_X5_image  u = some (r, u1)) (h2 : f_X6_image  u1 = some (r, u2)) (hk : Gl X ad b L xs 1486 [(3, .int (nI i)), (2, .ref (ad 86)), (1, .ref (ad 69)), (0, .ref b)] [] u2) : Gl X ad b L xs 1401 [(3, .int (nI i)), (2, .ref (ad 86)), (1, .ref (ad 69)), (0, .ref b)] [] u := by
  refine gl_aload_n 2 rfl dL_law_1401 rfl ?_
  refine gl_call (As := fun ad => []) (g_X5_image  u) h1 mv_X5_image clX5 kt_69 lw73 rfl ⟨Nat.le_of_ble_eq_true rfl, Nat.le_of_ble_eq_true rfl⟩ rfl (Nat.le_of_ble_eq_true rfl) dL_law_1402 ?_
  show Gl X ad b L xs 1405 [(3, .int (nI i)), (2, .ref (ad 86)), (1, .ref (ad 69)), (0, .ref b)] [.int r] u1
  refine gl_aload_n 1 rfl dL_law_1405 rfl ?_
  refine gl_call (As := fun ad => []) (g_X6_image  u1) h2 mv_X6_image clX6 kt_86 lw74 rfl ⟨Nat.le_of_ble_eq_true rfl, Nat.le_of_ble_eq_true rfl⟩ rfl (Nat.le_of_ble_eq_true rfl) dL_law_1406 ?_
  show Gl X ad b L xs 1409 [(3, .int (nI i)), (2, .ref (ad 86)), (1, .ref (ad 69)), (0, .ref b)] [.int r, .int r] u2
  exact gl_eqI (tgt := 1486) dL_law_1409 (by decide) hk
set_option maxHeartbeats 4000000 in
set_option maxRecDepth 100000 in
theorem case_37 {X : Cx} {ad : Nat → Nat} {b L : Nat} {xs : Nat → Int32} {i : Nat} (hi : i + 6 ≤ L) (hL : L ≤ 3072) {u u1 u2 : Uw} {r : Int32} (h1 : f_X5_undo  u = some (r, u1)) (h2 : f_X6_undo  u1 = some (r, u2)) (hk : Gl X ad b L xs 1486 [(3, .int (nI i)), (2, .ref (ad 86)), (1, .ref (ad 69)), (0, .ref b)] [] u2) : Gl X ad b L xs 1414 [(3, .int (nI i)), (2, .ref (ad 86)), (1, .ref (ad 69)), (0, .ref b)] [] u := by
  refine gl_aload_n 2 rfl dL_law_1414 rfl ?_
  refine gl_call (As := fun ad => []) (g_X5_undo  u) h1 mv_X5_undo clX5 kt_69 lw75 rfl ⟨Nat.le_of_ble_eq_true rfl, Nat.le_of_ble_eq_true rfl⟩ rfl (Nat.le_of_ble_eq_true rfl) dL_law_1415 ?_
  show Gl X ad b L xs 1418 [(3, .int (nI i)), (2, .ref (ad 86)), (1, .ref (ad 69)), (0, .ref b)] [.int r] u1
  refine gl_aload_n 1 rfl dL_law_1418 rfl ?_
  refine gl_call (As := fun ad => []) (g_X6_undo  u1) h2 mv_X6_undo clX6 kt_86 lw76 rfl ⟨Nat.le_of_ble_eq_true rfl, Nat.le_of_ble_eq_true rfl⟩ rfl (Nat.le_of_ble_eq_true rfl) dL_law_1419 ?_
  show Gl X ad b L xs 1422 [(3, .int (nI i)), (2, .ref (ad 86)), (1, .ref (ad 69)), (0, .ref b)] [.int r, .int r] u2
  exact gl_eqI (tgt := 1486) dL_law_1422 (by decide) hk
set_option maxHeartbeats 4000000 in
set_option maxRecDepth 100000 in
theorem case_38 {X : Cx} {ad : Nat → Nat} {b L : Nat} {xs : Nat → Int32} {i : Nat} (hi : i + 6 ≤ L) (hL : L ≤ 3072) {u u1 u2 : Uw} {r : Int32} (h1 : f_X5_tear  u = some (r, u1)) (h2 : f_X6_tear  u1 = some (r, u2)) (hk : Gl X ad b L xs 1486 [(3, .int (nI i)), (2, .ref (ad 86)), (1, .ref (ad 69)), (0, .ref b)] [] u2) : Gl X ad b L xs 1427 [(3, .int (nI i)), (2, .ref (ad 86)), (1, .ref (ad 69)), (0, .ref b)] [] u := by
  refine gl_aload_n 2 rfl dL_law_1427 rfl ?_
  refine gl_call (As := fun ad => []) (g_X5_tear  u) h1 mv_X5_tear clX5 kt_69 lw77 rfl ⟨Nat.le_of_ble_eq_true rfl, Nat.le_of_ble_eq_true rfl⟩ rfl (Nat.le_of_ble_eq_true rfl) dL_law_1428 ?_
  show Gl X ad b L xs 1431 [(3, .int (nI i)), (2, .ref (ad 86)), (1, .ref (ad 69)), (0, .ref b)] [.int r] u1
  refine gl_aload_n 1 rfl dL_law_1431 rfl ?_
  refine gl_call (As := fun ad => []) (g_X6_tear  u1) h2 mv_X6_tear clX6 kt_86 lw78 rfl ⟨Nat.le_of_ble_eq_true rfl, Nat.le_of_ble_eq_true rfl⟩ rfl (Nat.le_of_ble_eq_true rfl) dL_law_1432 ?_
  show Gl X ad b L xs 1435 [(3, .int (nI i)), (2, .ref (ad 86)), (1, .ref (ad 69)), (0, .ref b)] [.int r, .int r] u2
  exact gl_eqI (tgt := 1486) dL_law_1435 (by decide) hk
set_option maxHeartbeats 4000000 in
set_option maxRecDepth 100000 in
theorem case_39 {X : Cx} {ad : Nat → Nat} {b L : Nat} {xs : Nat → Int32} {i : Nat} (hi : i + 6 ≤ L) (hL : L ≤ 3072) {u u1 u2 : Uw} {r : Int32} (h1 : f_X5_count (xs (i + 1)) u = some (r, u1)) (h2 : f_X6_count (xs (i + 1)) u1 = some (r, u2)) (hk : Gl X ad b L xs 1486 [(3, .int (nI i)), (2, .ref (ad 86)), (1, .ref (ad 69)), (0, .ref b)] [] u2) : Gl X ad b L xs 1440 [(3, .int (nI i)), (2, .ref (ad 86)), (1, .ref (ad 69)), (0, .ref b)] [] u := by
  refine gl_aload_n 2 rfl dL_law_1440 rfl ?_
  refine gl_aload_n 3 rfl dL_law_1441 rfl ?_
  refine gl_iload_n 0 rfl dL_law_1442 rfl ?_
  refine gl_iconst (v := (1 : Int32)) dL_law_1443 (by decide) ?_
  refine gl_iadd dL_law_1444 ?_
  refine gl_sld (i + 1) (nI_add i 1) (by omega) (by omega) dL_law_1445 ?_
  refine gl_call (As := fun ad => [.int (xs (i + 1))]) (g_X5_count (xs (i + 1)) u) h1 mv_X5_count clX5 kt_69 lw79 rfl ⟨Nat.le_of_ble_eq_true rfl, Nat.le_of_ble_eq_true rfl⟩ rfl (Nat.le_of_ble_eq_true rfl) dL_law_1446 ?_
  show Gl X ad b L xs 1449 [(3, .int (nI i)), (2, .ref (ad 86)), (1, .ref (ad 69)), (0, .ref b)] [.int r] u1
  refine gl_aload_n 1 rfl dL_law_1449 rfl ?_
  refine gl_aload_n 3 rfl dL_law_1450 rfl ?_
  refine gl_iload_n 0 rfl dL_law_1451 rfl ?_
  refine gl_iconst (v := (1 : Int32)) dL_law_1452 (by decide) ?_
  refine gl_iadd dL_law_1453 ?_
  refine gl_sld (i + 1) (nI_add i 1) (by omega) (by omega) dL_law_1454 ?_
  refine gl_call (As := fun ad => [.int (xs (i + 1))]) (g_X6_count (xs (i + 1)) u1) h2 mv_X6_count clX6 kt_86 lw80 rfl ⟨Nat.le_of_ble_eq_true rfl, Nat.le_of_ble_eq_true rfl⟩ rfl (Nat.le_of_ble_eq_true rfl) dL_law_1455 ?_
  show Gl X ad b L xs 1458 [(3, .int (nI i)), (2, .ref (ad 86)), (1, .ref (ad 69)), (0, .ref b)] [.int r, .int r] u2
  exact gl_eqI (tgt := 1486) dL_law_1458 (by decide) hk
set_option maxHeartbeats 4000000 in
set_option maxRecDepth 100000 in
theorem case_40 {X : Cx} {ad : Nat → Nat} {b L : Nat} {xs : Nat → Int32} {i : Nat} (hi : i + 6 ≤ L) (hL : L ≤ 3072) {u u1 u2 : Uw} {r : Int32} (h1 : f_X5_status (xs (i + 1)) u = some (r, u1)) (h2 : f_X6_status (xs (i + 1)) u1 = some (r, u2)) (hk : Gl X ad b L xs 1486 [(3, .int (nI i)), (2, .ref (ad 86)), (1, .ref (ad 69)), (0, .ref b)] [] u2) : Gl X ad b L xs 1463 [(3, .int (nI i)), (2, .ref (ad 86)), (1, .ref (ad 69)), (0, .ref b)] [] u := by
  refine gl_aload_n 2 rfl dL_law_1463 rfl ?_
  refine gl_aload_n 3 rfl dL_law_1464 rfl ?_
  refine gl_iload_n 0 rfl dL_law_1465 rfl ?_
  refine gl_iconst (v := (1 : Int32)) dL_law_1466 (by decide) ?_
  refine gl_iadd dL_law_1467 ?_
  refine gl_sld (i + 1) (nI_add i 1) (by omega) (by omega) dL_law_1468 ?_
  refine gl_call (As := fun ad => [.int (xs (i + 1))]) (g_X5_status (xs (i + 1)) u) h1 mv_X5_status clX5 kt_69 lw81 rfl ⟨Nat.le_of_ble_eq_true rfl, Nat.le_of_ble_eq_true rfl⟩ rfl (Nat.le_of_ble_eq_true rfl) dL_law_1469 ?_
  show Gl X ad b L xs 1472 [(3, .int (nI i)), (2, .ref (ad 86)), (1, .ref (ad 69)), (0, .ref b)] [.int r] u1
  refine gl_aload_n 1 rfl dL_law_1472 rfl ?_
  refine gl_aload_n 3 rfl dL_law_1473 rfl ?_
  refine gl_iload_n 0 rfl dL_law_1474 rfl ?_
  refine gl_iconst (v := (1 : Int32)) dL_law_1475 (by decide) ?_
  refine gl_iadd dL_law_1476 ?_
  refine gl_sld (i + 1) (nI_add i 1) (by omega) (by omega) dL_law_1477 ?_
  refine gl_call (As := fun ad => [.int (xs (i + 1))]) (g_X6_status (xs (i + 1)) u1) h2 mv_X6_status clX6 kt_86 lw82 rfl ⟨Nat.le_of_ble_eq_true rfl, Nat.le_of_ble_eq_true rfl⟩ rfl (Nat.le_of_ble_eq_true rfl) dL_law_1478 ?_
  show Gl X ad b L xs 1481 [(3, .int (nI i)), (2, .ref (ad 86)), (1, .ref (ad 69)), (0, .ref b)] [.int r, .int r] u2
  exact gl_eqI (tgt := 1486) dL_law_1481 (by decide) hk
/-- what is asked of a call: class and reference answer alike, and what holds of the world stays -/
def StepT {α : Type} (R : Uw → Prop) (f g : Uw → Option (α × Uw)) : Prop := ∀ u, R u → ∃ r u1 u2, f u = some (r, u1) ∧ g u1 = some (r, u2) ∧ R u2
def Steps41 (R : Uw → Prop) : Prop :=
  (∀ (a0 : Int32), StepT R (fun u => f_X5_calendar a0 u) (fun u => f_X6_calendar a0 u)) ∧
  (∀ (a0 : Int32) (a1 : Int32), StepT R (fun u => f_X5_of a0 a1 u) (fun u => f_X6_of a0 a1 u)) ∧
  (∀ (a0 : Int32) (a1 : Int32) (a2 : Int32), StepT R (fun u => f_X5_set a0 a1 a2 u) (fun u => f_X6_set a0 a1 a2 u)) ∧
  (∀ (a0 : Int32) (a1 : Int32), StepT R (fun u => f_X5_turn a0 a1 u) (fun u => f_X6_turn a0 a1 u)) ∧
  (∀ (a0 : Int32) (a1 : Int32), StepT R (fun u => f_X5_as a0 a1 u) (fun u => f_X6_as a0 a1 u)) ∧
  (∀ (a0 : Int32) (a1 : Int32) (a2 : Int32), StepT R (fun u => f_X5_date a0 a1 a2 u) (fun u => f_X6_date a0 a1 a2 u)) ∧
  (∀ (a0 : Int32) (a1 : Int32), StepT R (fun u => f_X5_law a0 a1 u) (fun u => f_X6_law a0 a1 u)) ∧
  (∀ (a0 : Int32) (a1 : Int32), StepT R (fun u => f_X5_pilgrim a0 a1 u) (fun u => f_X6_pilgrim a0 a1 u)) ∧
  (∀ (a0 : Int32) (a1 : Int32), StepT R (fun u => f_X5_about a0 a1 u) (fun u => f_X6_about a0 a1 u)) ∧
  (∀ (a0 : Int32) (a1 : Int32) (a2 : Int32), StepT R (fun u => f_X5_mind a0 a1 a2 u) (fun u => f_X6_mind a0 a1 a2 u)) ∧
  (∀ (a0 : Int32) (a1 : Int32), StepT R (fun u => f_X5_drink a0 a1 u) (fun u => f_X6_drink a0 a1 u)) ∧
  (∀ (a0 : Int32), StepT R (fun u => f_X5_bathe a0 u) (fun u => f_X6_bathe a0 u)) ∧
  (∀ (a0 : Int32), StepT R (fun u => f_X5_days a0 u) (fun u => f_X6_days a0 u)) ∧
  (∀ (a0 : Int32), StepT R (fun u => f_X5_now a0 u) (fun u => f_X6_now a0 u)) ∧
  (∀ (a0 : Int32) (a1 : Int32) (a2 : Int32), StepT R (fun u => f_X5_on a0 a1 a2 u) (fun u => f_X6_on a0 a1 a2 u)) ∧
  (∀ (a0 : Int32), StepT R (fun u => f_X5_well a0 u) (fun u => f_X6_well a0 u)) ∧
  (∀ (a0 : Int32), StepT R (fun u => f_X5_next a0 u) (fun u => f_X6_next a0 u)) ∧
  (∀ (a0 : Int32) (a1 : Int32) (a2 : Int32), StepT R (fun u => f_X5_agree a0 a1 a2 u) (fun u => f_X6_agree a0 a1 a2 u)) ∧
  (∀ (a0 : Int32) (a1 : Int32) (a2 : Int32), StepT R (fun u => f_X5_row a0 a1 a2 u) (fun u => f_X6_row a0 a1 a2 u)) ∧
  (∀ (a0 : Int32), StepT R (fun u => f_X5_meet a0 u) (fun u => f_X6_meet a0 u)) ∧
  (∀ (a0 : Int32) (a1 : Int32) (a2 : Int32) (a3 : Int32), StepT R (fun u => f_X5_both a0 a1 a2 a3 u) (fun u => f_X6_both a0 a1 a2 a3 u)) ∧
  (∀ (a0 : Int32), StepT R (fun u => f_X5_trust a0 u) (fun u => f_X6_trust a0 u)) ∧
  (∀ (a0 : Int32), StepT R (fun u => f_X5_truth a0 u) (fun u => f_X6_truth a0 u)) ∧
  (∀ (a0 : Int32), StepT R (fun u => f_X5_cure a0 u) (fun u => f_X6_cure a0 u)) ∧
  (∀ (a0 : Int32) (a1 : Int32), StepT R (fun u => f_X5_kind a0 a1 u) (fun u => f_X6_kind a0 a1 u)) ∧
  (∀ (a0 : Int32) (a1 : Int32), StepT R (fun u => f_X5_begin a0 a1 u) (fun u => f_X6_begin a0 a1 u)) ∧
  (∀ (a0 : Int32), StepT R (fun u => f_X5_power a0 u) (fun u => f_X6_power a0 u)) ∧
  (∀ (a0 : Int32) (a1 : Int32), StepT R (fun u => f_X5_feed a0 a1 u) (fun u => f_X6_feed a0 a1 u)) ∧
  StepT R (fun u => f_X5_wipe u) (fun u => f_X6_wipe u) ∧
  StepT R (fun u => f_X5_spring u) (fun u => f_X6_spring u) ∧
  (∀ (a0 : Int32) (a1 : Int32) (a2 : Int32), StepT R (fun u => f_X5_sheet a0 a1 a2 u) (fun u => f_X6_sheet a0 a1 a2 u)) ∧
  (∀ (a0 : Int32) (a1 : Int32) (a2 : Int64), StepT R (fun u => f_X5_write a0 a1 a2 u) (fun u => f_X6_write a0 a1 a2 u)) ∧
  (∀ (a0 : Int32) (a1 : Int32) (a2 : Int32) (a3 : Int32) (a4 : Int32), StepT R (fun u => f_X5_copy a0 a1 a2 a3 a4 u) (fun u => f_X6_copy a0 a1 a2 a3 a4 u)) ∧
  (∀ (a0 : Int32), StepT R (fun u => f_X5_lays a0 u) (fun u => f_X6_lays a0 u)) ∧
  (∀ (a0 : Int32) (a1 : Int32), StepT R (fun u => f_X5_book a0 a1 u) (fun u => f_X6_book a0 a1 u)) ∧
  (∀ (a0 : Int32) (a1 : Int32), StepT R (fun u => f_X5_read a0 a1 u) (fun u => f_X6_read a0 a1 u)) ∧
  StepT R (fun u => f_X5_image u) (fun u => f_X6_image u) ∧
  StepT R (fun u => f_X5_undo u) (fun u => f_X6_undo u) ∧
  StepT R (fun u => f_X5_tear u) (fun u => f_X6_tear u) ∧
  (∀ (a0 : Int32), StepT R (fun u => f_X5_count a0 u) (fun u => f_X6_count a0 u)) ∧
  (∀ (a0 : Int32), StepT R (fun u => f_X5_status a0 u) (fun u => f_X6_status a0 u))
set_option maxHeartbeats 4000000 in
set_option maxRecDepth 100000 in
/-- one turn of the loop: what the script's number says -/
theorem law_turn {X : Cx} {ad : Nat → Nat} {b L : Nat} {xs : Nat → Int32} {R : Uw → Prop} (hR : Steps41 R) {i : Nat} (hi : i + 6 ≤ L) (hL : L ≤ 3072) {u : Uw} (hu : R u) (hk : ∀ u2, R u2 → Gl X ad b L xs 1486 [(3, .int (nI i)), (2, .ref (ad 86)), (1, .ref (ad 69)), (0, .ref b)] [] u2) : Gl X ad b L xs 33 [(3, .int (nI i)), (2, .ref (ad 86)), (1, .ref (ad 69)), (0, .ref b)] [.int (xs i &&& 63)] u := by
  obtain ⟨j, hj, ej⟩ := pk_andE (xs i) (m := 63) 6 (by decide)
  rw [ej]
  have hj64 : j < 64 := hj
  have hx : (nI j).toInt = (j : Int) := nI_toInt (by omega)
  obtain ⟨s0, s1, s2, s3, s4, s5, s6, s7, s8, s9, s10, s11, s12, s13, s14, s15, s16, s17, s18, s19, s20, s21, s22, s23, s24, s25, s26, s27, s28, s29, s30, s31, s32, s33, s34, s35, s36, s37, s38, s39, s40⟩ := hR
  by_cases h40 : 40 < j
  · exact gl_tout (tgt := 1486) dL_law_33 (Or.inr (by rw [hx]; omega)) (by decide) (hk u hu)
  by_cases q0 : j = 0
  · subst q0
    obtain ⟨r, u1, u2, h1, h2, h3⟩ := s0 (xs (i + 1)) u hu
    exact gl_tin (off := 179) (tgt := 212) dL_law_33 (by decide) (by decide) (by decide) (by decide) (case_0 hi hL h1 h2 (hk u2 h3))
  by_cases q1 : j = 1
  · subst q1
    obtain ⟨r, u1, u2, h1, h2, h3⟩ := s1 (xs (i + 1)) (xs (i + 2)) u hu
    exact gl_tin (off := 202) (tgt := 235) dL_law_33 (by decide) (by decide) (by decide) (by decide) (case_1 hi hL h1 h2 (hk u2 h3))
  by_cases q2 : j = 2
  · subst q2
    obtain ⟨r, u1, u2, h1, h2, h3⟩ := s2 (xs (i + 1)) (xs (i + 2)) (xs (i + 3)) u hu
    exact gl_tin (off := 235) (tgt := 268) dL_law_33 (by decide) (by decide) (by decide) (by decide) (case_2 hi hL h1 h2 (hk u2 h3))
  by_cases q3 : j = 3
  · subst q3
    obtain ⟨r, u1, u2, h1, h2, h3⟩ := s3 (xs (i + 1)) (xs (i + 2)) u hu
    exact gl_tin (off := 278) (tgt := 311) dL_law_33 (by decide) (by decide) (by decide) (by decide) (case_3 hi hL h1 h2 (hk u2 h3))
  by_cases q4 : j = 4
  · subst q4
    obtain ⟨r, u1, u2, h1, h2, h3⟩ := s4 (xs (i + 1)) (xs (i + 2)) u hu
    exact gl_tin (off := 311) (tgt := 344) dL_law_33 (by decide) (by decide) (by decide) (by decide) (case_4 hi hL h1 h2 (hk u2 h3))
  by_cases q5 : j = 5
  · subst q5
    obtain ⟨r, u1, u2, h1, h2, h3⟩ := s5 (xs (i + 1)) (xs (i + 2)) (xs (i + 3)) u hu
    exact gl_tin (off := 344) (tgt := 377) dL_law_33 (by decide) (by decide) (by decide) (by decide) (case_5 hi hL h1 h2 (hk u2 h3))
  by_cases q6 : j = 6
  · subst q6
    obtain ⟨r, u1, u2, h1, h2, h3⟩ := s6 (xs (i + 1)) (xs (i + 2)) u hu
    exact gl_tin (off := 387) (tgt := 420) dL_law_33 (by decide) (by decide) (by decide) (by decide) (case_6 hi hL h1 h2 (hk u2 h3))
  by_cases q7 : j = 7
  · subst q7
    obtain ⟨r, u1, u2, h1, h2, h3⟩ := s7 (xs (i + 1)) (xs (i + 2)) u hu
    exact gl_tin (off := 420) (tgt := 453) dL_law_33 (by decide) (by decide) (by decide) (by decide) (case_7 hi hL h1 h2 (hk u2 h3))
  by_cases q8 : j = 8
  · subst q8
    obtain ⟨r, u1, u2, h1, h2, h3⟩ := s8 (xs (i + 1)) (xs (i + 2)) u hu
    exact gl_tin (off := 453) (tgt := 486) dL_law_33 (by decide) (by decide) (by decide) (by decide) (case_8 hi hL h1 h2 (hk u2 h3))
  by_cases q9 : j = 9
  · subst q9
    obtain ⟨r, u1, u2, h1, h2, h3⟩ := s9 (xs (i + 1)) (xs (i + 2)) (xs (i + 3)) u hu
    exact gl_tin (off := 486) (tgt := 519) dL_law_33 (by decide) (by decide) (by decide) (by decide) (case_9 hi hL h1 h2 (hk u2 h3))
  by_cases q10 : j = 10
  · subst q10
    obtain ⟨r, u1, u2, h1, h2, h3⟩ := s10 (xs (i + 1)) (xs (i + 2)) u hu
    exact gl_tin (off := 529) (tgt := 562) dL_law_33 (by decide) (by decide) (by decide) (by decide) (case_10 hi hL h1 h2 (hk u2 h3))
  by_cases q11 : j = 11
  · subst q11
    obtain ⟨r, u1, u2, h1, h2, h3⟩ := s11 (xs (i + 1)) u hu
    exact gl_tin (off := 562) (tgt := 595) dL_law_33 (by decide) (by decide) (by decide) (by decide) (case_11 hi hL h1 h2 (hk u2 h3))
  by_cases q12 : j = 12
  · subst q12
    obtain ⟨r, u1, u2, h1, h2, h3⟩ := s12 (xs (i + 1)) u hu
    exact gl_tin (off := 585) (tgt := 618) dL_law_33 (by decide) (by decide) (by decide) (by decide) (case_12 hi hL h1 h2 (hk u2 h3))
  by_cases q13 : j = 13
  · subst q13
    obtain ⟨r, u1, u2, h1, h2, h3⟩ := s13 (xs (i + 1)) u hu
    exact gl_tin (off := 608) (tgt := 641) dL_law_33 (by decide) (by decide) (by decide) (by decide) (case_13 hi hL h1 h2 (hk u2 h3))
  by_cases q14 : j = 14
  · subst q14
    obtain ⟨r, u1, u2, h1, h2, h3⟩ := s14 (xs (i + 1)) (xs (i + 2)) (xs (i + 3)) u hu
    exact gl_tin (off := 631) (tgt := 664) dL_law_33 (by decide) (by decide) (by decide) (by decide) (case_14 hi hL h1 h2 (hk u2 h3))
  by_cases q15 : j = 15
  · subst q15
    obtain ⟨r, u1, u2, h1, h2, h3⟩ := s15 (xs (i + 1)) u hu
    exact gl_tin (off := 674) (tgt := 707) dL_law_33 (by decide) (by decide) (by decide) (by decide) (case_15 hi hL h1 h2 (hk u2 h3))
  by_cases q16 : j = 16
  · subst q16
    obtain ⟨r, u1, u2, h1, h2, h3⟩ := s16 (xs (i + 1)) u hu
    exact gl_tin (off := 697) (tgt := 730) dL_law_33 (by decide) (by decide) (by decide) (by decide) (case_16 hi hL h1 h2 (hk u2 h3))
  by_cases q17 : j = 17
  · subst q17
    obtain ⟨r, u1, u2, h1, h2, h3⟩ := s17 (xs (i + 1)) (xs (i + 2)) (xs (i + 3)) u hu
    exact gl_tin (off := 720) (tgt := 753) dL_law_33 (by decide) (by decide) (by decide) (by decide) (case_17 hi hL h1 h2 (hk u2 h3))
  by_cases q18 : j = 18
  · subst q18
    obtain ⟨r, u1, u2, h1, h2, h3⟩ := s18 (xs (i + 1)) (xs (i + 2)) (xs (i + 3)) u hu
    exact gl_tin (off := 763) (tgt := 796) dL_law_33 (by decide) (by decide) (by decide) (by decide) (case_18 hi hL h1 h2 (hk u2 h3))
  by_cases q19 : j = 19
  · subst q19
    obtain ⟨r, u1, u2, h1, h2, h3⟩ := s19 (xs (i + 1)) u hu
    exact gl_tin (off := 806) (tgt := 839) dL_law_33 (by decide) (by decide) (by decide) (by decide) (case_19 hi hL h1 h2 (hk u2 h3))
  by_cases q20 : j = 20
  · subst q20
    obtain ⟨r, u1, u2, h1, h2, h3⟩ := s20 (xs (i + 1)) (xs (i + 2)) (xs (i + 3)) (xs (i + 4)) u hu
    exact gl_tin (off := 829) (tgt := 862) dL_law_33 (by decide) (by decide) (by decide) (by decide) (case_20 hi hL h1 h2 (hk u2 h3))
  by_cases q21 : j = 21
  · subst q21
    obtain ⟨r, u1, u2, h1, h2, h3⟩ := s21 (xs (i + 1)) u hu
    exact gl_tin (off := 882) (tgt := 915) dL_law_33 (by decide) (by decide) (by decide) (by decide) (case_21 hi hL h1 h2 (hk u2 h3))
  by_cases q22 : j = 22
  · subst q22
    obtain ⟨r, u1, u2, h1, h2, h3⟩ := s22 (xs (i + 1)) u hu
    exact gl_tin (off := 905) (tgt := 938) dL_law_33 (by decide) (by decide) (by decide) (by decide) (case_22 hi hL h1 h2 (hk u2 h3))
  by_cases q23 : j = 23
  · subst q23
    obtain ⟨r, u1, u2, h1, h2, h3⟩ := s23 (xs (i + 1)) u hu
    exact gl_tin (off := 928) (tgt := 961) dL_law_33 (by decide) (by decide) (by decide) (by decide) (case_23 hi hL h1 h2 (hk u2 h3))
  by_cases q24 : j = 24
  · subst q24
    obtain ⟨r, u1, u2, h1, h2, h3⟩ := s24 (xs (i + 1)) (xs (i + 2)) u hu
    exact gl_tin (off := 951) (tgt := 984) dL_law_33 (by decide) (by decide) (by decide) (by decide) (case_24 hi hL h1 h2 (hk u2 h3))
  by_cases q25 : j = 25
  · subst q25
    obtain ⟨r, u1, u2, h1, h2, h3⟩ := s25 (xs (i + 1)) (xs (i + 2)) u hu
    exact gl_tin (off := 984) (tgt := 1017) dL_law_33 (by decide) (by decide) (by decide) (by decide) (case_25 hi hL h1 h2 (hk u2 h3))
  by_cases q26 : j = 26
  · subst q26
    obtain ⟨r, u1, u2, h1, h2, h3⟩ := s26 (xs (i + 1)) u hu
    exact gl_tin (off := 1017) (tgt := 1050) dL_law_33 (by decide) (by decide) (by decide) (by decide) (case_26 hi hL h1 h2 (hk u2 h3))
  by_cases q27 : j = 27
  · subst q27
    obtain ⟨r, u1, u2, h1, h2, h3⟩ := s27 (xs (i + 1)) (xs (i + 2)) u hu
    exact gl_tin (off := 1040) (tgt := 1073) dL_law_33 (by decide) (by decide) (by decide) (by decide) (case_27 hi hL h1 h2 (hk u2 h3))
  by_cases q28 : j = 28
  · subst q28
    obtain ⟨r, u1, u2, h1, h2, h3⟩ := s28 u hu
    exact gl_tin (off := 1073) (tgt := 1106) dL_law_33 (by decide) (by decide) (by decide) (by decide) (case_28 hi hL h1 h2 (hk u2 h3))
  by_cases q29 : j = 29
  · subst q29
    obtain ⟨r, u1, u2, h1, h2, h3⟩ := s29 u hu
    exact gl_tin (off := 1086) (tgt := 1119) dL_law_33 (by decide) (by decide) (by decide) (by decide) (case_29 hi hL h1 h2 (hk u2 h3))
  by_cases q30 : j = 30
  · subst q30
    obtain ⟨r, u1, u2, h1, h2, h3⟩ := s30 (xs (i + 1)) (xs (i + 2)) (xs (i + 3)) u hu
    exact gl_tin (off := 1099) (tgt := 1132) dL_law_33 (by decide) (by decide) (by decide) (by decide) (case_30 hi hL h1 h2 (hk u2 h3))
  by_cases q31 : j = 31
  · subst q31
    obtain ⟨r, u1, u2, h1, h2, h3⟩ := s31 (xs (i + 1)) (xs (i + 2)) (((xs (i + 3)).toInt64 <<< ((32 : Int32).toInt64 &&& 63)) ||| ((xs (i + 4)).toInt64 &&& (4294967295 : Int64))) u hu
    exact gl_tin (off := 1142) (tgt := 1175) dL_law_33 (by decide) (by decide) (by decide) (by decide) (case_31 hi hL h1 h2 (hk u2 h3))
  by_cases q32 : j = 32
  · subst q32
    obtain ⟨r, u1, u2, h1, h2, h3⟩ := s32 (xs (i + 1)) (xs (i + 2)) (xs (i + 3)) (xs (i + 4)) (xs (i + 5)) u hu
    exact gl_tin (off := 1216) (tgt := 1249) dL_law_33 (by decide) (by decide) (by decide) (by decide) (case_32 hi hL h1 h2 (hk u2 h3))
  by_cases q33 : j = 33
  · subst q33
    obtain ⟨r, u1, u2, h1, h2, h3⟩ := s33 (xs (i + 1)) u hu
    exact gl_tin (off := 1279) (tgt := 1312) dL_law_33 (by decide) (by decide) (by decide) (by decide) (case_33 hi hL h1 h2 (hk u2 h3))
  by_cases q34 : j = 34
  · subst q34
    obtain ⟨r, u1, u2, h1, h2, h3⟩ := s34 (xs (i + 1)) (xs (i + 2)) u hu
    exact gl_tin (off := 1302) (tgt := 1335) dL_law_33 (by decide) (by decide) (by decide) (by decide) (case_34 hi hL h1 h2 (hk u2 h3))
  by_cases q35 : j = 35
  · subst q35
    obtain ⟨r, u1, u2, h1, h2, h3⟩ := s35 (xs (i + 1)) (xs (i + 2)) u hu
    exact gl_tin (off := 1335) (tgt := 1368) dL_law_33 (by decide) (by decide) (by decide) (by decide) (case_35 hi hL h1 h2 (hk u2 h3))
  by_cases q36 : j = 36
  · subst q36
    obtain ⟨r, u1, u2, h1, h2, h3⟩ := s36 u hu
    exact gl_tin (off := 1368) (tgt := 1401) dL_law_33 (by decide) (by decide) (by decide) (by decide) (case_36 hi hL h1 h2 (hk u2 h3))
  by_cases q37 : j = 37
  · subst q37
    obtain ⟨r, u1, u2, h1, h2, h3⟩ := s37 u hu
    exact gl_tin (off := 1381) (tgt := 1414) dL_law_33 (by decide) (by decide) (by decide) (by decide) (case_37 hi hL h1 h2 (hk u2 h3))
  by_cases q38 : j = 38
  · subst q38
    obtain ⟨r, u1, u2, h1, h2, h3⟩ := s38 u hu
    exact gl_tin (off := 1394) (tgt := 1427) dL_law_33 (by decide) (by decide) (by decide) (by decide) (case_38 hi hL h1 h2 (hk u2 h3))
  by_cases q39 : j = 39
  · subst q39
    obtain ⟨r, u1, u2, h1, h2, h3⟩ := s39 (xs (i + 1)) u hu
    exact gl_tin (off := 1407) (tgt := 1440) dL_law_33 (by decide) (by decide) (by decide) (by decide) (case_39 hi hL h1 h2 (hk u2 h3))
  by_cases q40 : j = 40
  · subst q40
    obtain ⟨r, u1, u2, h1, h2, h3⟩ := s40 (xs (i + 1)) u hu
    exact gl_tin (off := 1430) (tgt := 1463) dL_law_33 (by decide) (by decide) (by decide) (by decide) (case_40 hi hL h1 h2 (hk u2 h3))
  omega
theorem law_loop {X : Cx} {ad : Nat → Nat} {b L : Nat} {xs : Nat → Int32} {R : Uw → Prop} (hR : Steps41 R) (hL : L ≤ 3072) : ∀ (n i : Nat) (u : Uw), L + 7 ≤ i + n → i ≤ L + 6 → R u → Gl X ad b L xs 18 [(3, .int (nI i)), (2, .ref (ad 86)), (1, .ref (ad 69)), (0, .ref b)] [] u := by
  intro n
  induction n with
  | zero => intro i u h1 h2; omega
  | succ n ih =>
    intro i u h1 h2 hu
    refine gl_iload_n 0 rfl dL_law_18 rfl ?_
    refine gl_aload_n 3 rfl dL_law_19 rfl ?_
    refine gl_slen dL_law_20 (by omega) ?_
    refine gl_bipush (v := (6 : Int32)) dL_law_21 (by decide) ?_
    refine gl_isub dL_law_23 ?_
    have e6 : nI L - 6 = nI L - nI 6 := rfl
    have hsub : (nI L - 6).toInt = (L : Int) - 6 := by rw [e6]; exact pk_sub_toInt (by omega) (by omega)
    have hiI : (nI i).toInt = (i : Int) := nI_toInt (by omega)
    refine gl_gt (tgt := 1492) dL_law_24 (by decide) (fun _ => ?_) (fun hc => ?_)
    · refine gl_iconst (v := (1 : Int32)) dL_law_1492 (by decide) ?_
      exact gl_end dL_law_1493
    · have hi : i + 6 ≤ L := by
        have h3 := Int32.not_lt.mp hc
        have h4 := Int32.le_iff_toInt_le.mp h3
        rw [hsub, hiI] at h4
        omega
      refine gl_aload_n 3 rfl dL_law_27 rfl ?_
      refine gl_iload_n 0 rfl dL_law_28 rfl ?_
      refine gl_sld i rfl (by omega) (by omega) dL_law_29 ?_
      refine gl_bipush (v := (63 : Int32)) dL_law_30 (by decide) ?_
      refine gl_iand dL_law_32 ?_
      refine law_turn hR hi hL hu (fun u2 hu2 => ?_)
      refine gl_iinc (v := nI (i + 6)) (lv' := [(3, .int (nI (i + 6))), (2, .ref (ad 86)), (1, .ref (ad 69)), (0, .ref b)]) 0 rfl dL_law_1486 (nI_add i 6) (by decide) rfl ?_
      refine gl_goto (tgt := 18) dL_law_1489 (by decide) ?_
      exact ih (i + 6) u2 (by omega) (by omega) hu2
