/-! THE CONSTRUCTORS -/
theorem cw0 : Cond.methodLink RX0 3 objectInit ∈ GW := GW_in (inT_1 (List.mem_of_getElem? (i := 37) rfl)) rfl
theorem cw1 : Cond.instanceMethod objectInit ∈ GW := GW_in (inT_1 (List.mem_of_getElem? (i := 21) rfl)) rfl
theorem cw2 : Cond.code objectInit ⟨#[0xb1]⟩ 1 none ∈ GW := GW_in (inT_1 (List.mem_of_getElem? (i := 22) rfl)) rfl
theorem cw3 : Cond.arrayClass .int ∈ GW := GW_in (inT_1 (List.mem_of_getElem? (i := 42) rfl)) rfl
theorem cw4 : Cond.code yX0_init cX0_init 1 (none) ∈ GW := GW_in (inT_1 (List.mem_of_getElem? (i := 36) rfl)) rfl
theorem cw5 : Cond.instanceMethod yX0_init ∈ GW := GW_in (inT_1 (List.mem_of_getElem? (i := 35) rfl)) rfl
theorem cw6 : Cond.methodLink RX1 3 objectInit ∈ GW := GW_in (inT_1 (List.mem_of_getElem? (i := 47) rfl)) rfl
theorem cw7 : Cond.code yX1_init cX1_init 1 (none) ∈ GW := GW_in (inT_1 (List.mem_of_getElem? (i := 46) rfl)) rfl
theorem cw8 : Cond.instanceMethod yX1_init ∈ GW := GW_in (inT_1 (List.mem_of_getElem? (i := 45) rfl)) rfl
theorem cw9 : Cond.methodLink RX2 3 objectInit ∈ GW := GW_in (inT_1 (List.mem_of_getElem? (i := 145) rfl)) rfl
theorem cw10 : Cond.arrayClass .long ∈ GW := GW_in (inT_1 (List.mem_of_getElem? (i := 159) rfl)) rfl
theorem cw11 : Cond.code yX2_init cX2_init 1 (none) ∈ GW := GW_in (inT_1 (List.mem_of_getElem? (i := 144) rfl)) rfl
theorem cw12 : Cond.instanceMethod yX2_init ∈ GW := GW_in (inT_1 (List.mem_of_getElem? (i := 143) rfl)) rfl
theorem cw13 : Cond.methodLink RX3 3 objectInit ∈ GW := GW_in (inT_1 (List.mem_of_getElem? (i := 28) rfl)) rfl
theorem cw14 : Cond.classLink RX3 15 RX0 ∈ GW := GW_in (inT_1 (List.mem_of_getElem? (i := 29) rfl)) rfl
theorem cw15 : Cond.classLink RX3 21 RX1 ∈ GW := GW_in (inT_1 (List.mem_of_getElem? (i := 31) rfl)) rfl
theorem cw16 : Cond.instantiable RX0 1 ∈ GW := GW_in (inT_1 (List.mem_of_getElem? (i := 33) rfl)) rfl
theorem cn17 : Cond.methodLinkNest RX3 27 yX0_init "EvenSpring" ∈ NW := List.mem_of_getElem? (i := 0) rfl
theorem cw18 : Cond.instantiable RX1 3 ∈ GW := GW_in (inT_1 (List.mem_of_getElem? (i := 43) rfl)) rfl
theorem cn19 : Cond.methodLinkNest RX3 28 yX1_init "EvenSpring" ∈ NW := List.mem_of_getElem? (i := 1) rfl
theorem cw20 : Cond.code yX3_init cX3_init 2 (none) ∈ GW := GW_in (inT_1 (List.mem_of_getElem? (i := 27) rfl)) rfl
theorem cw21 : Cond.instanceMethod yX3_init ∈ GW := GW_in (inT_1 (List.mem_of_getElem? (i := 26) rfl)) rfl
theorem cw22 : Cond.methodLink RX4 3 objectInit ∈ GW := GW_in (inT_1 (List.mem_of_getElem? (i := 107) rfl)) rfl
theorem cw23 : Cond.arrayClass .byte ∈ GW := GW_in (inT_1 (List.mem_of_getElem? (i := 134) rfl)) rfl
theorem cw24 : Cond.classLink RX4 15 RX3 ∈ GW := GW_in (inT_1 (List.mem_of_getElem? (i := 108) rfl)) rfl
theorem cw25 : Cond.instantiable RX3 9 ∈ GW := GW_in (inT_1 (List.mem_of_getElem? (i := 24) rfl)) rfl
theorem cw26 : Cond.methodLink RX4 17 yX3_init ∈ GW := GW_in (inT_1 (List.mem_of_getElem? (i := 109) rfl)) rfl
theorem cw27 : Cond.code yX4_init cX4_init 1 (none) ∈ GW := GW_in (inT_1 (List.mem_of_getElem? (i := 106) rfl)) rfl
theorem cw28 : Cond.instanceMethod yX4_init ∈ GW := GW_in (inT_1 (List.mem_of_getElem? (i := 105) rfl)) rfl
theorem cw29 : Cond.methodLink RX5 3 objectInit ∈ GW := GW_in (inT_1 (List.mem_of_getElem? (i := 20) rfl)) rfl
theorem cw30 : Cond.classLink RX5 9 RX3 ∈ GW := GW_in (inT_1 (List.mem_of_getElem? (i := 23) rfl)) rfl
theorem cw31 : Cond.methodLink RX5 11 yX3_init ∈ GW := GW_in (inT_1 (List.mem_of_getElem? (i := 25) rfl)) rfl
theorem cw32 : Cond.classLink RX5 19 RX4 ∈ GW := GW_in (inT_1 (List.mem_of_getElem? (i := 102) rfl)) rfl
theorem cw33 : Cond.instantiable RX4 7 ∈ GW := GW_in (inT_1 (List.mem_of_getElem? (i := 103) rfl)) rfl
theorem cn34 : Cond.methodLinkNest RX5 21 yX4_init "EvenSpring" ∈ NW := List.mem_of_getElem? (i := 18) rfl
theorem cw35 : Cond.classLink RX5 26 RX2 ∈ GW := GW_in (inT_1 (List.mem_of_getElem? (i := 135) rfl)) rfl
theorem cw36 : Cond.classLink RX5 39 RX1 ∈ GW := GW_in (inT_1 (List.mem_of_getElem? (i := 137) rfl)) rfl
theorem cn37 : Cond.methodLinkNest RX5 41 yX1_init "EvenSpring" ∈ NW := List.mem_of_getElem? (i := 21) rfl
theorem cw38 : Cond.classLink RX5 46 RX0 ∈ GW := GW_in (inT_1 (List.mem_of_getElem? (i := 139) rfl)) rfl
theorem cn39 : Cond.methodLinkNest RX5 48 yX0_init "EvenSpring" ∈ NW := List.mem_of_getElem? (i := 22) rfl
theorem cw40 : Cond.instantiable RX2 3 ∈ GW := GW_in (inT_1 (List.mem_of_getElem? (i := 141) rfl)) rfl
theorem cn41 : Cond.methodLinkNest RX5 53 yX2_init "EvenSpring" ∈ NW := List.mem_of_getElem? (i := 23) rfl
theorem cw42 : Cond.code yX5_init cX5_init 2 (none) ∈ GW := GW_in (inT_1 (List.mem_of_getElem? (i := 19) rfl)) rfl
theorem cw43 : Cond.instanceMethod yX5_init ∈ GW := GW_in (inT_1 (List.mem_of_getElem? (i := 18) rfl)) rfl
theorem cw44 : Cond.methodLink RX6 1 objectInit ∈ GW := GW_in (inT_4 (List.mem_of_getElem? (i := 32) rfl)) rfl
theorem cw45 : Cond.code yX6_init cX6_init 1 (none) ∈ GW := GW_in (inT_4 (List.mem_of_getElem? (i := 31) rfl)) rfl
theorem cw46 : Cond.instanceMethod yX6_init ∈ GW := GW_in (inT_4 (List.mem_of_getElem? (i := 30) rfl)) rfl
def FX0 : Fw := fun cA a => [((a 0), .inr (0, [.ref (a 1)])), ((a 1), .inl (cA 0, (5, .inl (fun _ => 0))))]
abbrev mi_X0 : Mi := (cX0_init, RX0, 1, none, { frames := 1, cells := 1, slots := 5, locals := 20 })
theorem mn_X0 : MIN yX0_init mi_X0 1 5 := ⟨cw4, gw326, ⟨by decide, by decide, by decide +kernel⟩, rfl, rfl, rfl, cw5⟩
set_option maxHeartbeats 4000000 in
set_option maxRecDepth 100000 in
theorem cn_X0 : ∀ l, ConN l yX0_init mi_X0 (.inr (0, [.null])) 1 5 FX0 := by
  refine con_ofN (by decide) rfl rfl (by decide) rfl (fun X h0 A => ?_)
  refine gn_aload_n 0 rfl dX0_init_0 rfl ?_
  refine gn_obj cw0 cw1 cw2 dX0_init_1 (Nat.le_of_ble_eq_true rfl) (Nat.le_of_ble_eq_true rfl) ?_
  refine gn_aload_n 0 rfl dX0_init_4 rfl ?_
  refine gn_iconst (v := (5 : Int32)) dX0_init_5 (by decide) ?_
  refine gn_newa (atype := .int) (ty := .int) rfl 0 (fun _ => rfl) cw3 5 (5, .inl (fun _ => 0)) (fun _ => rfl) (by decide) (by decide) (Nat.le_of_ble_eq_true rfl) (Nat.le_of_ble_eq_true rfl) (Nat.le_of_ble_eq_true rfl) dX0_init_6 (fun q1 => ?_)
  refine gn_putF (ws' := (fun cA => [(h0, .inr (0, [.ref q1]))] ++ [(q1, .inl (cA 0, (5, .inl (fun _ => 0))))])) clX0 0 0 (Nat.le_of_ble_eq_true rfl) (fun _ => rfl) (fun _ => rfl) rfl rfl rfl rfl (Nat.le_of_ble_eq_true rfl) gw5 dX0_init_8 ?_
  exact gn_ret rfl (fun D cA H hP hD => ⟨fun n => [h0, q1].getD n 0, rfl, hP, hD⟩) dX0_init_11
def FX1 : Fw := fun cA a => [((a 0), .inr (1, [.int 0, .int 0, .int 0]))]
abbrev mi_X1 : Mi := (cX1_init, RX1, 1, none, { frames := 1, cells := 0, slots := 0, locals := 20 })
theorem mn_X1 : MIN yX1_init mi_X1 0 0 := ⟨cw7, gw365, ⟨by decide, by decide, by decide +kernel⟩, rfl, rfl, rfl, cw8⟩
set_option maxHeartbeats 4000000 in
set_option maxRecDepth 100000 in
theorem cn_X1 : ∀ l, ConN l yX1_init mi_X1 (.inr (1, [.int 0, .int 0, .int 0])) 0 0 FX1 := by
  refine con_ofN (by decide) rfl rfl (by decide) rfl (fun X h0 A => ?_)
  refine gn_aload_n 0 rfl dX1_init_0 rfl ?_
  refine gn_obj cw6 cw1 cw2 dX1_init_1 (Nat.le_of_ble_eq_true rfl) (Nat.le_of_ble_eq_true rfl) ?_
  exact gn_ret rfl (fun D cA H hP hD => ⟨fun n => [h0].getD n 0, rfl, hP, hD⟩) dX1_init_4
def FX2 : Fw := fun cA a => [((a 0), .inr (2, [.int 0, .int 0, .ref (a 1)])), ((a 1), .inl (cA 1, (40, .inr (.inl (fun _ => 0)))))]
abbrev mi_X2 : Mi := (cX2_init, RX2, 1, none, { frames := 1, cells := 1, slots := 40, locals := 20 })
theorem mn_X2 : MIN yX2_init mi_X2 1 40 := ⟨cw11, gw383, ⟨by decide, by decide, by decide +kernel⟩, rfl, rfl, rfl, cw12⟩
set_option maxHeartbeats 4000000 in
set_option maxRecDepth 100000 in
theorem cn_X2 : ∀ l, ConN l yX2_init mi_X2 (.inr (2, [.int 0, .int 0, .null])) 1 40 FX2 := by
  refine con_ofN (by decide) rfl rfl (by decide) rfl (fun X h0 A => ?_)
  refine gn_aload_n 0 rfl dX2_init_0 rfl ?_
  refine gn_obj cw9 cw1 cw2 dX2_init_1 (Nat.le_of_ble_eq_true rfl) (Nat.le_of_ble_eq_true rfl) ?_
  refine gn_aload_n 0 rfl dX2_init_4 rfl ?_
  refine gn_bipush (v := (40 : Int32)) dX2_init_5 (by decide) ?_
  refine gn_newa (atype := .long) (ty := .long) rfl 1 (fun _ => rfl) cw10 40 (40, .inr (.inl (fun _ => 0))) (fun _ => rfl) (by decide) (by decide) (Nat.le_of_ble_eq_true rfl) (Nat.le_of_ble_eq_true rfl) (Nat.le_of_ble_eq_true rfl) dX2_init_7 (fun q1 => ?_)
  refine gn_putF (ws' := (fun cA => [(h0, .inr (2, [.int 0, .int 0, .ref q1]))] ++ [(q1, .inl (cA 1, (40, .inr (.inl (fun _ => 0)))))])) clX2 0 2 (Nat.le_of_ble_eq_true rfl) (fun _ => rfl) (fun _ => rfl) rfl rfl rfl rfl (Nat.le_of_ble_eq_true rfl) gw35 dX2_init_9 ?_
  exact gn_ret rfl (fun D cA H hP hD => ⟨fun n => [h0, q1].getD n 0, rfl, hP, hD⟩) dX2_init_12
def FX3 : Fw := fun cA a => [((a 0), .inr (3, [.int 0, .int (10 : Int32), .int 0, .int 0, .int 0, .int 0, .int 0, .ref (a 1), .ref (a 2)])), ((a 1), .inl (cA 3, (6, .inr (.inr (.inr (.inr (va_up (va_up (va_up (va_up (va_up (va_up (fun _ => none) 0 (some (a 3))) 1 (some (a 5))) 2 (some (a 7))) 3 (some (a 9))) 4 (some (a 11))) 5 (some (a 13))))))))), ((a 2), .inl (cA 4, (8, .inr (.inr (.inr (.inr (va_up (va_up (va_up (va_up (va_up (va_up (va_up (va_up (fun _ => none) 0 (some (a 15))) 1 (some (a 16))) 2 (some (a 17))) 3 (some (a 18))) 4 (some (a 19))) 5 (some (a 20))) 6 (some (a 21))) 7 (some (a 22))))))))), ((a 3), .inr (0, [.ref (a 4)])), ((a 4), .inl (cA 0, (5, .inl (fun _ => 0)))), ((a 5), .inr (0, [.ref (a 6)])), ((a 6), .inl (cA 0, (5, .inl (fun _ => 0)))), ((a 7), .inr (0, [.ref (a 8)])), ((a 8), .inl (cA 0, (5, .inl (fun _ => 0)))), ((a 9), .inr (0, [.ref (a 10)])), ((a 10), .inl (cA 0, (5, .inl (fun _ => 0)))), ((a 11), .inr (0, [.ref (a 12)])), ((a 12), .inl (cA 0, (5, .inl (fun _ => 0)))), ((a 13), .inr (0, [.ref (a 14)])), ((a 14), .inl (cA 0, (5, .inl (fun _ => 0)))), ((a 15), .inr (1, [.int 0, .int 0, .int 0])), ((a 16), .inr (1, [.int 0, .int 0, .int 0])), ((a 17), .inr (1, [.int 0, .int 0, .int 0])), ((a 18), .inr (1, [.int 0, .int 0, .int 0])), ((a 19), .inr (1, [.int 0, .int 0, .int 0])), ((a 20), .inr (1, [.int 0, .int 0, .int 0])), ((a 21), .inr (1, [.int 0, .int 0, .int 0])), ((a 22), .inr (1, [.int 0, .int 0, .int 0]))]
abbrev mi_X3 : Mi := (cX3_init, RX3, 2, none, { frames := 2, cells := 22, slots := 74, locals := 40 })
theorem mn_X3 : MIN yX3_init mi_X3 22 74 := ⟨cw20, gw403, ⟨by decide, by decide, by decide +kernel⟩, rfl, rfl, rfl, cw21⟩
set_option maxHeartbeats 4000000 in
set_option maxRecDepth 100000 in
theorem cn_X3 : ∀ l, ConN l yX3_init mi_X3 (.inr (3, [.int 0, .int 0, .int 0, .int 0, .int 0, .int 0, .int 0, .null, .null])) 22 74 FX3 := by
  refine con_ofN (by decide) rfl rfl (by decide) rfl (fun X h0 A => ?_)
  refine gn_aload_n 0 rfl dX3_init_0 rfl ?_
  refine gn_obj cw13 cw1 cw2 dX3_init_1 (Nat.le_of_ble_eq_true rfl) (Nat.le_of_ble_eq_true rfl) ?_
  refine gn_aload_n 0 rfl dX3_init_4 rfl ?_
  refine gn_bipush (v := (10 : Int32)) dX3_init_5 (by decide) ?_
  refine gn_put (ws' := (fun cA => [(h0, .inr (3, [.int 0, .int (10 : Int32), .int 0, .int 0, .int 0, .int 0, .int 0, .null, .null]))])) clX3 0 1 (Nat.le_of_ble_eq_true rfl) (fun _ => rfl) (fun _ => rfl) rfl rfl rfl (Nat.le_of_ble_eq_true rfl) gw38 dX3_init_7 ?_
  refine gn_aload_n 0 rfl dX3_init_10 rfl ?_
  refine gn_bipush (v := (6 : Int32)) dX3_init_11 (by decide) ?_
  refine gn_newq (C := RX0) 3 (fun _ => rfl) cw14 (fun _ h => h.1) 6 (by decide) (by decide) (Nat.le_of_ble_eq_true rfl) (Nat.le_of_ble_eq_true rfl) (Nat.le_of_ble_eq_true rfl) dX3_init_13 (fun q1 => ?_)
  refine gn_putF (ws' := (fun cA => [(h0, .inr (3, [.int 0, .int (10 : Int32), .int 0, .int 0, .int 0, .int 0, .int 0, .ref q1, .null]))] ++ [(q1, .inl (cA 3, (6, .inr (.inr (.inr (.inr (fun _ => none)))))))])) clX3 0 7 (Nat.le_of_ble_eq_true rfl) (fun _ => rfl) (fun _ => rfl) rfl rfl rfl rfl (Nat.le_of_ble_eq_true rfl) gw44 dX3_init_16 ?_
  refine gn_aload_n 0 rfl dX3_init_19 rfl ?_
  refine gn_bipush (v := (8 : Int32)) dX3_init_20 (by decide) ?_
  refine gn_newq (C := RX1) 4 (fun _ => rfl) cw15 (fun _ h => h.2.1) 8 (by decide) (by decide) (Nat.le_of_ble_eq_true rfl) (Nat.le_of_ble_eq_true rfl) (Nat.le_of_ble_eq_true rfl) dX3_init_22 (fun q2 => ?_)
  refine gn_putF (ws' := (fun cA => [(h0, .inr (3, [.int 0, .int (10 : Int32), .int 0, .int 0, .int 0, .int 0, .int 0, .ref q1, .ref q2]))] ++ [(q1, .inl (cA 3, (6, .inr (.inr (.inr (.inr (fun _ => none)))))))] ++ [(q2, .inl (cA 4, (8, .inr (.inr (.inr (.inr (fun _ => none)))))))])) clX3 0 8 (Nat.le_of_ble_eq_true rfl) (fun _ => rfl) (fun _ => rfl) rfl rfl rfl rfl (Nat.le_of_ble_eq_true rfl) gw45 dX3_init_25 ?_
  refine gn_iconst (v := (0 : Int32)) dX3_init_28 (by decide) ?_
  refine gn_istore_n (lv' := [(1, .int (0 : Int32)), (0, .ref h0)]) dX3_init_29 rfl (Nat.le_of_ble_eq_true rfl) rfl ?_
  refine gn_iload_n 0 rfl dX3_init_30 rfl ?_
  refine gn_aload_n 1 rfl dX3_init_31 rfl ?_
  refine gn_get clX3 0 7 (Nat.le_of_ble_eq_true rfl) (fun _ => rfl) rfl gw44 dX3_init_32 ?_
  refine gn_alen 1 3 (fun _ => rfl) (fun _ => rfl) (v := (6 : Int32)) rfl dX3_init_35 ?_
  refine gn_ge_f (tgt := 58) (by decide) dX3_init_36 (by decide) ?_
  refine gn_aload_n 1 rfl dX3_init_39 rfl ?_
  refine gn_get clX3 0 7 (Nat.le_of_ble_eq_true rfl) (fun _ => rfl) rfl gw44 dX3_init_40 ?_
  refine gn_iload_n 0 rfl dX3_init_43 rfl ?_
  refine gn_new clX0 [.null] (fun j hj => by rcases (show j = 0 by omega) with rfl <;> rfl) cw14 cw16 gw326 (Nat.le_of_ble_eq_true rfl) (Nat.le_of_ble_eq_true rfl) dX3_init_44 (fun q3 => ?_)
  refine gn_dup dX3_init_47 rfl ?_
  refine gn_initN (cn_X0) mn_X0 cn17 ⟨Nat.le_of_ble_eq_true rfl, Nat.le_of_ble_eq_true rfl⟩ (Nat.le_of_ble_eq_true rfl) dX3_init_48 ⟨Nat.le_of_ble_eq_true rfl, Nat.le_of_ble_eq_true rfl⟩ (fun a4 h5 => ?_)
  subst h5
  refine gn_ast (ws' := (fun cA => [(h0, .inr (3, [.int 0, .int (10 : Int32), .int 0, .int 0, .int 0, .int 0, .int 0, .ref q1, .ref q2]))] ++ [(q1, .inl (cA 3, (6, .inr (.inr (.inr (.inr (va_up (fun _ => none) 0 (some (a4 0)))))))))] ++ [(q2, .inl (cA 4, (8, .inr (.inr (.inr (.inr (fun _ => none)))))))] ++ FX0 cA a4)) 1 3 3 0 rfl (fun _ => rfl) (fun _ => rfl) (fun _ => rfl) rfl (fun _ => rfl) dX3_init_51 ?_
  refine gn_iinc (v := (1 : Int32)) (lv' := [(1, .int (1 : Int32)), (0, .ref h0)]) 0 rfl dX3_init_52 (by decide) (Nat.le_of_ble_eq_true rfl) rfl ?_
  refine gn_goto (tgt := 30) dX3_init_55 (by decide) ?_
  refine gn_iload_n 0 rfl dX3_init_30 rfl ?_
  refine gn_aload_n 1 rfl dX3_init_31 rfl ?_
  refine gn_get clX3 0 7 (Nat.le_of_ble_eq_true rfl) (fun _ => rfl) rfl gw44 dX3_init_32 ?_
  refine gn_alen 1 3 (fun _ => rfl) (fun _ => rfl) (v := (6 : Int32)) rfl dX3_init_35 ?_
  refine gn_ge_f (tgt := 58) (by decide) dX3_init_36 (by decide) ?_
  refine gn_aload_n 1 rfl dX3_init_39 rfl ?_
  refine gn_get clX3 0 7 (Nat.le_of_ble_eq_true rfl) (fun _ => rfl) rfl gw44 dX3_init_40 ?_
  refine gn_iload_n 0 rfl dX3_init_43 rfl ?_
  refine gn_new clX0 [.null] (fun j hj => by rcases (show j = 0 by omega) with rfl <;> rfl) cw14 cw16 gw326 (Nat.le_of_ble_eq_true rfl) (Nat.le_of_ble_eq_true rfl) dX3_init_44 (fun q6 => ?_)
  refine gn_dup dX3_init_47 rfl ?_
  refine gn_initN (cn_X0) mn_X0 cn17 ⟨Nat.le_of_ble_eq_true rfl, Nat.le_of_ble_eq_true rfl⟩ (Nat.le_of_ble_eq_true rfl) dX3_init_48 ⟨Nat.le_of_ble_eq_true rfl, Nat.le_of_ble_eq_true rfl⟩ (fun a7 h8 => ?_)
  subst h8
  refine gn_ast (ws' := (fun cA => [(h0, .inr (3, [.int 0, .int (10 : Int32), .int 0, .int 0, .int 0, .int 0, .int 0, .ref q1, .ref q2]))] ++ [(q1, .inl (cA 3, (6, .inr (.inr (.inr (.inr (va_up (va_up (fun _ => none) 0 (some (a4 0))) 1 (some (a7 0)))))))))] ++ [(q2, .inl (cA 4, (8, .inr (.inr (.inr (.inr (fun _ => none)))))))] ++ FX0 cA a4 ++ FX0 cA a7)) 1 3 5 0 rfl (fun _ => rfl) (fun _ => rfl) (fun _ => rfl) rfl (fun _ => rfl) dX3_init_51 ?_
  refine gn_iinc (v := (2 : Int32)) (lv' := [(1, .int (2 : Int32)), (0, .ref h0)]) 0 rfl dX3_init_52 (by decide) (Nat.le_of_ble_eq_true rfl) rfl ?_
  refine gn_goto (tgt := 30) dX3_init_55 (by decide) ?_
  refine gn_iload_n 0 rfl dX3_init_30 rfl ?_
  refine gn_aload_n 1 rfl dX3_init_31 rfl ?_
  refine gn_get clX3 0 7 (Nat.le_of_ble_eq_true rfl) (fun _ => rfl) rfl gw44 dX3_init_32 ?_
  refine gn_alen 1 3 (fun _ => rfl) (fun _ => rfl) (v := (6 : Int32)) rfl dX3_init_35 ?_
  refine gn_ge_f (tgt := 58) (by decide) dX3_init_36 (by decide) ?_
  refine gn_aload_n 1 rfl dX3_init_39 rfl ?_
  refine gn_get clX3 0 7 (Nat.le_of_ble_eq_true rfl) (fun _ => rfl) rfl gw44 dX3_init_40 ?_
  refine gn_iload_n 0 rfl dX3_init_43 rfl ?_
  refine gn_new clX0 [.null] (fun j hj => by rcases (show j = 0 by omega) with rfl <;> rfl) cw14 cw16 gw326 (Nat.le_of_ble_eq_true rfl) (Nat.le_of_ble_eq_true rfl) dX3_init_44 (fun q9 => ?_)
  refine gn_dup dX3_init_47 rfl ?_
  refine gn_initN (cn_X0) mn_X0 cn17 ⟨Nat.le_of_ble_eq_true rfl, Nat.le_of_ble_eq_true rfl⟩ (Nat.le_of_ble_eq_true rfl) dX3_init_48 ⟨Nat.le_of_ble_eq_true rfl, Nat.le_of_ble_eq_true rfl⟩ (fun a10 h11 => ?_)
  subst h11
  refine gn_ast (ws' := (fun cA => [(h0, .inr (3, [.int 0, .int (10 : Int32), .int 0, .int 0, .int 0, .int 0, .int 0, .ref q1, .ref q2]))] ++ [(q1, .inl (cA 3, (6, .inr (.inr (.inr (.inr (va_up (va_up (va_up (fun _ => none) 0 (some (a4 0))) 1 (some (a7 0))) 2 (some (a10 0)))))))))] ++ [(q2, .inl (cA 4, (8, .inr (.inr (.inr (.inr (fun _ => none)))))))] ++ FX0 cA a4 ++ FX0 cA a7 ++ FX0 cA a10)) 1 3 7 0 rfl (fun _ => rfl) (fun _ => rfl) (fun _ => rfl) rfl (fun _ => rfl) dX3_init_51 ?_
  refine gn_iinc (v := (3 : Int32)) (lv' := [(1, .int (3 : Int32)), (0, .ref h0)]) 0 rfl dX3_init_52 (by decide) (Nat.le_of_ble_eq_true rfl) rfl ?_
  refine gn_goto (tgt := 30) dX3_init_55 (by decide) ?_
  refine gn_iload_n 0 rfl dX3_init_30 rfl ?_
  refine gn_aload_n 1 rfl dX3_init_31 rfl ?_
  refine gn_get clX3 0 7 (Nat.le_of_ble_eq_true rfl) (fun _ => rfl) rfl gw44 dX3_init_32 ?_
  refine gn_alen 1 3 (fun _ => rfl) (fun _ => rfl) (v := (6 : Int32)) rfl dX3_init_35 ?_
  refine gn_ge_f (tgt := 58) (by decide) dX3_init_36 (by decide) ?_
  refine gn_aload_n 1 rfl dX3_init_39 rfl ?_
  refine gn_get clX3 0 7 (Nat.le_of_ble_eq_true rfl) (fun _ => rfl) rfl gw44 dX3_init_40 ?_
  refine gn_iload_n 0 rfl dX3_init_43 rfl ?_
  refine gn_new clX0 [.null] (fun j hj => by rcases (show j = 0 by omega) with rfl <;> rfl) cw14 cw16 gw326 (Nat.le_of_ble_eq_true rfl) (Nat.le_of_ble_eq_true rfl) dX3_init_44 (fun q12 => ?_)
  refine gn_dup dX3_init_47 rfl ?_
  refine gn_initN (cn_X0) mn_X0 cn17 ⟨Nat.le_of_ble_eq_true rfl, Nat.le_of_ble_eq_true rfl⟩ (Nat.le_of_ble_eq_true rfl) dX3_init_48 ⟨Nat.le_of_ble_eq_true rfl, Nat.le_of_ble_eq_true rfl⟩ (fun a13 h14 => ?_)
  subst h14
  refine gn_ast (ws' := (fun cA => [(h0, .inr (3, [.int 0, .int (10 : Int32), .int 0, .int 0, .int 0, .int 0, .int 0, .ref q1, .ref q2]))] ++ [(q1, .inl (cA 3, (6, .inr (.inr (.inr (.inr (va_up (va_up (va_up (va_up (fun _ => none) 0 (some (a4 0))) 1 (some (a7 0))) 2 (some (a10 0))) 3 (some (a13 0)))))))))] ++ [(q2, .inl (cA 4, (8, .inr (.inr (.inr (.inr (fun _ => none)))))))] ++ FX0 cA a4 ++ FX0 cA a7 ++ FX0 cA a10 ++ FX0 cA a13)) 1 3 9 0 rfl (fun _ => rfl) (fun _ => rfl) (fun _ => rfl) rfl (fun _ => rfl) dX3_init_51 ?_
  refine gn_iinc (v := (4 : Int32)) (lv' := [(1, .int (4 : Int32)), (0, .ref h0)]) 0 rfl dX3_init_52 (by decide) (Nat.le_of_ble_eq_true rfl) rfl ?_
  refine gn_goto (tgt := 30) dX3_init_55 (by decide) ?_
  refine gn_iload_n 0 rfl dX3_init_30 rfl ?_
  refine gn_aload_n 1 rfl dX3_init_31 rfl ?_
  refine gn_get clX3 0 7 (Nat.le_of_ble_eq_true rfl) (fun _ => rfl) rfl gw44 dX3_init_32 ?_
  refine gn_alen 1 3 (fun _ => rfl) (fun _ => rfl) (v := (6 : Int32)) rfl dX3_init_35 ?_
  refine gn_ge_f (tgt := 58) (by decide) dX3_init_36 (by decide) ?_
  refine gn_aload_n 1 rfl dX3_init_39 rfl ?_
  refine gn_get clX3 0 7 (Nat.le_of_ble_eq_true rfl) (fun _ => rfl) rfl gw44 dX3_init_40 ?_
  refine gn_iload_n 0 rfl dX3_init_43 rfl ?_
  refine gn_new clX0 [.null] (fun j hj => by rcases (show j = 0 by omega) with rfl <;> rfl) cw14 cw16 gw326 (Nat.le_of_ble_eq_true rfl) (Nat.le_of_ble_eq_true rfl) dX3_init_44 (fun q15 => ?_)
  refine gn_dup dX3_init_47 rfl ?_
  refine gn_initN (cn_X0) mn_X0 cn17 ⟨Nat.le_of_ble_eq_true rfl, Nat.le_of_ble_eq_true rfl⟩ (Nat.le_of_ble_eq_true rfl) dX3_init_48 ⟨Nat.le_of_ble_eq_true rfl, Nat.le_of_ble_eq_true rfl⟩ (fun a16 h17 => ?_)
  subst h17
  refine gn_ast (ws' := (fun cA => [(h0, .inr (3, [.int 0, .int (10 : Int32), .int 0, .int 0, .int 0, .int 0, .int 0, .ref q1, .ref q2]))] ++ [(q1, .inl (cA 3, (6, .inr (.inr (.inr (.inr (va_up (va_up (va_up (va_up (va_up (fun _ => none) 0 (some (a4 0))) 1 (some (a7 0))) 2 (some (a10 0))) 3 (some (a13 0))) 4 (some (a16 0)))))))))] ++ [(q2, .inl (cA 4, (8, .inr (.inr (.inr (.inr (fun _ => none)))))))] ++ FX0 cA a4 ++ FX0 cA a7 ++ FX0 cA a10 ++ FX0 cA a13 ++ FX0 cA a16)) 1 3 11 0 rfl (fun _ => rfl) (fun _ => rfl) (fun _ => rfl) rfl (fun _ => rfl) dX3_init_51 ?_
  refine gn_iinc (v := (5 : Int32)) (lv' := [(1, .int (5 : Int32)), (0, .ref h0)]) 0 rfl dX3_init_52 (by decide) (Nat.le_of_ble_eq_true rfl) rfl ?_
  refine gn_goto (tgt := 30) dX3_init_55 (by decide) ?_
  refine gn_iload_n 0 rfl dX3_init_30 rfl ?_
  refine gn_aload_n 1 rfl dX3_init_31 rfl ?_
  refine gn_get clX3 0 7 (Nat.le_of_ble_eq_true rfl) (fun _ => rfl) rfl gw44 dX3_init_32 ?_
  refine gn_alen 1 3 (fun _ => rfl) (fun _ => rfl) (v := (6 : Int32)) rfl dX3_init_35 ?_
  refine gn_ge_f (tgt := 58) (by decide) dX3_init_36 (by decide) ?_
  refine gn_aload_n 1 rfl dX3_init_39 rfl ?_
  refine gn_get clX3 0 7 (Nat.le_of_ble_eq_true rfl) (fun _ => rfl) rfl gw44 dX3_init_40 ?_
  refine gn_iload_n 0 rfl dX3_init_43 rfl ?_
  refine gn_new clX0 [.null] (fun j hj => by rcases (show j = 0 by omega) with rfl <;> rfl) cw14 cw16 gw326 (Nat.le_of_ble_eq_true rfl) (Nat.le_of_ble_eq_true rfl) dX3_init_44 (fun q18 => ?_)
  refine gn_dup dX3_init_47 rfl ?_
  refine gn_initN (cn_X0) mn_X0 cn17 ⟨Nat.le_of_ble_eq_true rfl, Nat.le_of_ble_eq_true rfl⟩ (Nat.le_of_ble_eq_true rfl) dX3_init_48 ⟨Nat.le_of_ble_eq_true rfl, Nat.le_of_ble_eq_true rfl⟩ (fun a19 h20 => ?_)
  subst h20
  refine gn_ast (ws' := (fun cA => [(h0, .inr (3, [.int 0, .int (10 : Int32), .int 0, .int 0, .int 0, .int 0, .int 0, .ref q1, .ref q2]))] ++ [(q1, .inl (cA 3, (6, .inr (.inr (.inr (.inr (va_up (va_up (va_up (va_up (va_up (va_up (fun _ => none) 0 (some (a4 0))) 1 (some (a7 0))) 2 (some (a10 0))) 3 (some (a13 0))) 4 (some (a16 0))) 5 (some (a19 0)))))))))] ++ [(q2, .inl (cA 4, (8, .inr (.inr (.inr (.inr (fun _ => none)))))))] ++ FX0 cA a4 ++ FX0 cA a7 ++ FX0 cA a10 ++ FX0 cA a13 ++ FX0 cA a16 ++ FX0 cA a19)) 1 3 13 0 rfl (fun _ => rfl) (fun _ => rfl) (fun _ => rfl) rfl (fun _ => rfl) dX3_init_51 ?_
  refine gn_iinc (v := (6 : Int32)) (lv' := [(1, .int (6 : Int32)), (0, .ref h0)]) 0 rfl dX3_init_52 (by decide) (Nat.le_of_ble_eq_true rfl) rfl ?_
  refine gn_goto (tgt := 30) dX3_init_55 (by decide) ?_
  refine gn_iload_n 0 rfl dX3_init_30 rfl ?_
  refine gn_aload_n 1 rfl dX3_init_31 rfl ?_
  refine gn_get clX3 0 7 (Nat.le_of_ble_eq_true rfl) (fun _ => rfl) rfl gw44 dX3_init_32 ?_
  refine gn_alen 1 3 (fun _ => rfl) (fun _ => rfl) (v := (6 : Int32)) rfl dX3_init_35 ?_
  refine gn_ge_t (tgt := 58) (by decide) dX3_init_36 (by decide) ?_
  refine gn_iconst (v := (0 : Int32)) dX3_init_58 (by decide) ?_
  refine gn_istore_n (lv' := [(1, .int (0 : Int32)), (0, .ref h0)]) dX3_init_59 rfl (Nat.le_of_ble_eq_true rfl) rfl ?_
  refine gn_iload_n 0 rfl dX3_init_60 rfl ?_
  refine gn_aload_n 1 rfl dX3_init_61 rfl ?_
  refine gn_get clX3 0 8 (Nat.le_of_ble_eq_true rfl) (fun _ => rfl) rfl gw45 dX3_init_62 ?_
  refine gn_alen 2 4 (fun _ => rfl) (fun _ => rfl) (v := (8 : Int32)) rfl dX3_init_65 ?_
  refine gn_ge_f (tgt := 88) (by decide) dX3_init_66 (by decide) ?_
  refine gn_aload_n 1 rfl dX3_init_69 rfl ?_
  refine gn_get clX3 0 8 (Nat.le_of_ble_eq_true rfl) (fun _ => rfl) rfl gw45 dX3_init_70 ?_
  refine gn_iload_n 0 rfl dX3_init_73 rfl ?_
  refine gn_new clX1 [.int 0, .int 0, .int 0] (fun j hj => by rcases (show j = 0 ∨ j = 1 ∨ j = 2 by omega) with rfl | rfl | rfl <;> rfl) cw15 cw18 gw365 (Nat.le_of_ble_eq_true rfl) (Nat.le_of_ble_eq_true rfl) dX3_init_74 (fun q21 => ?_)
  refine gn_dup dX3_init_77 rfl ?_
  refine gn_initN (cn_X1) mn_X1 cn19 ⟨Nat.le_of_ble_eq_true rfl, Nat.le_of_ble_eq_true rfl⟩ (Nat.le_of_ble_eq_true rfl) dX3_init_78 ⟨Nat.le_of_ble_eq_true rfl, Nat.le_of_ble_eq_true rfl⟩ (fun a22 h23 => ?_)
  subst h23
  refine gn_ast (ws' := (fun cA => [(h0, .inr (3, [.int 0, .int (10 : Int32), .int 0, .int 0, .int 0, .int 0, .int 0, .ref q1, .ref q2]))] ++ [(q1, .inl (cA 3, (6, .inr (.inr (.inr (.inr (va_up (va_up (va_up (va_up (va_up (va_up (fun _ => none) 0 (some (a4 0))) 1 (some (a7 0))) 2 (some (a10 0))) 3 (some (a13 0))) 4 (some (a16 0))) 5 (some (a19 0)))))))))] ++ [(q2, .inl (cA 4, (8, .inr (.inr (.inr (.inr (va_up (fun _ => none) 0 (some (a22 0)))))))))] ++ FX0 cA a4 ++ FX0 cA a7 ++ FX0 cA a10 ++ FX0 cA a13 ++ FX0 cA a16 ++ FX0 cA a19 ++ FX1 cA a22)) 2 4 15 1 rfl (fun _ => rfl) (fun _ => rfl) (fun _ => rfl) rfl (fun _ => rfl) dX3_init_81 ?_
  refine gn_iinc (v := (1 : Int32)) (lv' := [(1, .int (1 : Int32)), (0, .ref h0)]) 0 rfl dX3_init_82 (by decide) (Nat.le_of_ble_eq_true rfl) rfl ?_
  refine gn_goto (tgt := 60) dX3_init_85 (by decide) ?_
  refine gn_iload_n 0 rfl dX3_init_60 rfl ?_
  refine gn_aload_n 1 rfl dX3_init_61 rfl ?_
  refine gn_get clX3 0 8 (Nat.le_of_ble_eq_true rfl) (fun _ => rfl) rfl gw45 dX3_init_62 ?_
  refine gn_alen 2 4 (fun _ => rfl) (fun _ => rfl) (v := (8 : Int32)) rfl dX3_init_65 ?_
  refine gn_ge_f (tgt := 88) (by decide) dX3_init_66 (by decide) ?_
  refine gn_aload_n 1 rfl dX3_init_69 rfl ?_
  refine gn_get clX3 0 8 (Nat.le_of_ble_eq_true rfl) (fun _ => rfl) rfl gw45 dX3_init_70 ?_
  refine gn_iload_n 0 rfl dX3_init_73 rfl ?_
  refine gn_new clX1 [.int 0, .int 0, .int 0] (fun j hj => by rcases (show j = 0 ∨ j = 1 ∨ j = 2 by omega) with rfl | rfl | rfl <;> rfl) cw15 cw18 gw365 (Nat.le_of_ble_eq_true rfl) (Nat.le_of_ble_eq_true rfl) dX3_init_74 (fun q24 => ?_)
  refine gn_dup dX3_init_77 rfl ?_
  refine gn_initN (cn_X1) mn_X1 cn19 ⟨Nat.le_of_ble_eq_true rfl, Nat.le_of_ble_eq_true rfl⟩ (Nat.le_of_ble_eq_true rfl) dX3_init_78 ⟨Nat.le_of_ble_eq_true rfl, Nat.le_of_ble_eq_true rfl⟩ (fun a25 h26 => ?_)
  subst h26
  refine gn_ast (ws' := (fun cA => [(h0, .inr (3, [.int 0, .int (10 : Int32), .int 0, .int 0, .int 0, .int 0, .int 0, .ref q1, .ref q2]))] ++ [(q1, .inl (cA 3, (6, .inr (.inr (.inr (.inr (va_up (va_up (va_up (va_up (va_up (va_up (fun _ => none) 0 (some (a4 0))) 1 (some (a7 0))) 2 (some (a10 0))) 3 (some (a13 0))) 4 (some (a16 0))) 5 (some (a19 0)))))))))] ++ [(q2, .inl (cA 4, (8, .inr (.inr (.inr (.inr (va_up (va_up (fun _ => none) 0 (some (a22 0))) 1 (some (a25 0)))))))))] ++ FX0 cA a4 ++ FX0 cA a7 ++ FX0 cA a10 ++ FX0 cA a13 ++ FX0 cA a16 ++ FX0 cA a19 ++ FX1 cA a22 ++ FX1 cA a25)) 2 4 16 1 rfl (fun _ => rfl) (fun _ => rfl) (fun _ => rfl) rfl (fun _ => rfl) dX3_init_81 ?_
  refine gn_iinc (v := (2 : Int32)) (lv' := [(1, .int (2 : Int32)), (0, .ref h0)]) 0 rfl dX3_init_82 (by decide) (Nat.le_of_ble_eq_true rfl) rfl ?_
  refine gn_goto (tgt := 60) dX3_init_85 (by decide) ?_
  refine gn_iload_n 0 rfl dX3_init_60 rfl ?_
  refine gn_aload_n 1 rfl dX3_init_61 rfl ?_
  refine gn_get clX3 0 8 (Nat.le_of_ble_eq_true rfl) (fun _ => rfl) rfl gw45 dX3_init_62 ?_
  refine gn_alen 2 4 (fun _ => rfl) (fun _ => rfl) (v := (8 : Int32)) rfl dX3_init_65 ?_
  refine gn_ge_f (tgt := 88) (by decide) dX3_init_66 (by decide) ?_
  refine gn_aload_n 1 rfl dX3_init_69 rfl ?_
  refine gn_get clX3 0 8 (Nat.le_of_ble_eq_true rfl) (fun _ => rfl) rfl gw45 dX3_init_70 ?_
  refine gn_iload_n 0 rfl dX3_init_73 rfl ?_
  refine gn_new clX1 [.int 0, .int 0, .int 0] (fun j hj => by rcases (show j = 0 ∨ j = 1 ∨ j = 2 by omega) with rfl | rfl | rfl <;> rfl) cw15 cw18 gw365 (Nat.le_of_ble_eq_true rfl) (Nat.le_of_ble_eq_true rfl) dX3_init_74 (fun q27 => ?_)
  refine gn_dup dX3_init_77 rfl ?_
  refine gn_initN (cn_X1) mn_X1 cn19 ⟨Nat.le_of_ble_eq_true rfl, Nat.le_of_ble_eq_true rfl⟩ (Nat.le_of_ble_eq_true rfl) dX3_init_78 ⟨Nat.le_of_ble_eq_true rfl, Nat.le_of_ble_eq_true rfl⟩ (fun a28 h29 => ?_)
  subst h29
  refine gn_ast (ws' := (fun cA => [(h0, .inr (3, [.int 0, .int (10 : Int32), .int 0, .int 0, .int 0, .int 0, .int 0, .ref q1, .ref q2]))] ++ [(q1, .inl (cA 3, (6, .inr (.inr (.inr (.inr (va_up (va_up (va_up (va_up (va_up (va_up (fun _ => none) 0 (some (a4 0))) 1 (some (a7 0))) 2 (some (a10 0))) 3 (some (a13 0))) 4 (some (a16 0))) 5 (some (a19 0)))))))))] ++ [(q2, .inl (cA 4, (8, .inr (.inr (.inr (.inr (va_up (va_up (va_up (fun _ => none) 0 (some (a22 0))) 1 (some (a25 0))) 2 (some (a28 0)))))))))] ++ FX0 cA a4 ++ FX0 cA a7 ++ FX0 cA a10 ++ FX0 cA a13 ++ FX0 cA a16 ++ FX0 cA a19 ++ FX1 cA a22 ++ FX1 cA a25 ++ FX1 cA a28)) 2 4 17 1 rfl (fun _ => rfl) (fun _ => rfl) (fun _ => rfl) rfl (fun _ => rfl) dX3_init_81 ?_
  refine gn_iinc (v := (3 : Int32)) (lv' := [(1, .int (3 : Int32)), (0, .ref h0)]) 0 rfl dX3_init_82 (by decide) (Nat.le_of_ble_eq_true rfl) rfl ?_
  refine gn_goto (tgt := 60) dX3_init_85 (by decide) ?_
  refine gn_iload_n 0 rfl dX3_init_60 rfl ?_
  refine gn_aload_n 1 rfl dX3_init_61 rfl ?_
  refine gn_get clX3 0 8 (Nat.le_of_ble_eq_true rfl) (fun _ => rfl) rfl gw45 dX3_init_62 ?_
  refine gn_alen 2 4 (fun _ => rfl) (fun _ => rfl) (v := (8 : Int32)) rfl dX3_init_65 ?_
  refine gn_ge_f (tgt := 88) (by decide) dX3_init_66 (by decide) ?_
  refine gn_aload_n 1 rfl dX3_init_69 rfl ?_
  refine gn_get clX3 0 8 (Nat.le_of_ble_eq_true rfl) (fun _ => rfl) rfl gw45 dX3_init_70 ?_
  refine gn_iload_n 0 rfl dX3_init_73 rfl ?_
  refine gn_new clX1 [.int 0, .int 0, .int 0] (fun j hj => by rcases (show j = 0 ∨ j = 1 ∨ j = 2 by omega) with rfl | rfl | rfl <;> rfl) cw15 cw18 gw365 (Nat.le_of_ble_eq_true rfl) (Nat.le_of_ble_eq_true rfl) dX3_init_74 (fun q30 => ?_)
  refine gn_dup dX3_init_77 rfl ?_
  refine gn_initN (cn_X1) mn_X1 cn19 ⟨Nat.le_of_ble_eq_true rfl, Nat.le_of_ble_eq_true rfl⟩ (Nat.le_of_ble_eq_true rfl) dX3_init_78 ⟨Nat.le_of_ble_eq_true rfl, Nat.le_of_ble_eq_true rfl⟩ (fun a31 h32 => ?_)
  subst h32
  refine gn_ast (ws' := (fun cA => [(h0, .inr (3, [.int 0, .int (10 : Int32), .int 0, .int 0, .int 0, .int 0, .int 0, .ref q1, .ref q2]))] ++ [(q1, .inl (cA 3, (6, .inr (.inr (.inr (.inr (va_up (va_up (va_up (va_up (va_up (va_up (fun _ => none) 0 (some (a4 0))) 1 (some (a7 0))) 2 (some (a10 0))) 3 (some (a13 0))) 4 (some (a16 0))) 5 (some (a19 0)))))))))] ++ [(q2, .inl (cA 4, (8, .inr (.inr (.inr (.inr (va_up (va_up (va_up (va_up (fun _ => none) 0 (some (a22 0))) 1 (some (a25 0))) 2 (some (a28 0))) 3 (some (a31 0)))))))))] ++ FX0 cA a4 ++ FX0 cA a7 ++ FX0 cA a10 ++ FX0 cA a13 ++ FX0 cA a16 ++ FX0 cA a19 ++ FX1 cA a22 ++ FX1 cA a25 ++ FX1 cA a28 ++ FX1 cA a31)) 2 4 18 1 rfl (fun _ => rfl) (fun _ => rfl) (fun _ => rfl) rfl (fun _ => rfl) dX3_init_81 ?_
  refine gn_iinc (v := (4 : Int32)) (lv' := [(1, .int (4 : Int32)), (0, .ref h0)]) 0 rfl dX3_init_82 (by decide) (Nat.le_of_ble_eq_true rfl) rfl ?_
  refine gn_goto (tgt := 60) dX3_init_85 (by decide) ?_
  refine gn_iload_n 0 rfl dX3_init_60 rfl ?_
  refine gn_aload_n 1 rfl dX3_init_61 rfl ?_
  refine gn_get clX3 0 8 (Nat.le_of_ble_eq_true rfl) (fun _ => rfl) rfl gw45 dX3_init_62 ?_
  refine gn_alen 2 4 (fun _ => rfl) (fun _ => rfl) (v := (8 : Int32)) rfl dX3_init_65 ?_
  refine gn_ge_f (tgt := 88) (by decide) dX3_init_66 (by decide) ?_
  refine gn_aload_n 1 rfl dX3_init_69 rfl ?_
  refine gn_get clX3 0 8 (Nat.le_of_ble_eq_true rfl) (fun _ => rfl) rfl gw45 dX3_init_70 ?_
  refine gn_iload_n 0 rfl dX3_init_73 rfl ?_
  refine gn_new clX1 [.int 0, .int 0, .int 0] (fun j hj => by rcases (show j = 0 ∨ j = 1 ∨ j = 2 by omega) with rfl | rfl | rfl <;> rfl) cw15 cw18 gw365 (Nat.le_of_ble_eq_true rfl) (Nat.le_of_ble_eq_true rfl) dX3_init_74 (fun q33 => ?_)
  refine gn_dup dX3_init_77 rfl ?_
  refine gn_initN (cn_X1) mn_X1 cn19 ⟨Nat.le_of_ble_eq_true rfl, Nat.le_of_ble_eq_true rfl⟩ (Nat.le_of_ble_eq_true rfl) dX3_init_78 ⟨Nat.le_of_ble_eq_true rfl, Nat.le_of_ble_eq_true rfl⟩ (fun a34 h35 => ?_)
  subst h35
  refine gn_ast (ws' := (fun cA => [(h0, .inr (3, [.int 0, .int (10 : Int32), .int 0, .int 0, .int 0, .int 0, .int 0, .ref q1, .ref q2]))] ++ [(q1, .inl (cA 3, (6, .inr (.inr (.inr (.inr (va_up (va_up (va_up (va_up (va_up (va_up (fun _ => none) 0 (some (a4 0))) 1 (some (a7 0))) 2 (some (a10 0))) 3 (some (a13 0))) 4 (some (a16 0))) 5 (some (a19 0)))))))))] ++ [(q2, .inl (cA 4, (8, .inr (.inr (.inr (.inr (va_up (va_up (va_up (va_up (va_up (fun _ => none) 0 (some (a22 0))) 1 (some (a25 0))) 2 (some (a28 0))) 3 (some (a31 0))) 4 (some (a34 0)))))))))] ++ FX0 cA a4 ++ FX0 cA a7 ++ FX0 cA a10 ++ FX0 cA a13 ++ FX0 cA a16 ++ FX0 cA a19 ++ FX1 cA a22 ++ FX1 cA a25 ++ FX1 cA a28 ++ FX1 cA a31 ++ FX1 cA a34)) 2 4 19 1 rfl (fun _ => rfl) (fun _ => rfl) (fun _ => rfl) rfl (fun _ => rfl) dX3_init_81 ?_
  refine gn_iinc (v := (5 : Int32)) (lv' := [(1, .int (5 : Int32)), (0, .ref h0)]) 0 rfl dX3_init_82 (by decide) (Nat.le_of_ble_eq_true rfl) rfl ?_
  refine gn_goto (tgt := 60) dX3_init_85 (by decide) ?_
  refine gn_iload_n 0 rfl dX3_init_60 rfl ?_
  refine gn_aload_n 1 rfl dX3_init_61 rfl ?_
  refine gn_get clX3 0 8 (Nat.le_of_ble_eq_true rfl) (fun _ => rfl) rfl gw45 dX3_init_62 ?_
  refine gn_alen 2 4 (fun _ => rfl) (fun _ => rfl) (v := (8 : Int32)) rfl dX3_init_65 ?_
  refine gn_ge_f (tgt := 88) (by decide) dX3_init_66 (by decide) ?_
  refine gn_aload_n 1 rfl dX3_init_69 rfl ?_
  refine gn_get clX3 0 8 (Nat.le_of_ble_eq_true rfl) (fun _ => rfl) rfl gw45 dX3_init_70 ?_
  refine gn_iload_n 0 rfl dX3_init_73 rfl ?_
  refine gn_new clX1 [.int 0, .int 0, .int 0] (fun j hj => by rcases (show j = 0 ∨ j = 1 ∨ j = 2 by omega) with rfl | rfl | rfl <;> rfl) cw15 cw18 gw365 (Nat.le_of_ble_eq_true rfl) (Nat.le_of_ble_eq_true rfl) dX3_init_74 (fun q36 => ?_)
  refine gn_dup dX3_init_77 rfl ?_
  refine gn_initN (cn_X1) mn_X1 cn19 ⟨Nat.le_of_ble_eq_true rfl, Nat.le_of_ble_eq_true rfl⟩ (Nat.le_of_ble_eq_true rfl) dX3_init_78 ⟨Nat.le_of_ble_eq_true rfl, Nat.le_of_ble_eq_true rfl⟩ (fun a37 h38 => ?_)
  subst h38
  refine gn_ast (ws' := (fun cA => [(h0, .inr (3, [.int 0, .int (10 : Int32), .int 0, .int 0, .int 0, .int 0, .int 0, .ref q1, .ref q2]))] ++ [(q1, .inl (cA 3, (6, .inr (.inr (.inr (.inr (va_up (va_up (va_up (va_up (va_up (va_up (fun _ => none) 0 (some (a4 0))) 1 (some (a7 0))) 2 (some (a10 0))) 3 (some (a13 0))) 4 (some (a16 0))) 5 (some (a19 0)))))))))] ++ [(q2, .inl (cA 4, (8, .inr (.inr (.inr (.inr (va_up (va_up (va_up (va_up (va_up (va_up (fun _ => none) 0 (some (a22 0))) 1 (some (a25 0))) 2 (some (a28 0))) 3 (some (a31 0))) 4 (some (a34 0))) 5 (some (a37 0)))))))))] ++ FX0 cA a4 ++ FX0 cA a7 ++ FX0 cA a10 ++ FX0 cA a13 ++ FX0 cA a16 ++ FX0 cA a19 ++ FX1 cA a22 ++ FX1 cA a25 ++ FX1 cA a28 ++ FX1 cA a31 ++ FX1 cA a34 ++ FX1 cA a37)) 2 4 20 1 rfl (fun _ => rfl) (fun _ => rfl) (fun _ => rfl) rfl (fun _ => rfl) dX3_init_81 ?_
  refine gn_iinc (v := (6 : Int32)) (lv' := [(1, .int (6 : Int32)), (0, .ref h0)]) 0 rfl dX3_init_82 (by decide) (Nat.le_of_ble_eq_true rfl) rfl ?_
  refine gn_goto (tgt := 60) dX3_init_85 (by decide) ?_
  refine gn_iload_n 0 rfl dX3_init_60 rfl ?_
  refine gn_aload_n 1 rfl dX3_init_61 rfl ?_
  refine gn_get clX3 0 8 (Nat.le_of_ble_eq_true rfl) (fun _ => rfl) rfl gw45 dX3_init_62 ?_
  refine gn_alen 2 4 (fun _ => rfl) (fun _ => rfl) (v := (8 : Int32)) rfl dX3_init_65 ?_
  refine gn_ge_f (tgt := 88) (by decide) dX3_init_66 (by decide) ?_
  refine gn_aload_n 1 rfl dX3_init_69 rfl ?_
  refine gn_get clX3 0 8 (Nat.le_of_ble_eq_true rfl) (fun _ => rfl) rfl gw45 dX3_init_70 ?_
  refine gn_iload_n 0 rfl dX3_init_73 rfl ?_
  refine gn_new clX1 [.int 0, .int 0, .int 0] (fun j hj => by rcases (show j = 0 ∨ j = 1 ∨ j = 2 by omega) with rfl | rfl | rfl <;> rfl) cw15 cw18 gw365 (Nat.le_of_ble_eq_true rfl) (Nat.le_of_ble_eq_true rfl) dX3_init_74 (fun q39 => ?_)
  refine gn_dup dX3_init_77 rfl ?_
  refine gn_initN (cn_X1) mn_X1 cn19 ⟨Nat.le_of_ble_eq_true rfl, Nat.le_of_ble_eq_true rfl⟩ (Nat.le_of_ble_eq_true rfl) dX3_init_78 ⟨Nat.le_of_ble_eq_true rfl, Nat.le_of_ble_eq_true rfl⟩ (fun a40 h41 => ?_)
  subst h41
  refine gn_ast (ws' := (fun cA => [(h0, .inr (3, [.int 0, .int (10 : Int32), .int 0, .int 0, .int 0, .int 0, .int 0, .ref q1, .ref q2]))] ++ [(q1, .inl (cA 3, (6, .inr (.inr (.inr (.inr (va_up (va_up (va_up (va_up (va_up (va_up (fun _ => none) 0 (some (a4 0))) 1 (some (a7 0))) 2 (some (a10 0))) 3 (some (a13 0))) 4 (some (a16 0))) 5 (some (a19 0)))))))))] ++ [(q2, .inl (cA 4, (8, .inr (.inr (.inr (.inr (va_up (va_up (va_up (va_up (va_up (va_up (va_up (fun _ => none) 0 (some (a22 0))) 1 (some (a25 0))) 2 (some (a28 0))) 3 (some (a31 0))) 4 (some (a34 0))) 5 (some (a37 0))) 6 (some (a40 0)))))))))] ++ FX0 cA a4 ++ FX0 cA a7 ++ FX0 cA a10 ++ FX0 cA a13 ++ FX0 cA a16 ++ FX0 cA a19 ++ FX1 cA a22 ++ FX1 cA a25 ++ FX1 cA a28 ++ FX1 cA a31 ++ FX1 cA a34 ++ FX1 cA a37 ++ FX1 cA a40)) 2 4 21 1 rfl (fun _ => rfl) (fun _ => rfl) (fun _ => rfl) rfl (fun _ => rfl) dX3_init_81 ?_
  refine gn_iinc (v := (7 : Int32)) (lv' := [(1, .int (7 : Int32)), (0, .ref h0)]) 0 rfl dX3_init_82 (by decide) (Nat.le_of_ble_eq_true rfl) rfl ?_
  refine gn_goto (tgt := 60) dX3_init_85 (by decide) ?_
  refine gn_iload_n 0 rfl dX3_init_60 rfl ?_
  refine gn_aload_n 1 rfl dX3_init_61 rfl ?_
  refine gn_get clX3 0 8 (Nat.le_of_ble_eq_true rfl) (fun _ => rfl) rfl gw45 dX3_init_62 ?_
  refine gn_alen 2 4 (fun _ => rfl) (fun _ => rfl) (v := (8 : Int32)) rfl dX3_init_65 ?_
  refine gn_ge_f (tgt := 88) (by decide) dX3_init_66 (by decide) ?_
  refine gn_aload_n 1 rfl dX3_init_69 rfl ?_
  refine gn_get clX3 0 8 (Nat.le_of_ble_eq_true rfl) (fun _ => rfl) rfl gw45 dX3_init_70 ?_
  refine gn_iload_n 0 rfl dX3_init_73 rfl ?_
  refine gn_new clX1 [.int 0, .int 0, .int 0] (fun j hj => by rcases (show j = 0 ∨ j = 1 ∨ j = 2 by omega) with rfl | rfl | rfl <;> rfl) cw15 cw18 gw365 (Nat.le_of_ble_eq_true rfl) (Nat.le_of_ble_eq_true rfl) dX3_init_74 (fun q42 => ?_)
  refine gn_dup dX3_init_77 rfl ?_
  refine gn_initN (cn_X1) mn_X1 cn19 ⟨Nat.le_of_ble_eq_true rfl, Nat.le_of_ble_eq_true rfl⟩ (Nat.le_of_ble_eq_true rfl) dX3_init_78 ⟨Nat.le_of_ble_eq_true rfl, Nat.le_of_ble_eq_true rfl⟩ (fun a43 h44 => ?_)
  subst h44
  refine gn_ast (ws' := (fun cA => [(h0, .inr (3, [.int 0, .int (10 : Int32), .int 0, .int 0, .int 0, .int 0, .int 0, .ref q1, .ref q2]))] ++ [(q1, .inl (cA 3, (6, .inr (.inr (.inr (.inr (va_up (va_up (va_up (va_up (va_up (va_up (fun _ => none) 0 (some (a4 0))) 1 (some (a7 0))) 2 (some (a10 0))) 3 (some (a13 0))) 4 (some (a16 0))) 5 (some (a19 0)))))))))] ++ [(q2, .inl (cA 4, (8, .inr (.inr (.inr (.inr (va_up (va_up (va_up (va_up (va_up (va_up (va_up (va_up (fun _ => none) 0 (some (a22 0))) 1 (some (a25 0))) 2 (some (a28 0))) 3 (some (a31 0))) 4 (some (a34 0))) 5 (some (a37 0))) 6 (some (a40 0))) 7 (some (a43 0)))))))))] ++ FX0 cA a4 ++ FX0 cA a7 ++ FX0 cA a10 ++ FX0 cA a13 ++ FX0 cA a16 ++ FX0 cA a19 ++ FX1 cA a22 ++ FX1 cA a25 ++ FX1 cA a28 ++ FX1 cA a31 ++ FX1 cA a34 ++ FX1 cA a37 ++ FX1 cA a40 ++ FX1 cA a43)) 2 4 22 1 rfl (fun _ => rfl) (fun _ => rfl) (fun _ => rfl) rfl (fun _ => rfl) dX3_init_81 ?_
  refine gn_iinc (v := (8 : Int32)) (lv' := [(1, .int (8 : Int32)), (0, .ref h0)]) 0 rfl dX3_init_82 (by decide) (Nat.le_of_ble_eq_true rfl) rfl ?_
  refine gn_goto (tgt := 60) dX3_init_85 (by decide) ?_
  refine gn_iload_n 0 rfl dX3_init_60 rfl ?_
  refine gn_aload_n 1 rfl dX3_init_61 rfl ?_
  refine gn_get clX3 0 8 (Nat.le_of_ble_eq_true rfl) (fun _ => rfl) rfl gw45 dX3_init_62 ?_
  refine gn_alen 2 4 (fun _ => rfl) (fun _ => rfl) (v := (8 : Int32)) rfl dX3_init_65 ?_
  refine gn_ge_t (tgt := 88) (by decide) dX3_init_66 (by decide) ?_
  exact gn_ret rfl (fun D cA H hP hD => ⟨fun n => [h0, q1, q2, (a4 0), (a4 1), (a7 0), (a7 1), (a10 0), (a10 1), (a13 0), (a13 1), (a16 0), (a16 1), (a19 0), (a19 1), (a22 0), (a25 0), (a28 0), (a31 0), (a34 0), (a37 0), (a40 0), (a43 0)].getD n 0, rfl, hP, hD⟩) dX3_init_88
def FX4 : Fw := fun cA a => [((a 0), .inr (4, [.ref (a 1), .int 0, .ref (a 2), .int 0, .int 0, .int 0, .int 0])), ((a 1), .inl (cA 2, (120, .inl (fun _ => 0)))), ((a 2), .inr (3, [.int 0, .int (10 : Int32), .int 0, .int 0, .int 0, .int 0, .int 0, .ref (a 3), .ref (a 4)])), ((a 3), .inl (cA 3, (6, .inr (.inr (.inr (.inr (va_up (va_up (va_up (va_up (va_up (va_up (fun _ => none) 0 (some (a 5))) 1 (some (a 7))) 2 (some (a 9))) 3 (some (a 11))) 4 (some (a 13))) 5 (some (a 15))))))))), ((a 4), .inl (cA 4, (8, .inr (.inr (.inr (.inr (va_up (va_up (va_up (va_up (va_up (va_up (va_up (va_up (fun _ => none) 0 (some (a 17))) 1 (some (a 18))) 2 (some (a 19))) 3 (some (a 20))) 4 (some (a 21))) 5 (some (a 22))) 6 (some (a 23))) 7 (some (a 24))))))))), ((a 5), .inr (0, [.ref (a 6)])), ((a 6), .inl (cA 0, (5, .inl (fun _ => 0)))), ((a 7), .inr (0, [.ref (a 8)])), ((a 8), .inl (cA 0, (5, .inl (fun _ => 0)))), ((a 9), .inr (0, [.ref (a 10)])), ((a 10), .inl (cA 0, (5, .inl (fun _ => 0)))), ((a 11), .inr (0, [.ref (a 12)])), ((a 12), .inl (cA 0, (5, .inl (fun _ => 0)))), ((a 13), .inr (0, [.ref (a 14)])), ((a 14), .inl (cA 0, (5, .inl (fun _ => 0)))), ((a 15), .inr (0, [.ref (a 16)])), ((a 16), .inl (cA 0, (5, .inl (fun _ => 0)))), ((a 17), .inr (1, [.int 0, .int 0, .int 0])), ((a 18), .inr (1, [.int 0, .int 0, .int 0])), ((a 19), .inr (1, [.int 0, .int 0, .int 0])), ((a 20), .inr (1, [.int 0, .int 0, .int 0])), ((a 21), .inr (1, [.int 0, .int 0, .int 0])), ((a 22), .inr (1, [.int 0, .int 0, .int 0])), ((a 23), .inr (1, [.int 0, .int 0, .int 0])), ((a 24), .inr (1, [.int 0, .int 0, .int 0]))]
abbrev mi_X4 : Mi := (cX4_init, RX4, 1, none, { frames := 3, cells := 24, slots := 203, locals := 61 })
theorem mn_X4 : MIN yX4_init mi_X4 24 203 := ⟨cw27, gw449, ⟨by decide, by decide, by decide +kernel⟩, rfl, rfl, rfl, cw28⟩
set_option maxHeartbeats 4000000 in
set_option maxRecDepth 100000 in
theorem cn_X4 : ∀ l, ConN l yX4_init mi_X4 (.inr (4, [.null, .int 0, .null, .int 0, .int 0, .int 0, .int 0])) 24 203 FX4 := by
  refine con_ofN (by decide) rfl rfl (by decide) rfl (fun X h0 A => ?_)
  refine gn_aload_n 0 rfl dX4_init_0 rfl ?_
  refine gn_obj cw22 cw1 cw2 dX4_init_1 (Nat.le_of_ble_eq_true rfl) (Nat.le_of_ble_eq_true rfl) ?_
  refine gn_aload_n 0 rfl dX4_init_4 rfl ?_
  refine gn_bipush (v := (120 : Int32)) dX4_init_5 (by decide) ?_
  refine gn_newa (atype := .byte) (ty := .byte) rfl 2 (fun _ => rfl) cw23 120 (120, .inl (fun _ => 0)) (fun _ => rfl) (by decide) (by decide) (Nat.le_of_ble_eq_true rfl) (Nat.le_of_ble_eq_true rfl) (Nat.le_of_ble_eq_true rfl) dX4_init_7 (fun q1 => ?_)
  refine gn_putF (ws' := (fun cA => [(h0, .inr (4, [.ref q1, .int 0, .null, .int 0, .int 0, .int 0, .int 0]))] ++ [(q1, .inl (cA 2, (120, .inl (fun _ => 0))))])) clX4 0 0 (Nat.le_of_ble_eq_true rfl) (fun _ => rfl) (fun _ => rfl) rfl rfl rfl rfl (Nat.le_of_ble_eq_true rfl) gw60 dX4_init_9 ?_
  refine gn_aload_n 0 rfl dX4_init_12 rfl ?_
  refine gn_new clX3 [.int 0, .int 0, .int 0, .int 0, .int 0, .int 0, .int 0, .null, .null] (fun j hj => by rcases (show j = 0 ∨ j = 1 ∨ j = 2 ∨ j = 3 ∨ j = 4 ∨ j = 5 ∨ j = 6 ∨ j = 7 ∨ j = 8 by omega) with rfl | rfl | rfl | rfl | rfl | rfl | rfl | rfl | rfl <;> rfl) cw24 cw25 gw403 (Nat.le_of_ble_eq_true rfl) (Nat.le_of_ble_eq_true rfl) dX4_init_13 (fun q2 => ?_)
  refine gn_dup dX4_init_16 rfl ?_
  refine gn_init (cn_X3) mn_X3 cw26 ⟨Nat.le_of_ble_eq_true rfl, Nat.le_of_ble_eq_true rfl⟩ (Nat.le_of_ble_eq_true rfl) dX4_init_17 ⟨Nat.le_of_ble_eq_true rfl, Nat.le_of_ble_eq_true rfl⟩ (fun a3 h4 => ?_)
  subst h4
  refine gn_putF (ws' := (fun cA => [(h0, .inr (4, [.ref q1, .int 0, .ref (a3 0), .int 0, .int 0, .int 0, .int 0]))] ++ [(q1, .inl (cA 2, (120, .inl (fun _ => 0))))] ++ FX3 cA a3)) clX4 0 2 (Nat.le_of_ble_eq_true rfl) (fun _ => rfl) (fun _ => rfl) rfl rfl rfl rfl (Nat.le_of_ble_eq_true rfl) gw87 dX4_init_20 ?_
  exact gn_ret rfl (fun D cA H hP hD => ⟨fun n => [h0, q1, (a3 0), (a3 1), (a3 2), (a3 3), (a3 4), (a3 5), (a3 6), (a3 7), (a3 8), (a3 9), (a3 10), (a3 11), (a3 12), (a3 13), (a3 14), (a3 15), (a3 16), (a3 17), (a3 18), (a3 19), (a3 20), (a3 21), (a3 22)].getD n 0, rfl, hP, hD⟩) dX4_init_23
def FX5 : Fw := fun cA a => [((a 0), .inr (5, [.ref (a 1), .ref (a 24), .int 0, .ref (a 47), .ref (a 72), .ref (a 73), .ref (a 74), .ref (a 75), .ref (a 76)])), ((a 1), .inr (3, [.int 0, .int (10 : Int32), .int 0, .int 0, .int 0, .int 0, .int 0, .ref (a 2), .ref (a 3)])), ((a 2), .inl (cA 3, (6, .inr (.inr (.inr (.inr (va_up (va_up (va_up (va_up (va_up (va_up (fun _ => none) 0 (some (a 4))) 1 (some (a 6))) 2 (some (a 8))) 3 (some (a 10))) 4 (some (a 12))) 5 (some (a 14))))))))), ((a 3), .inl (cA 4, (8, .inr (.inr (.inr (.inr (va_up (va_up (va_up (va_up (va_up (va_up (va_up (va_up (fun _ => none) 0 (some (a 16))) 1 (some (a 17))) 2 (some (a 18))) 3 (some (a 19))) 4 (some (a 20))) 5 (some (a 21))) 6 (some (a 22))) 7 (some (a 23))))))))), ((a 4), .inr (0, [.ref (a 5)])), ((a 5), .inl (cA 0, (5, .inl (fun _ => 0)))), ((a 6), .inr (0, [.ref (a 7)])), ((a 7), .inl (cA 0, (5, .inl (fun _ => 0)))), ((a 8), .inr (0, [.ref (a 9)])), ((a 9), .inl (cA 0, (5, .inl (fun _ => 0)))), ((a 10), .inr (0, [.ref (a 11)])), ((a 11), .inl (cA 0, (5, .inl (fun _ => 0)))), ((a 12), .inr (0, [.ref (a 13)])), ((a 13), .inl (cA 0, (5, .inl (fun _ => 0)))), ((a 14), .inr (0, [.ref (a 15)])), ((a 15), .inl (cA 0, (5, .inl (fun _ => 0)))), ((a 16), .inr (1, [.int 0, .int 0, .int 0])), ((a 17), .inr (1, [.int 0, .int 0, .int 0])), ((a 18), .inr (1, [.int 0, .int 0, .int 0])), ((a 19), .inr (1, [.int 0, .int 0, .int 0])), ((a 20), .inr (1, [.int 0, .int 0, .int 0])), ((a 21), .inr (1, [.int 0, .int 0, .int 0])), ((a 22), .inr (1, [.int 0, .int 0, .int 0])), ((a 23), .inr (1, [.int 0, .int 0, .int 0])), ((a 24), .inr (3, [.int 0, .int (10 : Int32), .int 0, .int 0, .int 0, .int 0, .int 0, .ref (a 25), .ref (a 26)])), ((a 25), .inl (cA 3, (6, .inr (.inr (.inr (.inr (va_up (va_up (va_up (va_up (va_up (va_up (fun _ => none) 0 (some (a 27))) 1 (some (a 29))) 2 (some (a 31))) 3 (some (a 33))) 4 (some (a 35))) 5 (some (a 37))))))))), ((a 26), .inl (cA 4, (8, .inr (.inr (.inr (.inr (va_up (va_up (va_up (va_up (va_up (va_up (va_up (va_up (fun _ => none) 0 (some (a 39))) 1 (some (a 40))) 2 (some (a 41))) 3 (some (a 42))) 4 (some (a 43))) 5 (some (a 44))) 6 (some (a 45))) 7 (some (a 46))))))))), ((a 27), .inr (0, [.ref (a 28)])), ((a 28), .inl (cA 0, (5, .inl (fun _ => 0)))), ((a 29), .inr (0, [.ref (a 30)])), ((a 30), .inl (cA 0, (5, .inl (fun _ => 0)))), ((a 31), .inr (0, [.ref (a 32)])), ((a 32), .inl (cA 0, (5, .inl (fun _ => 0)))), ((a 33), .inr (0, [.ref (a 34)])), ((a 34), .inl (cA 0, (5, .inl (fun _ => 0)))), ((a 35), .inr (0, [.ref (a 36)])), ((a 36), .inl (cA 0, (5, .inl (fun _ => 0)))), ((a 37), .inr (0, [.ref (a 38)])), ((a 38), .inl (cA 0, (5, .inl (fun _ => 0)))), ((a 39), .inr (1, [.int 0, .int 0, .int 0])), ((a 40), .inr (1, [.int 0, .int 0, .int 0])), ((a 41), .inr (1, [.int 0, .int 0, .int 0])), ((a 42), .inr (1, [.int 0, .int 0, .int 0])), ((a 43), .inr (1, [.int 0, .int 0, .int 0])), ((a 44), .inr (1, [.int 0, .int 0, .int 0])), ((a 45), .inr (1, [.int 0, .int 0, .int 0])), ((a 46), .inr (1, [.int 0, .int 0, .int 0])), ((a 47), .inr (4, [.ref (a 48), .int 0, .ref (a 49), .int 0, .int 0, .int 0, .int 0])), ((a 48), .inl (cA 2, (120, .inl (fun _ => 0)))), ((a 49), .inr (3, [.int 0, .int (10 : Int32), .int 0, .int 0, .int 0, .int 0, .int 0, .ref (a 50), .ref (a 51)])), ((a 50), .inl (cA 3, (6, .inr (.inr (.inr (.inr (va_up (va_up (va_up (va_up (va_up (va_up (fun _ => none) 0 (some (a 52))) 1 (some (a 54))) 2 (some (a 56))) 3 (some (a 58))) 4 (some (a 60))) 5 (some (a 62))))))))), ((a 51), .inl (cA 4, (8, .inr (.inr (.inr (.inr (va_up (va_up (va_up (va_up (va_up (va_up (va_up (va_up (fun _ => none) 0 (some (a 64))) 1 (some (a 65))) 2 (some (a 66))) 3 (some (a 67))) 4 (some (a 68))) 5 (some (a 69))) 6 (some (a 70))) 7 (some (a 71))))))))), ((a 52), .inr (0, [.ref (a 53)])), ((a 53), .inl (cA 0, (5, .inl (fun _ => 0)))), ((a 54), .inr (0, [.ref (a 55)])), ((a 55), .inl (cA 0, (5, .inl (fun _ => 0)))), ((a 56), .inr (0, [.ref (a 57)])), ((a 57), .inl (cA 0, (5, .inl (fun _ => 0)))), ((a 58), .inr (0, [.ref (a 59)])), ((a 59), .inl (cA 0, (5, .inl (fun _ => 0)))), ((a 60), .inr (0, [.ref (a 61)])), ((a 61), .inl (cA 0, (5, .inl (fun _ => 0)))), ((a 62), .inr (0, [.ref (a 63)])), ((a 63), .inl (cA 0, (5, .inl (fun _ => 0)))), ((a 64), .inr (1, [.int 0, .int 0, .int 0])), ((a 65), .inr (1, [.int 0, .int 0, .int 0])), ((a 66), .inr (1, [.int 0, .int 0, .int 0])), ((a 67), .inr (1, [.int 0, .int 0, .int 0])), ((a 68), .inr (1, [.int 0, .int 0, .int 0])), ((a 69), .inr (1, [.int 0, .int 0, .int 0])), ((a 70), .inr (1, [.int 0, .int 0, .int 0])), ((a 71), .inr (1, [.int 0, .int 0, .int 0])), ((a 72), .inl (cA 5, (4, .inr (.inr (.inr (.inr (va_up (va_up (va_up (va_up (fun _ => none) 0 (some (a 78))) 1 (some (a 80))) 2 (some (a 82))) 3 (some (a 84))))))))), ((a 73), .inl (cA 0, (7, .inl (fun _ => 0)))), ((a 74), .inl (cA 0, (400, .inl (fun _ => 0)))), ((a 75), .inr (1, [.int 0, .int 0, .int 0])), ((a 76), .inr (0, [.ref (a 77)])), ((a 77), .inl (cA 0, (5, .inl (fun _ => 0)))), ((a 78), .inr (2, [.int 0, .int 0, .ref (a 79)])), ((a 79), .inl (cA 1, (40, .inr (.inl (fun _ => 0))))), ((a 80), .inr (2, [.int 0, .int 0, .ref (a 81)])), ((a 81), .inl (cA 1, (40, .inr (.inl (fun _ => 0))))), ((a 82), .inr (2, [.int 0, .int 0, .ref (a 83)])), ((a 83), .inl (cA 1, (40, .inr (.inl (fun _ => 0))))), ((a 84), .inr (2, [.int 0, .int 0, .ref (a 85)])), ((a 85), .inl (cA 1, (40, .inr (.inl (fun _ => 0)))))]
abbrev mi_X5 : Mi := (cX5_init, RX5, 2, none, { frames := 4, cells := 85, slots := 968, locals := 81 })
theorem mn_X5 : MIN yX5_init mi_X5 85 968 := ⟨cw42, gw378, ⟨by decide, by decide, by decide +kernel⟩, rfl, rfl, rfl, cw43⟩
set_option maxHeartbeats 4000000 in
set_option maxRecDepth 100000 in
theorem cn_X5 : ∀ l, ConN l yX5_init mi_X5 (.inr (5, [.null, .null, .int 0, .null, .null, .null, .null, .null, .null])) 85 968 FX5 := by
  refine con_ofN (by decide) rfl rfl (by decide) rfl (fun X h0 A => ?_)
  refine gn_aload_n 0 rfl dX5_init_0 rfl ?_
  refine gn_obj cw29 cw1 cw2 dX5_init_1 (Nat.le_of_ble_eq_true rfl) (Nat.le_of_ble_eq_true rfl) ?_
  refine gn_aload_n 0 rfl dX5_init_4 rfl ?_
  refine gn_new clX3 [.int 0, .int 0, .int 0, .int 0, .int 0, .int 0, .int 0, .null, .null] (fun j hj => by rcases (show j = 0 ∨ j = 1 ∨ j = 2 ∨ j = 3 ∨ j = 4 ∨ j = 5 ∨ j = 6 ∨ j = 7 ∨ j = 8 by omega) with rfl | rfl | rfl | rfl | rfl | rfl | rfl | rfl | rfl <;> rfl) cw30 cw25 gw403 (Nat.le_of_ble_eq_true rfl) (Nat.le_of_ble_eq_true rfl) dX5_init_5 (fun q1 => ?_)
  refine gn_dup dX5_init_8 rfl ?_
  refine gn_init (cn_X3) mn_X3 cw31 ⟨Nat.le_of_ble_eq_true rfl, Nat.le_of_ble_eq_true rfl⟩ (Nat.le_of_ble_eq_true rfl) dX5_init_9 ⟨Nat.le_of_ble_eq_true rfl, Nat.le_of_ble_eq_true rfl⟩ (fun a2 h3 => ?_)
  subst h3
  refine gn_putF (ws' := (fun cA => [(h0, .inr (5, [.ref (a2 0), .null, .int 0, .null, .null, .null, .null, .null, .null]))] ++ FX3 cA a2)) clX5 0 0 (Nat.le_of_ble_eq_true rfl) (fun _ => rfl) (fun _ => rfl) rfl rfl rfl rfl (Nat.le_of_ble_eq_true rfl) gw113 dX5_init_12 ?_
  refine gn_aload_n 0 rfl dX5_init_15 rfl ?_
  refine gn_new clX3 [.int 0, .int 0, .int 0, .int 0, .int 0, .int 0, .int 0, .null, .null] (fun j hj => by rcases (show j = 0 ∨ j = 1 ∨ j = 2 ∨ j = 3 ∨ j = 4 ∨ j = 5 ∨ j = 6 ∨ j = 7 ∨ j = 8 by omega) with rfl | rfl | rfl | rfl | rfl | rfl | rfl | rfl | rfl <;> rfl) cw30 cw25 gw403 (Nat.le_of_ble_eq_true rfl) (Nat.le_of_ble_eq_true rfl) dX5_init_16 (fun q4 => ?_)
  refine gn_dup dX5_init_19 rfl ?_
  refine gn_init (cn_X3) mn_X3 cw31 ⟨Nat.le_of_ble_eq_true rfl, Nat.le_of_ble_eq_true rfl⟩ (Nat.le_of_ble_eq_true rfl) dX5_init_20 ⟨Nat.le_of_ble_eq_true rfl, Nat.le_of_ble_eq_true rfl⟩ (fun a5 h6 => ?_)
  subst h6
  refine gn_putF (ws' := (fun cA => [(h0, .inr (5, [.ref (a2 0), .ref (a5 0), .int 0, .null, .null, .null, .null, .null, .null]))] ++ FX3 cA a2 ++ FX3 cA a5)) clX5 0 1 (Nat.le_of_ble_eq_true rfl) (fun _ => rfl) (fun _ => rfl) rfl rfl rfl rfl (Nat.le_of_ble_eq_true rfl) gw201 dX5_init_23 ?_
  refine gn_aload_n 0 rfl dX5_init_26 rfl ?_
  refine gn_new clX4 [.null, .int 0, .null, .int 0, .int 0, .int 0, .int 0] (fun j hj => by rcases (show j = 0 ∨ j = 1 ∨ j = 2 ∨ j = 3 ∨ j = 4 ∨ j = 5 ∨ j = 6 by omega) with rfl | rfl | rfl | rfl | rfl | rfl | rfl <;> rfl) cw32 cw33 gw449 (Nat.le_of_ble_eq_true rfl) (Nat.le_of_ble_eq_true rfl) dX5_init_27 (fun q7 => ?_)
  refine gn_dup dX5_init_30 rfl ?_
  refine gn_initN (cn_X4) mn_X4 cn34 ⟨Nat.le_of_ble_eq_true rfl, Nat.le_of_ble_eq_true rfl⟩ (Nat.le_of_ble_eq_true rfl) dX5_init_31 ⟨Nat.le_of_ble_eq_true rfl, Nat.le_of_ble_eq_true rfl⟩ (fun a8 h9 => ?_)
  subst h9
  refine gn_putF (ws' := (fun cA => [(h0, .inr (5, [.ref (a2 0), .ref (a5 0), .int 0, .ref (a8 0), .null, .null, .null, .null, .null]))] ++ FX3 cA a2 ++ FX3 cA a5 ++ FX4 cA a8)) clX5 0 3 (Nat.le_of_ble_eq_true rfl) (fun _ => rfl) (fun _ => rfl) rfl rfl rfl rfl (Nat.le_of_ble_eq_true rfl) gw178 dX5_init_34 ?_
  refine gn_aload_n 0 rfl dX5_init_37 rfl ?_
  refine gn_iconst (v := (4 : Int32)) dX5_init_38 (by decide) ?_
  refine gn_newq (C := RX2) 5 (fun _ => rfl) cw35 (fun _ h => h.2.2) 4 (by decide) (by decide) (Nat.le_of_ble_eq_true rfl) (Nat.le_of_ble_eq_true rfl) (Nat.le_of_ble_eq_true rfl) dX5_init_39 (fun q10 => ?_)
  refine gn_putF (ws' := (fun cA => [(h0, .inr (5, [.ref (a2 0), .ref (a5 0), .int 0, .ref (a8 0), .ref q10, .null, .null, .null, .null]))] ++ FX3 cA a2 ++ FX3 cA a5 ++ FX4 cA a8 ++ [(q10, .inl (cA 5, (4, .inr (.inr (.inr (.inr (fun _ => none)))))))])) clX5 0 4 (Nat.le_of_ble_eq_true rfl) (fun _ => rfl) (fun _ => rfl) rfl rfl rfl rfl (Nat.le_of_ble_eq_true rfl) gw184 dX5_init_42 ?_
  refine gn_aload_n 0 rfl dX5_init_45 rfl ?_
  refine gn_bipush (v := (7 : Int32)) dX5_init_46 (by decide) ?_
  refine gn_newa (atype := .int) (ty := .int) rfl 0 (fun _ => rfl) cw3 7 (7, .inl (fun _ => 0)) (fun _ => rfl) (by decide) (by decide) (Nat.le_of_ble_eq_true rfl) (Nat.le_of_ble_eq_true rfl) (Nat.le_of_ble_eq_true rfl) dX5_init_48 (fun q11 => ?_)
  refine gn_putF (ws' := (fun cA => [(h0, .inr (5, [.ref (a2 0), .ref (a5 0), .int 0, .ref (a8 0), .ref q10, .ref q11, .null, .null, .null]))] ++ FX3 cA a2 ++ FX3 cA a5 ++ FX4 cA a8 ++ [(q10, .inl (cA 5, (4, .inr (.inr (.inr (.inr (fun _ => none)))))))] ++ [(q11, .inl (cA 0, (7, .inl (fun _ => 0))))])) clX5 0 5 (Nat.le_of_ble_eq_true rfl) (fun _ => rfl) (fun _ => rfl) rfl rfl rfl rfl (Nat.le_of_ble_eq_true rfl) gw111 dX5_init_50 ?_
  refine gn_aload_n 0 rfl dX5_init_53 rfl ?_
  refine gn_sipush (v := (400 : Int32)) dX5_init_54 (by decide) ?_
  refine gn_newa (atype := .int) (ty := .int) rfl 0 (fun _ => rfl) cw3 400 (400, .inl (fun _ => 0)) (fun _ => rfl) (by decide) (by decide) (Nat.le_of_ble_eq_true rfl) (Nat.le_of_ble_eq_true rfl) (Nat.le_of_ble_eq_true rfl) dX5_init_57 (fun q12 => ?_)
  refine gn_putF (ws' := (fun cA => [(h0, .inr (5, [.ref (a2 0), .ref (a5 0), .int 0, .ref (a8 0), .ref q10, .ref q11, .ref q12, .null, .null]))] ++ FX3 cA a2 ++ FX3 cA a5 ++ FX4 cA a8 ++ [(q10, .inl (cA 5, (4, .inr (.inr (.inr (.inr (fun _ => none)))))))] ++ [(q11, .inl (cA 0, (7, .inl (fun _ => 0))))] ++ [(q12, .inl (cA 0, (400, .inl (fun _ => 0))))])) clX5 0 6 (Nat.le_of_ble_eq_true rfl) (fun _ => rfl) (fun _ => rfl) rfl rfl rfl rfl (Nat.le_of_ble_eq_true rfl) gw155 dX5_init_59 ?_
  refine gn_aload_n 0 rfl dX5_init_62 rfl ?_
  refine gn_new clX1 [.int 0, .int 0, .int 0] (fun j hj => by rcases (show j = 0 ∨ j = 1 ∨ j = 2 by omega) with rfl | rfl | rfl <;> rfl) cw36 cw18 gw365 (Nat.le_of_ble_eq_true rfl) (Nat.le_of_ble_eq_true rfl) dX5_init_63 (fun q13 => ?_)
  refine gn_dup dX5_init_66 rfl ?_
  refine gn_initN (cn_X1) mn_X1 cn37 ⟨Nat.le_of_ble_eq_true rfl, Nat.le_of_ble_eq_true rfl⟩ (Nat.le_of_ble_eq_true rfl) dX5_init_67 ⟨Nat.le_of_ble_eq_true rfl, Nat.le_of_ble_eq_true rfl⟩ (fun a14 h15 => ?_)
  subst h15
  refine gn_putF (ws' := (fun cA => [(h0, .inr (5, [.ref (a2 0), .ref (a5 0), .int 0, .ref (a8 0), .ref q10, .ref q11, .ref q12, .ref (a14 0), .null]))] ++ FX3 cA a2 ++ FX3 cA a5 ++ FX4 cA a8 ++ [(q10, .inl (cA 5, (4, .inr (.inr (.inr (.inr (fun _ => none)))))))] ++ [(q11, .inl (cA 0, (7, .inl (fun _ => 0))))] ++ [(q12, .inl (cA 0, (400, .inl (fun _ => 0))))] ++ FX1 cA a14)) clX5 0 7 (Nat.le_of_ble_eq_true rfl) (fun _ => rfl) (fun _ => rfl) rfl rfl rfl rfl (Nat.le_of_ble_eq_true rfl) gw157 dX5_init_70 ?_
  refine gn_aload_n 0 rfl dX5_init_73 rfl ?_
  refine gn_new clX0 [.null] (fun j hj => by rcases (show j = 0 by omega) with rfl <;> rfl) cw38 cw16 gw326 (Nat.le_of_ble_eq_true rfl) (Nat.le_of_ble_eq_true rfl) dX5_init_74 (fun q16 => ?_)
  refine gn_dup dX5_init_77 rfl ?_
  refine gn_initN (cn_X0) mn_X0 cn39 ⟨Nat.le_of_ble_eq_true rfl, Nat.le_of_ble_eq_true rfl⟩ (Nat.le_of_ble_eq_true rfl) dX5_init_78 ⟨Nat.le_of_ble_eq_true rfl, Nat.le_of_ble_eq_true rfl⟩ (fun a17 h18 => ?_)
  subst h18
  refine gn_putF (ws' := (fun cA => [(h0, .inr (5, [.ref (a2 0), .ref (a5 0), .int 0, .ref (a8 0), .ref q10, .ref q11, .ref q12, .ref (a14 0), .ref (a17 0)]))] ++ FX3 cA a2 ++ FX3 cA a5 ++ FX4 cA a8 ++ [(q10, .inl (cA 5, (4, .inr (.inr (.inr (.inr (fun _ => none)))))))] ++ [(q11, .inl (cA 0, (7, .inl (fun _ => 0))))] ++ [(q12, .inl (cA 0, (400, .inl (fun _ => 0))))] ++ FX1 cA a14 ++ FX0 cA a17)) clX5 0 8 (Nat.le_of_ble_eq_true rfl) (fun _ => rfl) (fun _ => rfl) rfl rfl rfl rfl (Nat.le_of_ble_eq_true rfl) gw169 dX5_init_81 ?_
  refine gn_iconst (v := (0 : Int32)) dX5_init_84 (by decide) ?_
  refine gn_istore_n (lv' := [(1, .int (0 : Int32)), (0, .ref h0)]) dX5_init_85 rfl (Nat.le_of_ble_eq_true rfl) rfl ?_
  refine gn_iload_n 0 rfl dX5_init_86 rfl ?_
  refine gn_aload_n 1 rfl dX5_init_87 rfl ?_
  refine gn_get clX5 0 4 (Nat.le_of_ble_eq_true rfl) (fun _ => rfl) rfl gw184 dX5_init_88 ?_
  refine gn_alen 72 5 (fun _ => rfl) (fun _ => rfl) (v := (4 : Int32)) rfl dX5_init_91 ?_
  refine gn_ge_f (tgt := 114) (by decide) dX5_init_92 (by decide) ?_
  refine gn_aload_n 1 rfl dX5_init_95 rfl ?_
  refine gn_get clX5 0 4 (Nat.le_of_ble_eq_true rfl) (fun _ => rfl) rfl gw184 dX5_init_96 ?_
  refine gn_iload_n 0 rfl dX5_init_99 rfl ?_
  refine gn_new clX2 [.int 0, .int 0, .null] (fun j hj => by rcases (show j = 0 ∨ j = 1 ∨ j = 2 by omega) with rfl | rfl | rfl <;> rfl) cw35 cw40 gw383 (Nat.le_of_ble_eq_true rfl) (Nat.le_of_ble_eq_true rfl) dX5_init_100 (fun q19 => ?_)
  refine gn_dup dX5_init_103 rfl ?_
  refine gn_initN (cn_X2) mn_X2 cn41 ⟨Nat.le_of_ble_eq_true rfl, Nat.le_of_ble_eq_true rfl⟩ (Nat.le_of_ble_eq_true rfl) dX5_init_104 ⟨Nat.le_of_ble_eq_true rfl, Nat.le_of_ble_eq_true rfl⟩ (fun a20 h21 => ?_)
  subst h21
  refine gn_ast (ws' := (fun cA => [(h0, .inr (5, [.ref (a2 0), .ref (a5 0), .int 0, .ref (a8 0), .ref q10, .ref q11, .ref q12, .ref (a14 0), .ref (a17 0)]))] ++ FX3 cA a2 ++ FX3 cA a5 ++ FX4 cA a8 ++ [(q10, .inl (cA 5, (4, .inr (.inr (.inr (.inr (va_up (fun _ => none) 0 (some (a20 0)))))))))] ++ [(q11, .inl (cA 0, (7, .inl (fun _ => 0))))] ++ [(q12, .inl (cA 0, (400, .inl (fun _ => 0))))] ++ FX1 cA a14 ++ FX0 cA a17 ++ FX2 cA a20)) 72 5 78 2 rfl (fun _ => rfl) (fun _ => rfl) (fun _ => rfl) rfl (fun _ => rfl) dX5_init_107 ?_
  refine gn_iinc (v := (1 : Int32)) (lv' := [(1, .int (1 : Int32)), (0, .ref h0)]) 0 rfl dX5_init_108 (by decide) (Nat.le_of_ble_eq_true rfl) rfl ?_
  refine gn_goto (tgt := 86) dX5_init_111 (by decide) ?_
  refine gn_iload_n 0 rfl dX5_init_86 rfl ?_
  refine gn_aload_n 1 rfl dX5_init_87 rfl ?_
  refine gn_get clX5 0 4 (Nat.le_of_ble_eq_true rfl) (fun _ => rfl) rfl gw184 dX5_init_88 ?_
  refine gn_alen 72 5 (fun _ => rfl) (fun _ => rfl) (v := (4 : Int32)) rfl dX5_init_91 ?_
  refine gn_ge_f (tgt := 114) (by decide) dX5_init_92 (by decide) ?_
  refine gn_aload_n 1 rfl dX5_init_95 rfl ?_
  refine gn_get clX5 0 4 (Nat.le_of_ble_eq_true rfl) (fun _ => rfl) rfl gw184 dX5_init_96 ?_
  refine gn_iload_n 0 rfl dX5_init_99 rfl ?_
  refine gn_new clX2 [.int 0, .int 0, .null] (fun j hj => by rcases (show j = 0 ∨ j = 1 ∨ j = 2 by omega) with rfl | rfl | rfl <;> rfl) cw35 cw40 gw383 (Nat.le_of_ble_eq_true rfl) (Nat.le_of_ble_eq_true rfl) dX5_init_100 (fun q22 => ?_)
  refine gn_dup dX5_init_103 rfl ?_
  refine gn_initN (cn_X2) mn_X2 cn41 ⟨Nat.le_of_ble_eq_true rfl, Nat.le_of_ble_eq_true rfl⟩ (Nat.le_of_ble_eq_true rfl) dX5_init_104 ⟨Nat.le_of_ble_eq_true rfl, Nat.le_of_ble_eq_true rfl⟩ (fun a23 h24 => ?_)
  subst h24
  refine gn_ast (ws' := (fun cA => [(h0, .inr (5, [.ref (a2 0), .ref (a5 0), .int 0, .ref (a8 0), .ref q10, .ref q11, .ref q12, .ref (a14 0), .ref (a17 0)]))] ++ FX3 cA a2 ++ FX3 cA a5 ++ FX4 cA a8 ++ [(q10, .inl (cA 5, (4, .inr (.inr (.inr (.inr (va_up (va_up (fun _ => none) 0 (some (a20 0))) 1 (some (a23 0)))))))))] ++ [(q11, .inl (cA 0, (7, .inl (fun _ => 0))))] ++ [(q12, .inl (cA 0, (400, .inl (fun _ => 0))))] ++ FX1 cA a14 ++ FX0 cA a17 ++ FX2 cA a20 ++ FX2 cA a23)) 72 5 80 2 rfl (fun _ => rfl) (fun _ => rfl) (fun _ => rfl) rfl (fun _ => rfl) dX5_init_107 ?_
  refine gn_iinc (v := (2 : Int32)) (lv' := [(1, .int (2 : Int32)), (0, .ref h0)]) 0 rfl dX5_init_108 (by decide) (Nat.le_of_ble_eq_true rfl) rfl ?_
  refine gn_goto (tgt := 86) dX5_init_111 (by decide) ?_
  refine gn_iload_n 0 rfl dX5_init_86 rfl ?_
  refine gn_aload_n 1 rfl dX5_init_87 rfl ?_
  refine gn_get clX5 0 4 (Nat.le_of_ble_eq_true rfl) (fun _ => rfl) rfl gw184 dX5_init_88 ?_
  refine gn_alen 72 5 (fun _ => rfl) (fun _ => rfl) (v := (4 : Int32)) rfl dX5_init_91 ?_
  refine gn_ge_f (tgt := 114) (by decide) dX5_init_92 (by decide) ?_
  refine gn_aload_n 1 rfl dX5_init_95 rfl ?_
  refine gn_get clX5 0 4 (Nat.le_of_ble_eq_true rfl) (fun _ => rfl) rfl gw184 dX5_init_96 ?_
  refine gn_iload_n 0 rfl dX5_init_99 rfl ?_
  refine gn_new clX2 [.int 0, .int 0, .null] (fun j hj => by rcases (show j = 0 ∨ j = 1 ∨ j = 2 by omega) with rfl | rfl | rfl <;> rfl) cw35 cw40 gw383 (Nat.le_of_ble_eq_true rfl) (Nat.le_of_ble_eq_true rfl) dX5_init_100 (fun q25 => ?_)
  refine gn_dup dX5_init_103 rfl ?_
  refine gn_initN (cn_X2) mn_X2 cn41 ⟨Nat.le_of_ble_eq_true rfl, Nat.le_of_ble_eq_true rfl⟩ (Nat.le_of_ble_eq_true rfl) dX5_init_104 ⟨Nat.le_of_ble_eq_true rfl, Nat.le_of_ble_eq_true rfl⟩ (fun a26 h27 => ?_)
  subst h27
  refine gn_ast (ws' := (fun cA => [(h0, .inr (5, [.ref (a2 0), .ref (a5 0), .int 0, .ref (a8 0), .ref q10, .ref q11, .ref q12, .ref (a14 0), .ref (a17 0)]))] ++ FX3 cA a2 ++ FX3 cA a5 ++ FX4 cA a8 ++ [(q10, .inl (cA 5, (4, .inr (.inr (.inr (.inr (va_up (va_up (va_up (fun _ => none) 0 (some (a20 0))) 1 (some (a23 0))) 2 (some (a26 0)))))))))] ++ [(q11, .inl (cA 0, (7, .inl (fun _ => 0))))] ++ [(q12, .inl (cA 0, (400, .inl (fun _ => 0))))] ++ FX1 cA a14 ++ FX0 cA a17 ++ FX2 cA a20 ++ FX2 cA a23 ++ FX2 cA a26)) 72 5 82 2 rfl (fun _ => rfl) (fun _ => rfl) (fun _ => rfl) rfl (fun _ => rfl) dX5_init_107 ?_
  refine gn_iinc (v := (3 : Int32)) (lv' := [(1, .int (3 : Int32)), (0, .ref h0)]) 0 rfl dX5_init_108 (by decide) (Nat.le_of_ble_eq_true rfl) rfl ?_
  refine gn_goto (tgt := 86) dX5_init_111 (by decide) ?_
  refine gn_iload_n 0 rfl dX5_init_86 rfl ?_
  refine gn_aload_n 1 rfl dX5_init_87 rfl ?_
  refine gn_get clX5 0 4 (Nat.le_of_ble_eq_true rfl) (fun _ => rfl) rfl gw184 dX5_init_88 ?_
  refine gn_alen 72 5 (fun _ => rfl) (fun _ => rfl) (v := (4 : Int32)) rfl dX5_init_91 ?_
  refine gn_ge_f (tgt := 114) (by decide) dX5_init_92 (by decide) ?_
  refine gn_aload_n 1 rfl dX5_init_95 rfl ?_
  refine gn_get clX5 0 4 (Nat.le_of_ble_eq_true rfl) (fun _ => rfl) rfl gw184 dX5_init_96 ?_
  refine gn_iload_n 0 rfl dX5_init_99 rfl ?_
  refine gn_new clX2 [.int 0, .int 0, .null] (fun j hj => by rcases (show j = 0 ∨ j = 1 ∨ j = 2 by omega) with rfl | rfl | rfl <;> rfl) cw35 cw40 gw383 (Nat.le_of_ble_eq_true rfl) (Nat.le_of_ble_eq_true rfl) dX5_init_100 (fun q28 => ?_)
  refine gn_dup dX5_init_103 rfl ?_
  refine gn_initN (cn_X2) mn_X2 cn41 ⟨Nat.le_of_ble_eq_true rfl, Nat.le_of_ble_eq_true rfl⟩ (Nat.le_of_ble_eq_true rfl) dX5_init_104 ⟨Nat.le_of_ble_eq_true rfl, Nat.le_of_ble_eq_true rfl⟩ (fun a29 h30 => ?_)
  subst h30
  refine gn_ast (ws' := (fun cA => [(h0, .inr (5, [.ref (a2 0), .ref (a5 0), .int 0, .ref (a8 0), .ref q10, .ref q11, .ref q12, .ref (a14 0), .ref (a17 0)]))] ++ FX3 cA a2 ++ FX3 cA a5 ++ FX4 cA a8 ++ [(q10, .inl (cA 5, (4, .inr (.inr (.inr (.inr (va_up (va_up (va_up (va_up (fun _ => none) 0 (some (a20 0))) 1 (some (a23 0))) 2 (some (a26 0))) 3 (some (a29 0)))))))))] ++ [(q11, .inl (cA 0, (7, .inl (fun _ => 0))))] ++ [(q12, .inl (cA 0, (400, .inl (fun _ => 0))))] ++ FX1 cA a14 ++ FX0 cA a17 ++ FX2 cA a20 ++ FX2 cA a23 ++ FX2 cA a26 ++ FX2 cA a29)) 72 5 84 2 rfl (fun _ => rfl) (fun _ => rfl) (fun _ => rfl) rfl (fun _ => rfl) dX5_init_107 ?_
  refine gn_iinc (v := (4 : Int32)) (lv' := [(1, .int (4 : Int32)), (0, .ref h0)]) 0 rfl dX5_init_108 (by decide) (Nat.le_of_ble_eq_true rfl) rfl ?_
  refine gn_goto (tgt := 86) dX5_init_111 (by decide) ?_
  refine gn_iload_n 0 rfl dX5_init_86 rfl ?_
  refine gn_aload_n 1 rfl dX5_init_87 rfl ?_
  refine gn_get clX5 0 4 (Nat.le_of_ble_eq_true rfl) (fun _ => rfl) rfl gw184 dX5_init_88 ?_
  refine gn_alen 72 5 (fun _ => rfl) (fun _ => rfl) (v := (4 : Int32)) rfl dX5_init_91 ?_
  refine gn_ge_t (tgt := 114) (by decide) dX5_init_92 (by decide) ?_
  exact gn_ret rfl (fun D cA H hP hD => ⟨fun n => [h0, (a2 0), (a2 1), (a2 2), (a2 3), (a2 4), (a2 5), (a2 6), (a2 7), (a2 8), (a2 9), (a2 10), (a2 11), (a2 12), (a2 13), (a2 14), (a2 15), (a2 16), (a2 17), (a2 18), (a2 19), (a2 20), (a2 21), (a2 22), (a5 0), (a5 1), (a5 2), (a5 3), (a5 4), (a5 5), (a5 6), (a5 7), (a5 8), (a5 9), (a5 10), (a5 11), (a5 12), (a5 13), (a5 14), (a5 15), (a5 16), (a5 17), (a5 18), (a5 19), (a5 20), (a5 21), (a5 22), (a8 0), (a8 1), (a8 2), (a8 3), (a8 4), (a8 5), (a8 6), (a8 7), (a8 8), (a8 9), (a8 10), (a8 11), (a8 12), (a8 13), (a8 14), (a8 15), (a8 16), (a8 17), (a8 18), (a8 19), (a8 20), (a8 21), (a8 22), (a8 23), (a8 24), q10, q11, q12, (a14 0), (a17 0), (a17 1), (a20 0), (a20 1), (a23 0), (a23 1), (a26 0), (a26 1), (a29 0), (a29 1)].getD n 0, rfl, hP, hD⟩) dX5_init_114
def FX6 : Fw := fun cA a => [((a 0), .inr (6, [.ref (a 1), .ref (a 2), .ref (a 3), .ref (a 4), .ref (a 5), .int 0, .ref (a 6), .int 0, .int 0, .int 0, .int 0, .int 0, .ref (a 7), .ref (a 8), .ref (a 9), .ref (a 10)])), ((a 1), .inl (cA 0, (61, .inl (upd (fun _ => 0) 3 10)))), ((a 2), .inl (cA 0, (61, .inl (fun _ => 0)))), ((a 3), .inl (cA 0, (61, .inl (fun _ => 0)))), ((a 4), .inl (cA 0, (61, .inl (fun _ => 0)))), ((a 5), .inl (cA 0, (7, .inl (fun _ => 0)))), ((a 6), .inl (cA 0, (120, .inl (fun _ => 0)))), ((a 7), .inl (cA 0, (4, .inl (fun _ => 0)))), ((a 8), .inl (cA 0, (4, .inl (fun _ => 0)))), ((a 9), .inl (cA 1, (160, .inr (.inl (fun _ => 0))))), ((a 10), .inl (cA 1, (40, .inr (.inl (fun _ => 0)))))]
abbrev mi_X6 : Mi := (cX6_init, RX6, 1, none, { frames := 1, cells := 10, slots := 579, locals := 20 })
theorem mn_X6 : MIN yX6_init mi_X6 10 579 := ⟨cw45, gw669, ⟨by decide, by decide, by decide +kernel⟩, rfl, rfl, rfl, cw46⟩
set_option maxHeartbeats 4000000 in
set_option maxRecDepth 100000 in
theorem cn_X6 : ∀ l, ConN l yX6_init mi_X6 (.inr (6, [.null, .null, .null, .null, .null, .int 0, .null, .int 0, .int 0, .int 0, .int 0, .int 0, .null, .null, .null, .null])) 10 579 FX6 := by
  refine con_ofN (by decide) rfl rfl (by decide) rfl (fun X h0 A => ?_)
  refine gn_aload_n 0 rfl dX6_init_0 rfl ?_
  refine gn_obj cw44 cw1 cw2 dX6_init_1 (Nat.le_of_ble_eq_true rfl) (Nat.le_of_ble_eq_true rfl) ?_
  refine gn_aload_n 0 rfl dX6_init_4 rfl ?_
  refine gn_bipush (v := (61 : Int32)) dX6_init_5 (by decide) ?_
  refine gn_newa (atype := .int) (ty := .int) rfl 0 (fun _ => rfl) cw3 61 (61, .inl (fun _ => 0)) (fun _ => rfl) (by decide) (by decide) (Nat.le_of_ble_eq_true rfl) (Nat.le_of_ble_eq_true rfl) (Nat.le_of_ble_eq_true rfl) dX6_init_7 (fun q1 => ?_)
  refine gn_putF (ws' := (fun cA => [(h0, .inr (6, [.ref q1, .null, .null, .null, .null, .int 0, .null, .int 0, .int 0, .int 0, .int 0, .int 0, .null, .null, .null, .null]))] ++ [(q1, .inl (cA 0, (61, .inl (fun _ => 0))))])) clX6 0 0 (Nat.le_of_ble_eq_true rfl) (fun _ => rfl) (fun _ => rfl) rfl rfl rfl rfl (Nat.le_of_ble_eq_true rfl) gw207 dX6_init_9 ?_
  refine gn_aload_n 0 rfl dX6_init_12 rfl ?_
  refine gn_bipush (v := (61 : Int32)) dX6_init_13 (by decide) ?_
  refine gn_newa (atype := .int) (ty := .int) rfl 0 (fun _ => rfl) cw3 61 (61, .inl (fun _ => 0)) (fun _ => rfl) (by decide) (by decide) (Nat.le_of_ble_eq_true rfl) (Nat.le_of_ble_eq_true rfl) (Nat.le_of_ble_eq_true rfl) dX6_init_15 (fun q2 => ?_)
  refine gn_putF (ws' := (fun cA => [(h0, .inr (6, [.ref q1, .ref q2, .null, .null, .null, .int 0, .null, .int 0, .int 0, .int 0, .int 0, .int 0, .null, .null, .null, .null]))] ++ [(q1, .inl (cA 0, (61, .inl (fun _ => 0))))] ++ [(q2, .inl (cA 0, (61, .inl (fun _ => 0))))])) clX6 0 1 (Nat.le_of_ble_eq_true rfl) (fun _ => rfl) (fun _ => rfl) rfl rfl rfl rfl (Nat.le_of_ble_eq_true rfl) gw322 dX6_init_17 ?_
  refine gn_aload_n 0 rfl dX6_init_20 rfl ?_
  refine gn_bipush (v := (61 : Int32)) dX6_init_21 (by decide) ?_
  refine gn_newa (atype := .int) (ty := .int) rfl 0 (fun _ => rfl) cw3 61 (61, .inl (fun _ => 0)) (fun _ => rfl) (by decide) (by decide) (Nat.le_of_ble_eq_true rfl) (Nat.le_of_ble_eq_true rfl) (Nat.le_of_ble_eq_true rfl) dX6_init_23 (fun q3 => ?_)
  refine gn_putF (ws' := (fun cA => [(h0, .inr (6, [.ref q1, .ref q2, .ref q3, .null, .null, .int 0, .null, .int 0, .int 0, .int 0, .int 0, .int 0, .null, .null, .null, .null]))] ++ [(q1, .inl (cA 0, (61, .inl (fun _ => 0))))] ++ [(q2, .inl (cA 0, (61, .inl (fun _ => 0))))] ++ [(q3, .inl (cA 0, (61, .inl (fun _ => 0))))])) clX6 0 2 (Nat.le_of_ble_eq_true rfl) (fun _ => rfl) (fun _ => rfl) rfl rfl rfl rfl (Nat.le_of_ble_eq_true rfl) gw206 dX6_init_25 ?_
  refine gn_aload_n 0 rfl dX6_init_28 rfl ?_
  refine gn_bipush (v := (61 : Int32)) dX6_init_29 (by decide) ?_
  refine gn_newa (atype := .int) (ty := .int) rfl 0 (fun _ => rfl) cw3 61 (61, .inl (fun _ => 0)) (fun _ => rfl) (by decide) (by decide) (Nat.le_of_ble_eq_true rfl) (Nat.le_of_ble_eq_true rfl) (Nat.le_of_ble_eq_true rfl) dX6_init_31 (fun q4 => ?_)
  refine gn_putF (ws' := (fun cA => [(h0, .inr (6, [.ref q1, .ref q2, .ref q3, .ref q4, .null, .int 0, .null, .int 0, .int 0, .int 0, .int 0, .int 0, .null, .null, .null, .null]))] ++ [(q1, .inl (cA 0, (61, .inl (fun _ => 0))))] ++ [(q2, .inl (cA 0, (61, .inl (fun _ => 0))))] ++ [(q3, .inl (cA 0, (61, .inl (fun _ => 0))))] ++ [(q4, .inl (cA 0, (61, .inl (fun _ => 0))))])) clX6 0 3 (Nat.le_of_ble_eq_true rfl) (fun _ => rfl) (fun _ => rfl) rfl rfl rfl rfl (Nat.le_of_ble_eq_true rfl) gw208 dX6_init_33 ?_
  refine gn_aload_n 0 rfl dX6_init_36 rfl ?_
  refine gn_bipush (v := (7 : Int32)) dX6_init_37 (by decide) ?_
  refine gn_newa (atype := .int) (ty := .int) rfl 0 (fun _ => rfl) cw3 7 (7, .inl (fun _ => 0)) (fun _ => rfl) (by decide) (by decide) (Nat.le_of_ble_eq_true rfl) (Nat.le_of_ble_eq_true rfl) (Nat.le_of_ble_eq_true rfl) dX6_init_39 (fun q5 => ?_)
  refine gn_putF (ws' := (fun cA => [(h0, .inr (6, [.ref q1, .ref q2, .ref q3, .ref q4, .ref q5, .int 0, .null, .int 0, .int 0, .int 0, .int 0, .int 0, .null, .null, .null, .null]))] ++ [(q1, .inl (cA 0, (61, .inl (fun _ => 0))))] ++ [(q2, .inl (cA 0, (61, .inl (fun _ => 0))))] ++ [(q3, .inl (cA 0, (61, .inl (fun _ => 0))))] ++ [(q4, .inl (cA 0, (61, .inl (fun _ => 0))))] ++ [(q5, .inl (cA 0, (7, .inl (fun _ => 0))))])) clX6 0 4 (Nat.le_of_ble_eq_true rfl) (fun _ => rfl) (fun _ => rfl) rfl rfl rfl rfl (Nat.le_of_ble_eq_true rfl) gw204 dX6_init_41 ?_
  refine gn_aload_n 0 rfl dX6_init_44 rfl ?_
  refine gn_bipush (v := (120 : Int32)) dX6_init_45 (by decide) ?_
  refine gn_newa (atype := .int) (ty := .int) rfl 0 (fun _ => rfl) cw3 120 (120, .inl (fun _ => 0)) (fun _ => rfl) (by decide) (by decide) (Nat.le_of_ble_eq_true rfl) (Nat.le_of_ble_eq_true rfl) (Nat.le_of_ble_eq_true rfl) dX6_init_47 (fun q6 => ?_)
  refine gn_putF (ws' := (fun cA => [(h0, .inr (6, [.ref q1, .ref q2, .ref q3, .ref q4, .ref q5, .int 0, .ref q6, .int 0, .int 0, .int 0, .int 0, .int 0, .null, .null, .null, .null]))] ++ [(q1, .inl (cA 0, (61, .inl (fun _ => 0))))] ++ [(q2, .inl (cA 0, (61, .inl (fun _ => 0))))] ++ [(q3, .inl (cA 0, (61, .inl (fun _ => 0))))] ++ [(q4, .inl (cA 0, (61, .inl (fun _ => 0))))] ++ [(q5, .inl (cA 0, (7, .inl (fun _ => 0))))] ++ [(q6, .inl (cA 0, (120, .inl (fun _ => 0))))])) clX6 0 6 (Nat.le_of_ble_eq_true rfl) (fun _ => rfl) (fun _ => rfl) rfl rfl rfl rfl (Nat.le_of_ble_eq_true rfl) gw267 dX6_init_49 ?_
  refine gn_aload_n 0 rfl dX6_init_52 rfl ?_
  refine gn_iconst (v := (4 : Int32)) dX6_init_53 (by decide) ?_
  refine gn_newa (atype := .int) (ty := .int) rfl 0 (fun _ => rfl) cw3 4 (4, .inl (fun _ => 0)) (fun _ => rfl) (by decide) (by decide) (Nat.le_of_ble_eq_true rfl) (Nat.le_of_ble_eq_true rfl) (Nat.le_of_ble_eq_true rfl) dX6_init_54 (fun q7 => ?_)
  refine gn_putF (ws' := (fun cA => [(h0, .inr (6, [.ref q1, .ref q2, .ref q3, .ref q4, .ref q5, .int 0, .ref q6, .int 0, .int 0, .int 0, .int 0, .int 0, .ref q7, .null, .null, .null]))] ++ [(q1, .inl (cA 0, (61, .inl (fun _ => 0))))] ++ [(q2, .inl (cA 0, (61, .inl (fun _ => 0))))] ++ [(q3, .inl (cA 0, (61, .inl (fun _ => 0))))] ++ [(q4, .inl (cA 0, (61, .inl (fun _ => 0))))] ++ [(q5, .inl (cA 0, (7, .inl (fun _ => 0))))] ++ [(q6, .inl (cA 0, (120, .inl (fun _ => 0))))] ++ [(q7, .inl (cA 0, (4, .inl (fun _ => 0))))])) clX6 0 12 (Nat.le_of_ble_eq_true rfl) (fun _ => rfl) (fun _ => rfl) rfl rfl rfl rfl (Nat.le_of_ble_eq_true rfl) gw310 dX6_init_56 ?_
  refine gn_aload_n 0 rfl dX6_init_59 rfl ?_
  refine gn_iconst (v := (4 : Int32)) dX6_init_60 (by decide) ?_
  refine gn_newa (atype := .int) (ty := .int) rfl 0 (fun _ => rfl) cw3 4 (4, .inl (fun _ => 0)) (fun _ => rfl) (by decide) (by decide) (Nat.le_of_ble_eq_true rfl) (Nat.le_of_ble_eq_true rfl) (Nat.le_of_ble_eq_true rfl) dX6_init_61 (fun q8 => ?_)
  refine gn_putF (ws' := (fun cA => [(h0, .inr (6, [.ref q1, .ref q2, .ref q3, .ref q4, .ref q5, .int 0, .ref q6, .int 0, .int 0, .int 0, .int 0, .int 0, .ref q7, .ref q8, .null, .null]))] ++ [(q1, .inl (cA 0, (61, .inl (fun _ => 0))))] ++ [(q2, .inl (cA 0, (61, .inl (fun _ => 0))))] ++ [(q3, .inl (cA 0, (61, .inl (fun _ => 0))))] ++ [(q4, .inl (cA 0, (61, .inl (fun _ => 0))))] ++ [(q5, .inl (cA 0, (7, .inl (fun _ => 0))))] ++ [(q6, .inl (cA 0, (120, .inl (fun _ => 0))))] ++ [(q7, .inl (cA 0, (4, .inl (fun _ => 0))))] ++ [(q8, .inl (cA 0, (4, .inl (fun _ => 0))))])) clX6 0 13 (Nat.le_of_ble_eq_true rfl) (fun _ => rfl) (fun _ => rfl) rfl rfl rfl rfl (Nat.le_of_ble_eq_true rfl) gw311 dX6_init_63 ?_
  refine gn_aload_n 0 rfl dX6_init_66 rfl ?_
  refine gn_sipush (v := (160 : Int32)) dX6_init_67 (by decide) ?_
  refine gn_newa (atype := .long) (ty := .long) rfl 1 (fun _ => rfl) cw10 160 (160, .inr (.inl (fun _ => 0))) (fun _ => rfl) (by decide) (by decide) (Nat.le_of_ble_eq_true rfl) (Nat.le_of_ble_eq_true rfl) (Nat.le_of_ble_eq_true rfl) dX6_init_70 (fun q9 => ?_)
  refine gn_putF (ws' := (fun cA => [(h0, .inr (6, [.ref q1, .ref q2, .ref q3, .ref q4, .ref q5, .int 0, .ref q6, .int 0, .int 0, .int 0, .int 0, .int 0, .ref q7, .ref q8, .ref q9, .null]))] ++ [(q1, .inl (cA 0, (61, .inl (fun _ => 0))))] ++ [(q2, .inl (cA 0, (61, .inl (fun _ => 0))))] ++ [(q3, .inl (cA 0, (61, .inl (fun _ => 0))))] ++ [(q4, .inl (cA 0, (61, .inl (fun _ => 0))))] ++ [(q5, .inl (cA 0, (7, .inl (fun _ => 0))))] ++ [(q6, .inl (cA 0, (120, .inl (fun _ => 0))))] ++ [(q7, .inl (cA 0, (4, .inl (fun _ => 0))))] ++ [(q8, .inl (cA 0, (4, .inl (fun _ => 0))))] ++ [(q9, .inl (cA 1, (160, .inr (.inl (fun _ => 0)))))])) clX6 0 14 (Nat.le_of_ble_eq_true rfl) (fun _ => rfl) (fun _ => rfl) rfl rfl rfl rfl (Nat.le_of_ble_eq_true rfl) gw312 dX6_init_72 ?_
  refine gn_aload_n 0 rfl dX6_init_75 rfl ?_
  refine gn_bipush (v := (40 : Int32)) dX6_init_76 (by decide) ?_
  refine gn_newa (atype := .long) (ty := .long) rfl 1 (fun _ => rfl) cw10 40 (40, .inr (.inl (fun _ => 0))) (fun _ => rfl) (by decide) (by decide) (Nat.le_of_ble_eq_true rfl) (Nat.le_of_ble_eq_true rfl) (Nat.le_of_ble_eq_true rfl) dX6_init_78 (fun q10 => ?_)
  refine gn_putF (ws' := (fun cA => [(h0, .inr (6, [.ref q1, .ref q2, .ref q3, .ref q4, .ref q5, .int 0, .ref q6, .int 0, .int 0, .int 0, .int 0, .int 0, .ref q7, .ref q8, .ref q9, .ref q10]))] ++ [(q1, .inl (cA 0, (61, .inl (fun _ => 0))))] ++ [(q2, .inl (cA 0, (61, .inl (fun _ => 0))))] ++ [(q3, .inl (cA 0, (61, .inl (fun _ => 0))))] ++ [(q4, .inl (cA 0, (61, .inl (fun _ => 0))))] ++ [(q5, .inl (cA 0, (7, .inl (fun _ => 0))))] ++ [(q6, .inl (cA 0, (120, .inl (fun _ => 0))))] ++ [(q7, .inl (cA 0, (4, .inl (fun _ => 0))))] ++ [(q8, .inl (cA 0, (4, .inl (fun _ => 0))))] ++ [(q9, .inl (cA 1, (160, .inr (.inl (fun _ => 0)))))] ++ [(q10, .inl (cA 1, (40, .inr (.inl (fun _ => 0)))))])) clX6 0 15 (Nat.le_of_ble_eq_true rfl) (fun _ => rfl) (fun _ => rfl) rfl rfl rfl rfl (Nat.le_of_ble_eq_true rfl) gw318 dX6_init_80 ?_
  refine gn_aload_n 0 rfl dX6_init_83 rfl ?_
  refine gn_get clX6 0 0 (Nat.le_of_ble_eq_true rfl) (fun _ => rfl) rfl gw207 dX6_init_84 ?_
  refine gn_iconst (v := (3 : Int32)) dX6_init_87 (by decide) ?_
  refine gn_bipush (v := (10 : Int32)) dX6_init_88 (by decide) ?_
  refine gn_iast (ws' := (fun cA => [(h0, .inr (6, [.ref q1, .ref q2, .ref q3, .ref q4, .ref q5, .int 0, .ref q6, .int 0, .int 0, .int 0, .int 0, .int 0, .ref q7, .ref q8, .ref q9, .ref q10]))] ++ [(q1, .inl (cA 0, (61, .inl (upd (fun _ => 0) 3 10))))] ++ [(q2, .inl (cA 0, (61, .inl (fun _ => 0))))] ++ [(q3, .inl (cA 0, (61, .inl (fun _ => 0))))] ++ [(q4, .inl (cA 0, (61, .inl (fun _ => 0))))] ++ [(q5, .inl (cA 0, (7, .inl (fun _ => 0))))] ++ [(q6, .inl (cA 0, (120, .inl (fun _ => 0))))] ++ [(q7, .inl (cA 0, (4, .inl (fun _ => 0))))] ++ [(q8, .inl (cA 0, (4, .inl (fun _ => 0))))] ++ [(q9, .inl (cA 1, (160, .inr (.inl (fun _ => 0)))))] ++ [(q10, .inl (cA 1, (40, .inr (.inl (fun _ => 0)))))])) 1 (fun _ => rfl) rfl (fun _ => rfl) dX6_init_90 ?_
  exact gn_ret rfl (fun D cA H hP hD => ⟨fun n => [h0, q1, q2, q3, q4, q5, q6, q7, q8, q9, q10].getD n 0, rfl, hP, hD⟩) dX6_init_91
