/-! methods: what each does to the world, and that its bytecode does so (laid by wip/whole/gen) -/
def b_X5_both_69 (ih69 : Int32 × Int32 × Nat × Nat × Int32 × Uw → Option (Int32 × Uw)) (s : Int32 × Int32 × Nat × Nat × Int32 × Uw) : Option (Int32 × Uw) :=
  if (2000 : Int32) < s.2.2.2.2.1 then
  (bd (f_X5_found (-1000000004 : Int32) s.2.2.2.2.2) fun r22 u23 =>
  some (r22, u23))
  else
  (nm ((s.2.2.2.2.2.1 0 2) + s.2.2.2.2.1) fun x24 =>
  ck (kT s.2.2.1 == 0) <|
  bd (f_X0_dateAt s.2.2.1 x24 s.2.2.2.2.2) fun r26 u27 =>
  if r26 = s.1 then
  (ck (kT s.2.2.2.1 == 0) <|
  bd (f_X0_dateAt s.2.2.2.1 x24 u27) fun r29 u30 =>
  if r29 = s.2.1 then
  (some (x24, u30))
  else
  (ih69 (s.1, s.2.1, s.2.2.1, s.2.2.2.1, (s.2.2.2.2.1 + (1 : Int32)), u30)))
  else
  (ih69 (s.1, s.2.1, s.2.2.1, s.2.2.2.1, (s.2.2.2.2.1 + (1 : Int32)), u27)))
def f_X5_both (a1 : Int32) (a2 : Int32) (a3 : Int32) (a4 : Int32) (u : Uw) : Option (Int32 × Uw) :=
  bd (f_X3_calendarAt 0 a1 u) fun r1 u2 =>
  ro r1
  (bd (f_X3_calendarAt 0 a3 u2) fun r3 u4 =>
  ro r3
  (bd (f_X5_found (-1000000001 : Int32) u4) fun r5 u6 =>
  some (r5, u6))
  (fun e7 =>
  bd (f_X5_found (-1000000001 : Int32) u4) fun r8 u9 =>
  some (r8, u9)))
  (fun e10 =>
  bd (f_X3_calendarAt 0 a3 u2) fun r11 u12 =>
  ro r11
  (bd (f_X5_found (-1000000001 : Int32) u12) fun r13 u14 =>
  some (r13, u14))
  (fun e15 =>
  if a1 = a3 then
  (bd (f_X5_found (-1000000001 : Int32) u12) fun r33 u34 =>
  some (r33, u34))
  else
  (bd (f_X0_allows (2 : Int32) a2 u12) fun r16 u17 =>
  if r16 = true then
  (bd (f_X0_allows (2 : Int32) a4 u17) fun r20 u21 =>
  if r20 = true then
  (lp b_X5_both_69 2100 (a2, a4, e10, e15, (0 : Int32), u21))
  else
  (bd (f_X5_found (-1000000001 : Int32) u21) fun r31 u32 =>
  some (r31, u32)))
  else
  (bd (f_X5_found (-1000000001 : Int32) u17) fun r18 u19 =>
  some (r18, u19)))))
set_option maxHeartbeats 4000000 in
set_option maxRecDepth 100000 in
theorem gl_X5_both_69 (X : Cx) (ad : Nat → Nat) : ∀ (n : Nat) (s : Int32 × Int32 × Nat × Nat × Int32 × Uw), Go X ad mi_X5_both ivI 69 [(0, .ref (ad 69)), (2, .int s.1), (4, .int s.2.1), (5, .ref (ad s.2.2.1)), (6, .ref (ad s.2.2.2.1)), (7, .int s.2.2.2.2.1)] [] s.2.2.2.2.2 (lp b_X5_both_69 n s) := by
  refine go_lp (G := fun (s : Int32 × Int32 × Nat × Nat × Int32 × Uw) o => Go X ad mi_X5_both ivI 69 [(0, .ref (ad 69)), (2, .int s.1), (4, .int s.2.1), (5, .ref (ad s.2.2.1)), (6, .ref (ad s.2.2.2.1)), (7, .int s.2.2.2.2.1)] [] s.2.2.2.2.2 o) (fun _ => go_none) (fun ih69 hih69 s => ?_)
  show Go X ad mi_X5_both ivI 69 [(0, .ref (ad 69)), (2, .int s.1), (4, .int s.2.1), (5, .ref (ad s.2.2.1)), (6, .ref (ad s.2.2.2.1)), (7, .int s.2.2.2.2.1)] [] s.2.2.2.2.2 (b_X5_both_69 ih69 s)
  unfold b_X5_both_69
  refine go_iload 5 rfl dX5_both_69 ?_
  refine go_sipush (v := (2000 : Int32)) dX5_both_71 (by decide) ?_
  refine go_icmp_gt (tgt := 121) dX5_both_74 (by decide) ?_ ?_
  · refine go_aload_n 0 rfl dX5_both_121 rfl ?_
    refine go_ldc (v := (-1000000004 : Int32)) gw163 dX5_both_122 ?_
    refine go_callVI (As := fun ad => [.int (-1000000004 : Int32)]) (g_X5_found (-1000000004 : Int32) s.2.2.2.2.2) mv_X5_found clX5 kt_69 gw117 rfl ⟨Nat.le_of_ble_eq_true rfl, Nat.le_of_ble_eq_true rfl⟩ rfl (Nat.le_of_ble_eq_true rfl) dX5_both_124 (fun r22 u23 => ?_)
    exact go_iret rfl dX5_both_127
  · refine go_aload_n 0 rfl dX5_both_77 rfl ?_
    refine go_getR clX5 kt_69 0 (Nat.le_of_ble_eq_true rfl) (f := 0) (fun _ => rfl) gw113 dX5_both_78 ?_
    refine go_getILN clX3 kt_0 0 (Nat.le_of_ble_eq_true rfl) (c := 2) (fun _ => rfl) kr_0 gn142 dX5_both_81 ?_
    refine go_iload 5 rfl dX5_both_84 ?_
    refine go_iadd dX5_both_86 ?_
    refine go_nm (fun x24 => ?_)
    refine go_istore (lv' := [(8, .int x24), (0, .ref (ad 69)), (2, .int s.1), (4, .int s.2.1), (5, .ref (ad s.2.2.1)), (6, .ref (ad s.2.2.2.1)), (7, .int s.2.2.2.2.1)]) dX5_both_87 (Nat.le_of_ble_eq_true rfl) rfl ?_
    refine go_aload 4 rfl dX5_both_89 ?_
    refine go_iload 0 rfl dX5_both_91 ?_
    refine go_ck (fun h25 => ?_)
    refine go_callVI (As := fun ad => [.int x24]) (g_X0_dateAt s.2.2.1 x24 s.2.2.2.2.2) mv_X0_dateAt clX0 h25 gw126 rfl ⟨Nat.le_of_ble_eq_true rfl, Nat.le_of_ble_eq_true rfl⟩ rfl (Nat.le_of_ble_eq_true rfl) dX5_both_93 (fun r26 u27 => ?_)
    refine go_iload_n 2 rfl dX5_both_96 rfl ?_
    refine go_icmp_ne (tgt := 115) dX5_both_97 (by decide) ?_ ?_
    · refine go_iinc (v := (s.2.2.2.2.1 + (1 : Int32))) (lv' := [(7, .int (s.2.2.2.2.1 + (1 : Int32))), (8, .int x24), (0, .ref (ad 69)), (2, .int s.1), (4, .int s.2.1), (5, .ref (ad s.2.2.1)), (6, .ref (ad s.2.2.2.1))]) 6 rfl dX5_both_115 rfl (Nat.le_of_ble_eq_true rfl) rfl ?_
      refine go_goto (tgt := 69) dX5_both_118 (by decide) ?_
      exact go_sub [2, 3, 4, 5, 6, 0] rfl (hih69 (s.1, s.2.1, s.2.2.1, s.2.2.2.1, (s.2.2.2.2.1 + (1 : Int32)), u27))
    · refine go_aload 5 rfl dX5_both_100 ?_
      refine go_iload 0 rfl dX5_both_102 ?_
      refine go_ck (fun h28 => ?_)
      refine go_callVI (As := fun ad => [.int x24]) (g_X0_dateAt s.2.2.2.1 x24 u27) mv_X0_dateAt clX0 h28 gw126 rfl ⟨Nat.le_of_ble_eq_true rfl, Nat.le_of_ble_eq_true rfl⟩ rfl (Nat.le_of_ble_eq_true rfl) dX5_both_104 (fun r29 u30 => ?_)
      refine go_iload 3 rfl dX5_both_107 ?_
      refine go_icmp_ne (tgt := 115) dX5_both_109 (by decide) ?_ ?_
      · refine go_iinc (v := (s.2.2.2.2.1 + (1 : Int32))) (lv' := [(7, .int (s.2.2.2.2.1 + (1 : Int32))), (8, .int x24), (0, .ref (ad 69)), (2, .int s.1), (4, .int s.2.1), (5, .ref (ad s.2.2.1)), (6, .ref (ad s.2.2.2.1))]) 6 rfl dX5_both_115 rfl (Nat.le_of_ble_eq_true rfl) rfl ?_
        refine go_goto (tgt := 69) dX5_both_118 (by decide) ?_
        exact go_sub [2, 3, 4, 5, 6, 0] rfl (hih69 (s.1, s.2.1, s.2.2.1, s.2.2.2.1, (s.2.2.2.2.1 + (1 : Int32)), u30))
      · refine go_iload 0 rfl dX5_both_112 ?_
        exact go_iret rfl dX5_both_114
set_option maxHeartbeats 4000000 in
set_option maxRecDepth 100000 in
theorem g_X5_both (a1 : Int32) (a2 : Int32) (a3 : Int32) (a4 : Int32) (u : Uw) : ∀ l, Con l yX5_both mi_X5_both ivI (fun ad => [.ref (ad 69), .int a1, .int a2, .int a3, .int a4]) u (f_X5_both a1 a2 a3 a4 u) := by
  refine con_of (by decide) rfl (fun _ => Nat.le_of_ble_eq_true rfl) (fun X ad => ?_)
  show Go X ad mi_X5_both ivI 0 [(0, .ref (ad 69)), (1, .int a1), (2, .int a2), (3, .int a3), (4, .int a4)] [] u (f_X5_both a1 a2 a3 a4 u)
  unfold f_X5_both
  refine go_aload_n 0 rfl dX5_both_0 rfl ?_
  refine go_getR clX5 kt_69 0 (Nat.le_of_ble_eq_true rfl) (f := 0) (fun _ => rfl) gw113 dX5_both_1 ?_
  refine go_iload_n 1 rfl dX5_both_4 rfl ?_
  refine go_callVR (As := fun ad => [.int a1]) (g_X3_calendarAt 0 a1 u) mv_X3_calendarAt clX3 kt_0 gw118 rfl ⟨Nat.le_of_ble_eq_true rfl, Nat.le_of_ble_eq_true rfl⟩ rfl (Nat.le_of_ble_eq_true rfl) dX5_both_5 (fun r1 u2 => ?_)
  refine go_ro ?_ (fun e10 => ?_)
  · refine go_astoreN (lv' := [(5, .null), (0, .ref (ad 69)), (1, .int a1), (2, .int a2), (3, .int a3), (4, .int a4)]) dX5_both_8 (Nat.le_of_ble_eq_true rfl) rfl ?_
    refine go_aload_n 1 rfl dX5_both_10 rfl ?_
    refine go_getR clX5 kt_69 0 (Nat.le_of_ble_eq_true rfl) (f := 0) (fun _ => rfl) gw113 dX5_both_11 ?_
    refine go_iload_n 4 rfl dX5_both_14 rfl ?_
    refine go_callVR (As := fun ad => [.int a3]) (g_X3_calendarAt 0 a3 u2) mv_X3_calendarAt clX3 kt_0 gw118 rfl ⟨Nat.le_of_ble_eq_true rfl, Nat.le_of_ble_eq_true rfl⟩ rfl (Nat.le_of_ble_eq_true rfl) dX5_both_15 (fun r3 u4 => ?_)
    refine go_ro ?_ (fun e7 => ?_)
    · refine go_astoreN (lv' := [(6, .null), (5, .null), (0, .ref (ad 69)), (1, .int a1), (2, .int a2), (3, .int a3), (4, .int a4)]) dX5_both_18 (Nat.le_of_ble_eq_true rfl) rfl ?_
      refine go_aloadN 1 rfl dX5_both_20 ?_
      refine go_ifnullN (tgt := 35) dX5_both_22 (by decide) ?_
      refine go_aload_n 2 rfl dX5_both_35 rfl ?_
      refine go_ldc (v := (-1000000001 : Int32)) gw110 dX5_both_36 ?_
      refine go_callVI (As := fun ad => [.int (-1000000001 : Int32)]) (g_X5_found (-1000000001 : Int32) u4) mv_X5_found clX5 kt_69 gw117 rfl ⟨Nat.le_of_ble_eq_true rfl, Nat.le_of_ble_eq_true rfl⟩ rfl (Nat.le_of_ble_eq_true rfl) dX5_both_38 (fun r5 u6 => ?_)
      exact go_iret rfl dX5_both_41
    · refine go_astore (lv' := [(6, .ref (ad e7)), (5, .null), (0, .ref (ad 69)), (1, .int a1), (2, .int a2), (3, .int a3), (4, .int a4)]) dX5_both_18 (Nat.le_of_ble_eq_true rfl) rfl ?_
      refine go_aloadN 1 rfl dX5_both_20 ?_
      refine go_ifnullN (tgt := 35) dX5_both_22 (by decide) ?_
      refine go_aload_n 2 rfl dX5_both_35 rfl ?_
      refine go_ldc (v := (-1000000001 : Int32)) gw110 dX5_both_36 ?_
      refine go_callVI (As := fun ad => [.int (-1000000001 : Int32)]) (g_X5_found (-1000000001 : Int32) u4) mv_X5_found clX5 kt_69 gw117 rfl ⟨Nat.le_of_ble_eq_true rfl, Nat.le_of_ble_eq_true rfl⟩ rfl (Nat.le_of_ble_eq_true rfl) dX5_both_38 (fun r8 u9 => ?_)
      exact go_iret rfl dX5_both_41
  · refine go_astore (lv' := [(5, .ref (ad e10)), (0, .ref (ad 69)), (1, .int a1), (2, .int a2), (3, .int a3), (4, .int a4)]) dX5_both_8 (Nat.le_of_ble_eq_true rfl) rfl ?_
    refine go_aload_n 1 rfl dX5_both_10 rfl ?_
    refine go_getR clX5 kt_69 0 (Nat.le_of_ble_eq_true rfl) (f := 0) (fun _ => rfl) gw113 dX5_both_11 ?_
    refine go_iload_n 4 rfl dX5_both_14 rfl ?_
    refine go_callVR (As := fun ad => [.int a3]) (g_X3_calendarAt 0 a3 u2) mv_X3_calendarAt clX3 kt_0 gw118 rfl ⟨Nat.le_of_ble_eq_true rfl, Nat.le_of_ble_eq_true rfl⟩ rfl (Nat.le_of_ble_eq_true rfl) dX5_both_15 (fun r11 u12 => ?_)
    refine go_ro ?_ (fun e15 => ?_)
    · refine go_astoreN (lv' := [(6, .null), (5, .ref (ad e10)), (0, .ref (ad 69)), (1, .int a1), (2, .int a2), (3, .int a3), (4, .int a4)]) dX5_both_18 (Nat.le_of_ble_eq_true rfl) rfl ?_
      refine go_aload 1 rfl dX5_both_20 ?_
      refine go_ifnull dX5_both_22 ?_
      refine go_aloadN 0 rfl dX5_both_25 ?_
      refine go_ifnullN (tgt := 35) dX5_both_27 (by decide) ?_
      refine go_aload_n 2 rfl dX5_both_35 rfl ?_
      refine go_ldc (v := (-1000000001 : Int32)) gw110 dX5_both_36 ?_
      refine go_callVI (As := fun ad => [.int (-1000000001 : Int32)]) (g_X5_found (-1000000001 : Int32) u12) mv_X5_found clX5 kt_69 gw117 rfl ⟨Nat.le_of_ble_eq_true rfl, Nat.le_of_ble_eq_true rfl⟩ rfl (Nat.le_of_ble_eq_true rfl) dX5_both_38 (fun r13 u14 => ?_)
      exact go_iret rfl dX5_both_41
    · refine go_astore (lv' := [(6, .ref (ad e15)), (5, .ref (ad e10)), (0, .ref (ad 69)), (1, .int a1), (2, .int a2), (3, .int a3), (4, .int a4)]) dX5_both_18 (Nat.le_of_ble_eq_true rfl) rfl ?_
      refine go_aload 1 rfl dX5_both_20 ?_
      refine go_ifnull dX5_both_22 ?_
      refine go_aload 0 rfl dX5_both_25 ?_
      refine go_ifnull dX5_both_27 ?_
      refine go_iload_n 3 rfl dX5_both_30 rfl ?_
      refine go_iload_n 5 rfl dX5_both_31 rfl ?_
      refine go_icmp_ne (tgt := 42) dX5_both_32 (by decide) ?_ ?_
      · refine go_iconst (v := (2 : Int32)) dX5_both_42 (by decide) ?_
        refine go_iload_n 4 rfl dX5_both_43 rfl ?_
        refine go_callSZ (As := fun ad => [.int (2 : Int32), .int a2]) (g_X0_allows (2 : Int32) a2 u12) mo_X0_allows gw10 gw112 rfl ⟨Nat.le_of_ble_eq_true rfl, Nat.le_of_ble_eq_true rfl⟩ rfl (Nat.le_of_ble_eq_true rfl) dX5_both_44 (fun r16 u17 => ?_)
        refine go_ifz_eq (tgt := 59) dX5_both_47 (by decide) ?_ ?_
        · refine go_aload_n 2 rfl dX5_both_59 rfl ?_
          refine go_ldc (v := (-1000000001 : Int32)) gw110 dX5_both_60 ?_
          refine go_callVI (As := fun ad => [.int (-1000000001 : Int32)]) (g_X5_found (-1000000001 : Int32) u17) mv_X5_found clX5 kt_69 gw117 rfl ⟨Nat.le_of_ble_eq_true rfl, Nat.le_of_ble_eq_true rfl⟩ rfl (Nat.le_of_ble_eq_true rfl) dX5_both_62 (fun r18 u19 => ?_)
          exact go_iret rfl dX5_both_65
        · refine go_iconst (v := (2 : Int32)) dX5_both_50 (by decide) ?_
          refine go_iload 6 rfl dX5_both_51 ?_
          refine go_callSZ (As := fun ad => [.int (2 : Int32), .int a4]) (g_X0_allows (2 : Int32) a4 u17) mo_X0_allows gw10 gw112 rfl ⟨Nat.le_of_ble_eq_true rfl, Nat.le_of_ble_eq_true rfl⟩ rfl (Nat.le_of_ble_eq_true rfl) dX5_both_53 (fun r20 u21 => ?_)
          refine go_ifz_ne (tgt := 66) dX5_both_56 (by decide) ?_ ?_
          · refine go_iconst (v := (0 : Int32)) dX5_both_66 (by decide) ?_
            refine go_istore (lv' := [(7, .int (0 : Int32)), (6, .ref (ad e15)), (5, .ref (ad e10)), (0, .ref (ad 69)), (1, .int a1), (2, .int a2), (3, .int a3), (4, .int a4)]) dX5_both_67 (Nat.le_of_ble_eq_true rfl) rfl ?_
            exact go_sub [3, 5, 7, 2, 1, 0] rfl (gl_X5_both_69 X ad  2100 (a2, a4, e10, e15, (0 : Int32), u21))
          · refine go_aload_n 2 rfl dX5_both_59 rfl ?_
            refine go_ldc (v := (-1000000001 : Int32)) gw110 dX5_both_60 ?_
            refine go_callVI (As := fun ad => [.int (-1000000001 : Int32)]) (g_X5_found (-1000000001 : Int32) u21) mv_X5_found clX5 kt_69 gw117 rfl ⟨Nat.le_of_ble_eq_true rfl, Nat.le_of_ble_eq_true rfl⟩ rfl (Nat.le_of_ble_eq_true rfl) dX5_both_62 (fun r31 u32 => ?_)
            exact go_iret rfl dX5_both_65
      · refine go_aload_n 2 rfl dX5_both_35 rfl ?_
        refine go_ldc (v := (-1000000001 : Int32)) gw110 dX5_both_36 ?_
        refine go_callVI (As := fun ad => [.int (-1000000001 : Int32)]) (g_X5_found (-1000000001 : Int32) u12) mv_X5_found clX5 kt_69 gw117 rfl ⟨Nat.le_of_ble_eq_true rfl, Nat.le_of_ble_eq_true rfl⟩ rfl (Nat.le_of_ble_eq_true rfl) dX5_both_38 (fun r33 u34 => ?_)
        exact go_iret rfl dX5_both_41
def b_X5_trust_37 (ih37 : Nat × Int32 × Int32 × Int32 × Uw → Option (Int32 × Uw)) (s : Nat × Int32 × Int32 × Int32 × Uw) : Option (Int32 × Uw) :=
  if (s.2.2.2.2.1 0 0) ≤ s.2.2.2.1 then
  (bd (f_X5_daysToWell s.1 (-1 : Int32) s.2.2.2.2) fun r8 u9 =>
  if s.2.2.1 ≤ r8 then
  (if s.2.2.1 = (401 : Int32) then
  (bd (f_X5_found (-1000000004 : Int32) u9) fun r10 u11 =>
  some (r10, u11))
  else
  (some (s.2.1, u9)))
  else
  (some ((-1 : Int32), u9)))
  else
  (bd (f_X5_daysToWell s.1 s.2.2.2.1 s.2.2.2.2) fun r12 u13 =>
  if s.2.2.1 ≤ r12 then
  (ih37 (s.1, s.2.1, s.2.2.1, (s.2.2.2.1 + (1 : Int32)), u13))
  else
  (nm s.2.2.2.1 fun x14 =>
  ih37 (s.1, x14, r12, (s.2.2.2.1 + (1 : Int32)), u13)))
def f_X5_trust (a1 : Int32) (u : Uw) : Option (Int32 × Uw) :=
  bd (f_X3_pilgrimAt 0 a1 u) fun r1 u2 =>
  ro r1
  (bd (f_X5_found (-1000000001 : Int32) u2) fun r3 u4 =>
  some (r3, u4))
  (fun e5 =>
  bd (f_X5_lookAhead (400 : Int32) u2) fun r6 u7 =>
  lp b_X5_trust_37 2100 (e5, (-1 : Int32), (401 : Int32), (0 : Int32), u7))
set_option maxHeartbeats 4000000 in
set_option maxRecDepth 100000 in
theorem gl_X5_trust_37 (X : Cx) (ad : Nat → Nat) : ∀ (n : Nat) (s : Nat × Int32 × Int32 × Int32 × Uw), Go X ad mi_X5_trust ivI 37 [(0, .ref (ad 69)), (2, .ref (ad s.1)), (3, .int s.2.1), (4, .int s.2.2.1), (5, .int s.2.2.2.1)] [] s.2.2.2.2 (lp b_X5_trust_37 n s) := by
  refine go_lp (G := fun (s : Nat × Int32 × Int32 × Int32 × Uw) o => Go X ad mi_X5_trust ivI 37 [(0, .ref (ad 69)), (2, .ref (ad s.1)), (3, .int s.2.1), (4, .int s.2.2.1), (5, .int s.2.2.2.1)] [] s.2.2.2.2 o) (fun _ => go_none) (fun ih37 hih37 s => ?_)
  show Go X ad mi_X5_trust ivI 37 [(0, .ref (ad 69)), (2, .ref (ad s.1)), (3, .int s.2.1), (4, .int s.2.2.1), (5, .int s.2.2.2.1)] [] s.2.2.2.2 (b_X5_trust_37 ih37 s)
  unfold b_X5_trust_37
  refine go_iload 4 rfl dX5_trust_37 ?_
  refine go_aload_n 0 rfl dX5_trust_39 rfl ?_
  refine go_getR clX5 kt_69 0 (Nat.le_of_ble_eq_true rfl) (f := 0) (fun _ => rfl) gw113 dX5_trust_40 ?_
  refine go_getILN clX3 kt_0 5 (Nat.le_of_ble_eq_true rfl) (c := 0) (fun _ => rfl) kr_0 gn114 dX5_trust_43 ?_
  refine go_icmp_ge (tgt := 78) dX5_trust_46 (by decide) ?_ ?_
  · refine go_aload_n 0 rfl dX5_trust_78 rfl ?_
    refine go_aload_n 1 rfl dX5_trust_79 rfl ?_
    refine go_iconst (v := (-1 : Int32)) dX5_trust_80 (by decide) ?_
    refine go_callVI (As := fun ad => [.ref (ad s.1), .int (-1 : Int32)]) (g_X5_daysToWell s.1 (-1 : Int32) s.2.2.2.2) mv_X5_daysToWell clX5 kt_69 gw162 rfl ⟨Nat.le_of_ble_eq_true rfl, Nat.le_of_ble_eq_true rfl⟩ rfl (Nat.le_of_ble_eq_true rfl) dX5_trust_81 (fun r8 u9 => ?_)
    refine go_istore (lv' := [(5, .int r8), (0, .ref (ad 69)), (2, .ref (ad s.1)), (3, .int s.2.1), (4, .int s.2.2.1)]) dX5_trust_84 (Nat.le_of_ble_eq_true rfl) rfl ?_
    refine go_iload 0 rfl dX5_trust_86 ?_
    refine go_iload 4 rfl dX5_trust_88 ?_
    refine go_icmp_ge (tgt := 95) dX5_trust_90 (by decide) ?_ ?_
    · refine go_iload 4 rfl dX5_trust_95 ?_
      refine go_sipush (v := (401 : Int32)) dX5_trust_97 (by decide) ?_
      refine go_icmp_ne (tgt := 112) dX5_trust_100 (by decide) ?_ ?_
      · refine go_iload_n 3 rfl dX5_trust_112 rfl ?_
        exact go_iret rfl dX5_trust_113
      · refine go_aload_n 1 rfl dX5_trust_103 rfl ?_
        refine go_ldc (v := (-1000000004 : Int32)) gw163 dX5_trust_104 ?_
        refine go_callVI (As := fun ad => [.int (-1000000004 : Int32)]) (g_X5_found (-1000000004 : Int32) u9) mv_X5_found clX5 kt_69 gw117 rfl ⟨Nat.le_of_ble_eq_true rfl, Nat.le_of_ble_eq_true rfl⟩ rfl (Nat.le_of_ble_eq_true rfl) dX5_trust_106 (fun r10 u11 => ?_)
        refine go_goto (tgt := 113) dX5_trust_109 (by decide) ?_
        exact go_iret rfl dX5_trust_113
    · refine go_iconst (v := (-1 : Int32)) dX5_trust_93 (by decide) ?_
      exact go_iret rfl dX5_trust_94
  · refine go_aload_n 0 rfl dX5_trust_49 rfl ?_
    refine go_aload_n 1 rfl dX5_trust_50 rfl ?_
    refine go_iload 4 rfl dX5_trust_51 ?_
    refine go_callVI (As := fun ad => [.ref (ad s.1), .int s.2.2.2.1]) (g_X5_daysToWell s.1 s.2.2.2.1 s.2.2.2.2) mv_X5_daysToWell clX5 kt_69 gw162 rfl ⟨Nat.le_of_ble_eq_true rfl, Nat.le_of_ble_eq_true rfl⟩ rfl (Nat.le_of_ble_eq_true rfl) dX5_trust_53 (fun r12 u13 => ?_)
    refine go_istore (lv' := [(6, .int r12), (0, .ref (ad 69)), (2, .ref (ad s.1)), (3, .int s.2.1), (4, .int s.2.2.1), (5, .int s.2.2.2.1)]) dX5_trust_56 (Nat.le_of_ble_eq_true rfl) rfl ?_
    refine go_iload 0 rfl dX5_trust_58 ?_
    refine go_iload 4 rfl dX5_trust_60 ?_
    refine go_icmp_ge (tgt := 72) dX5_trust_62 (by decide) ?_ ?_
    · refine go_iinc (v := (s.2.2.2.1 + (1 : Int32))) (lv' := [(5, .int (s.2.2.2.1 + (1 : Int32))), (6, .int r12), (0, .ref (ad 69)), (2, .ref (ad s.1)), (3, .int s.2.1), (4, .int s.2.2.1)]) 5 rfl dX5_trust_72 rfl (Nat.le_of_ble_eq_true rfl) rfl ?_
      refine go_goto (tgt := 37) dX5_trust_75 (by decide) ?_
      exact go_sub [2, 3, 4, 5, 0] rfl (hih37 (s.1, s.2.1, s.2.2.1, (s.2.2.2.1 + (1 : Int32)), u13))
    · refine go_iload 0 rfl dX5_trust_65 ?_
      refine go_istore (lv' := [(4, .int r12), (6, .int r12), (0, .ref (ad 69)), (2, .ref (ad s.1)), (3, .int s.2.1), (5, .int s.2.2.2.1)]) dX5_trust_67 (Nat.le_of_ble_eq_true rfl) rfl ?_
      refine go_iload 5 rfl dX5_trust_69 ?_
      refine go_nm (fun x14 => ?_)
      refine go_istore_n (lv' := [(3, .int x14), (4, .int r12), (6, .int r12), (0, .ref (ad 69)), (2, .ref (ad s.1)), (5, .int s.2.2.2.1)]) dX5_trust_71 rfl (Nat.le_of_ble_eq_true rfl) rfl ?_
      refine go_iinc (v := (s.2.2.2.1 + (1 : Int32))) (lv' := [(5, .int (s.2.2.2.1 + (1 : Int32))), (3, .int x14), (4, .int r12), (6, .int r12), (0, .ref (ad 69)), (2, .ref (ad s.1))]) 5 rfl dX5_trust_72 rfl (Nat.le_of_ble_eq_true rfl) rfl ?_
      refine go_goto (tgt := 37) dX5_trust_75 (by decide) ?_
      exact go_sub [4, 5, 1, 2, 0] rfl (hih37 (s.1, x14, r12, (s.2.2.2.1 + (1 : Int32)), u13))
set_option maxHeartbeats 4000000 in
set_option maxRecDepth 100000 in
theorem g_X5_trust (a1 : Int32) (u : Uw) : ∀ l, Con l yX5_trust mi_X5_trust ivI (fun ad => [.ref (ad 69), .int a1]) u (f_X5_trust a1 u) := by
  refine con_of (by decide) rfl (fun _ => Nat.le_of_ble_eq_true rfl) (fun X ad => ?_)
  show Go X ad mi_X5_trust ivI 0 [(0, .ref (ad 69)), (1, .int a1)] [] u (f_X5_trust a1 u)
  unfold f_X5_trust
  refine go_aload_n 0 rfl dX5_trust_0 rfl ?_
  refine go_getR clX5 kt_69 0 (Nat.le_of_ble_eq_true rfl) (f := 0) (fun _ => rfl) gw113 dX5_trust_1 ?_
  refine go_iload_n 1 rfl dX5_trust_4 rfl ?_
  refine go_callVR (As := fun ad => [.int a1]) (g_X3_pilgrimAt 0 a1 u) mv_X3_pilgrimAt clX3 kt_0 gw135 rfl ⟨Nat.le_of_ble_eq_true rfl, Nat.le_of_ble_eq_true rfl⟩ rfl (Nat.le_of_ble_eq_true rfl) dX5_trust_5 (fun r1 u2 => ?_)
  refine go_ro ?_ (fun e5 => ?_)
  · refine go_astore_nN (lv' := [(2, .null), (0, .ref (ad 69)), (1, .int a1)]) dX5_trust_8 rfl (Nat.le_of_ble_eq_true rfl) rfl ?_
    refine go_aload_nN 0 rfl dX5_trust_9 rfl ?_
    refine go_ifnonnullN dX5_trust_10 ?_
    refine go_aload_n 1 rfl dX5_trust_13 rfl ?_
    refine go_ldc (v := (-1000000001 : Int32)) gw110 dX5_trust_14 ?_
    refine go_callVI (As := fun ad => [.int (-1000000001 : Int32)]) (g_X5_found (-1000000001 : Int32) u2) mv_X5_found clX5 kt_69 gw117 rfl ⟨Nat.le_of_ble_eq_true rfl, Nat.le_of_ble_eq_true rfl⟩ rfl (Nat.le_of_ble_eq_true rfl) dX5_trust_16 (fun r3 u4 => ?_)
    exact go_iret rfl dX5_trust_19
  · refine go_astore_n (lv' := [(2, .ref (ad e5)), (0, .ref (ad 69)), (1, .int a1)]) dX5_trust_8 rfl (Nat.le_of_ble_eq_true rfl) rfl ?_
    refine go_aload_n 0 rfl dX5_trust_9 rfl ?_
    refine go_ifnonnull (tgt := 20) dX5_trust_10 (by decide) ?_
    refine go_aload_n 1 rfl dX5_trust_20 rfl ?_
    refine go_sipush (v := (400 : Int32)) dX5_trust_21 (by decide) ?_
    refine go_callVV (As := fun ad => [.int (400 : Int32)]) (g_X5_lookAhead (400 : Int32) u2) mv_X5_lookAhead clX5 kt_69 gw160 rfl ⟨Nat.le_of_ble_eq_true rfl, Nat.le_of_ble_eq_true rfl⟩ rfl (Nat.le_of_ble_eq_true rfl) dX5_trust_24 (fun r6 u7 => ?_)
    refine go_iconst (v := (-1 : Int32)) dX5_trust_27 (by decide) ?_
    refine go_istore_n (lv' := [(3, .int (-1 : Int32)), (2, .ref (ad e5)), (0, .ref (ad 69)), (1, .int a1)]) dX5_trust_28 rfl (Nat.le_of_ble_eq_true rfl) rfl ?_
    refine go_sipush (v := (401 : Int32)) dX5_trust_29 (by decide) ?_
    refine go_istore (lv' := [(4, .int (401 : Int32)), (3, .int (-1 : Int32)), (2, .ref (ad e5)), (0, .ref (ad 69)), (1, .int a1)]) dX5_trust_32 (Nat.le_of_ble_eq_true rfl) rfl ?_
    refine go_iconst (v := (0 : Int32)) dX5_trust_34 (by decide) ?_
    refine go_istore (lv' := [(5, .int (0 : Int32)), (4, .int (401 : Int32)), (3, .int (-1 : Int32)), (2, .ref (ad e5)), (0, .ref (ad 69)), (1, .int a1)]) dX5_trust_35 (Nat.le_of_ble_eq_true rfl) rfl ?_
    exact go_sub [4, 3, 2, 1, 0] rfl (gl_X5_trust_37 X ad  2100 (e5, (-1 : Int32), (401 : Int32), (0 : Int32), u7))
def b_X5_illOfAllAhead_5 (ih5 : Int32 × Int32 × Int32 × Int32 × Uw → Option (Int32 × Uw)) (s : Int32 × Int32 × Int32 × Int32 × Uw) : Option (Int32 × Uw) :=
  if (s.2.2.2.2.1 0 1) ≤ s.2.2.2.1 then
  (some (s.2.2.1, s.2.2.2.2))
  else
  (bd (f_X3_pilgrimAt 0 s.2.2.2.1 s.2.2.2.2) fun r1 u2 =>
  ro r1
  (ih5 (s.1, s.2.1, s.2.2.1, (s.2.2.2.1 + (1 : Int32)), u2))
  (fun e3 =>
  bd (f_X5_tryDays e3 s.1 s.2.1 (u2.1 0 3) u2) fun r4 u5 =>
  nm (s.2.2.1 + (u5.1 5 0)) fun x6 =>
  ih5 (s.1, s.2.1, x6, (s.2.2.2.1 + (1 : Int32)), u5)))
def f_X5_illOfAllAhead (a1 : Int32) (a2 : Int32) (u : Uw) : Option (Int32 × Uw) :=
  lp b_X5_illOfAllAhead_5 2100 (a1, a2, (0 : Int32), (0 : Int32), u)
set_option maxHeartbeats 4000000 in
set_option maxRecDepth 100000 in
theorem gl_X5_illOfAllAhead_5 (X : Cx) (ad : Nat → Nat) : ∀ (n : Nat) (s : Int32 × Int32 × Int32 × Int32 × Uw), Go X ad mi_X5_illOfAllAhead ivI 5 [(0, .ref (ad 69)), (1, .int s.1), (2, .int s.2.1), (3, .int s.2.2.1), (4, .int s.2.2.2.1)] [] s.2.2.2.2 (lp b_X5_illOfAllAhead_5 n s) := by
  refine go_lp (G := fun (s : Int32 × Int32 × Int32 × Int32 × Uw) o => Go X ad mi_X5_illOfAllAhead ivI 5 [(0, .ref (ad 69)), (1, .int s.1), (2, .int s.2.1), (3, .int s.2.2.1), (4, .int s.2.2.2.1)] [] s.2.2.2.2 o) (fun _ => go_none) (fun ih5 hih5 s => ?_)
  show Go X ad mi_X5_illOfAllAhead ivI 5 [(0, .ref (ad 69)), (1, .int s.1), (2, .int s.2.1), (3, .int s.2.2.1), (4, .int s.2.2.2.1)] [] s.2.2.2.2 (b_X5_illOfAllAhead_5 ih5 s)
  unfold b_X5_illOfAllAhead_5
  refine go_iload 4 rfl dX5_illOfAllAhead_5 ?_
  refine go_aload_n 0 rfl dX5_illOfAllAhead_7 rfl ?_
  refine go_getR clX5 kt_69 0 (Nat.le_of_ble_eq_true rfl) (f := 0) (fun _ => rfl) gw113 dX5_illOfAllAhead_8 ?_
  refine go_getILN clX3 kt_0 6 (Nat.le_of_ble_eq_true rfl) (c := 1) (fun _ => rfl) kr_0 gn133 dX5_illOfAllAhead_11 ?_
  refine go_icmp_ge (tgt := 64) dX5_illOfAllAhead_14 (by decide) ?_ ?_
  · refine go_iload_n 3 rfl dX5_illOfAllAhead_64 rfl ?_
    exact go_iret rfl dX5_illOfAllAhead_65
  · refine go_aload_n 0 rfl dX5_illOfAllAhead_17 rfl ?_
    refine go_getR clX5 kt_69 0 (Nat.le_of_ble_eq_true rfl) (f := 0) (fun _ => rfl) gw113 dX5_illOfAllAhead_18 ?_
    refine go_iload 4 rfl dX5_illOfAllAhead_21 ?_
    refine go_callVR (As := fun ad => [.int s.2.2.2.1]) (g_X3_pilgrimAt 0 s.2.2.2.1 s.2.2.2.2) mv_X3_pilgrimAt clX3 kt_0 gw135 rfl ⟨Nat.le_of_ble_eq_true rfl, Nat.le_of_ble_eq_true rfl⟩ rfl (Nat.le_of_ble_eq_true rfl) dX5_illOfAllAhead_23 (fun r1 u2 => ?_)
    refine go_ro ?_ (fun e3 => ?_)
    · refine go_astoreN (lv' := [(5, .null), (0, .ref (ad 69)), (1, .int s.1), (2, .int s.2.1), (3, .int s.2.2.1), (4, .int s.2.2.2.1)]) dX5_illOfAllAhead_26 (Nat.le_of_ble_eq_true rfl) rfl ?_
      refine go_aloadN 0 rfl dX5_illOfAllAhead_28 ?_
      refine go_ifnullN (tgt := 58) dX5_illOfAllAhead_30 (by decide) ?_
      refine go_iinc (v := (s.2.2.2.1 + (1 : Int32))) (lv' := [(4, .int (s.2.2.2.1 + (1 : Int32))), (5, .null), (0, .ref (ad 69)), (1, .int s.1), (2, .int s.2.1), (3, .int s.2.2.1)]) 5 rfl dX5_illOfAllAhead_58 rfl (Nat.le_of_ble_eq_true rfl) rfl ?_
      refine go_goto (tgt := 5) dX5_illOfAllAhead_61 (by decide) ?_
      exact go_sub [2, 3, 4, 5, 0] rfl (hih5 (s.1, s.2.1, s.2.2.1, (s.2.2.2.1 + (1 : Int32)), u2))
    · refine go_astore (lv' := [(5, .ref (ad e3)), (0, .ref (ad 69)), (1, .int s.1), (2, .int s.2.1), (3, .int s.2.2.1), (4, .int s.2.2.2.1)]) dX5_illOfAllAhead_26 (Nat.le_of_ble_eq_true rfl) rfl ?_
      refine go_aload 0 rfl dX5_illOfAllAhead_28 ?_
      refine go_ifnull dX5_illOfAllAhead_30 ?_
      refine go_aload_n 1 rfl dX5_illOfAllAhead_33 rfl ?_
      refine go_aload 0 rfl dX5_illOfAllAhead_34 ?_
      refine go_iload_n 2 rfl dX5_illOfAllAhead_36 rfl ?_
      refine go_iload_n 3 rfl dX5_illOfAllAhead_37 rfl ?_
      refine go_aload_n 1 rfl dX5_illOfAllAhead_38 rfl ?_
      refine go_getR clX5 kt_69 0 (Nat.le_of_ble_eq_true rfl) (f := 0) (fun _ => rfl) gw113 dX5_illOfAllAhead_39 ?_
      refine go_getILN clX3 kt_0 1 (Nat.le_of_ble_eq_true rfl) (c := 3) (fun _ => rfl) kr_0 gn131 dX5_illOfAllAhead_42 ?_
      refine go_callVV (As := fun ad => [.ref (ad e3), .int s.1, .int s.2.1, .int (u2.1 0 3)]) (g_X5_tryDays e3 s.1 s.2.1 (u2.1 0 3) u2) mv_X5_tryDays clX5 kt_69 gw161 rfl ⟨Nat.le_of_ble_eq_true rfl, Nat.le_of_ble_eq_true rfl⟩ rfl (Nat.le_of_ble_eq_true rfl) dX5_illOfAllAhead_45 (fun r4 u5 => ?_)
      refine go_iload_n 4 rfl dX5_illOfAllAhead_48 rfl ?_
      refine go_aload_n 1 rfl dX5_illOfAllAhead_49 rfl ?_
      refine go_getR clX5 kt_69 7 (Nat.le_of_ble_eq_true rfl) (f := 83) (fun _ => rfl) gw157 dX5_illOfAllAhead_50 ?_
      refine go_getILN clX1 kt_83 0 (Nat.le_of_ble_eq_true rfl) (c := 0) (fun _ => rfl) kr_83 gn138 dX5_illOfAllAhead_53 ?_
      refine go_iadd dX5_illOfAllAhead_56 ?_
      refine go_nm (fun x6 => ?_)
      refine go_istore_n (lv' := [(3, .int x6), (5, .ref (ad e3)), (0, .ref (ad 69)), (1, .int s.1), (2, .int s.2.1), (4, .int s.2.2.2.1)]) dX5_illOfAllAhead_57 rfl (Nat.le_of_ble_eq_true rfl) rfl ?_
      refine go_iinc (v := (s.2.2.2.1 + (1 : Int32))) (lv' := [(4, .int (s.2.2.2.1 + (1 : Int32))), (3, .int x6), (5, .ref (ad e3)), (0, .ref (ad 69)), (1, .int s.1), (2, .int s.2.1)]) 5 rfl dX5_illOfAllAhead_58 rfl (Nat.le_of_ble_eq_true rfl) rfl ?_
      refine go_goto (tgt := 5) dX5_illOfAllAhead_61 (by decide) ?_
      exact go_sub [3, 4, 5, 1, 0] rfl (hih5 (s.1, s.2.1, x6, (s.2.2.2.1 + (1 : Int32)), u5))
set_option maxHeartbeats 4000000 in
set_option maxRecDepth 100000 in
theorem g_X5_illOfAllAhead (a1 : Int32) (a2 : Int32) (u : Uw) : ∀ l, Con l yX5_illOfAllAhead mi_X5_illOfAllAhead ivI (fun ad => [.ref (ad 69), .int a1, .int a2]) u (f_X5_illOfAllAhead a1 a2 u) := by
  refine con_of (by decide) rfl (fun _ => Nat.le_of_ble_eq_true rfl) (fun X ad => ?_)
  show Go X ad mi_X5_illOfAllAhead ivI 0 [(0, .ref (ad 69)), (1, .int a1), (2, .int a2)] [] u (f_X5_illOfAllAhead a1 a2 u)
  unfold f_X5_illOfAllAhead
  refine go_iconst (v := (0 : Int32)) dX5_illOfAllAhead_0 (by decide) ?_
  refine go_istore_n (lv' := [(3, .int (0 : Int32)), (0, .ref (ad 69)), (1, .int a1), (2, .int a2)]) dX5_illOfAllAhead_1 rfl (Nat.le_of_ble_eq_true rfl) rfl ?_
  refine go_iconst (v := (0 : Int32)) dX5_illOfAllAhead_2 (by decide) ?_
  refine go_istore (lv' := [(4, .int (0 : Int32)), (3, .int (0 : Int32)), (0, .ref (ad 69)), (1, .int a1), (2, .int a2)]) dX5_illOfAllAhead_3 (Nat.le_of_ble_eq_true rfl) rfl ?_
  exact go_sub [2, 3, 4, 1, 0] rfl (gl_X5_illOfAllAhead_5 X ad  2100 (a1, a2, (0 : Int32), (0 : Int32), u))
def b_X5_truth_51 (ih51 : Int32 × Int32 × Int32 × Int32 × Uw → Option (Int32 × Uw)) (s : Int32 × Int32 × Int32 × Int32 × Uw) : Option (Int32 × Uw) :=
  if (s.2.2.2.2.1 0 0) ≤ s.2.2.2.1 then
  (some (s.2.1, s.2.2.2.2))
  else
  (bd (f_X5_illOfAllAhead s.1 s.2.2.2.1 s.2.2.2.2) fun r7 u8 =>
  if s.2.2.1 ≤ r7 then
  (ih51 (s.1, s.2.1, s.2.2.1, (s.2.2.2.1 + (1 : Int32)), u8))
  else
  (nm s.2.2.2.1 fun x9 =>
  ih51 (s.1, x9, r7, (s.2.2.2.1 + (1 : Int32)), u8)))
def f_X5_truth (a1 : Int32) (u : Uw) : Option (Int32 × Uw) :=
  bd (f_X5_within a1 (1 : Int32) (100 : Int32) u) fun r1 u2 =>
  if r1 = true then
  (if (u2.1 0 0) = 0 then
  (bd (f_X5_found (-1000000004 : Int32) u2) fun r10 u11 =>
  some (r10, u11))
  else
  (bd (f_X5_lookAhead a1 u2) fun r3 u4 =>
  bd (f_X5_illOfAllAhead a1 (0 : Int32) u4) fun r5 u6 =>
  lp b_X5_truth_51 2100 (a1, (0 : Int32), r5, (1 : Int32), u6)))
  else
  (bd (f_X5_found (-1000000001 : Int32) u2) fun r12 u13 =>
  some (r12, u13))
set_option maxHeartbeats 4000000 in
set_option maxRecDepth 100000 in
theorem gl_X5_truth_51 (X : Cx) (ad : Nat → Nat) : ∀ (n : Nat) (s : Int32 × Int32 × Int32 × Int32 × Uw), Go X ad mi_X5_truth ivI 51 [(0, .ref (ad 69)), (1, .int s.1), (2, .int s.2.1), (3, .int s.2.2.1), (4, .int s.2.2.2.1)] [] s.2.2.2.2 (lp b_X5_truth_51 n s) := by
  refine go_lp (G := fun (s : Int32 × Int32 × Int32 × Int32 × Uw) o => Go X ad mi_X5_truth ivI 51 [(0, .ref (ad 69)), (1, .int s.1), (2, .int s.2.1), (3, .int s.2.2.1), (4, .int s.2.2.2.1)] [] s.2.2.2.2 o) (fun _ => go_none) (fun ih51 hih51 s => ?_)
  show Go X ad mi_X5_truth ivI 51 [(0, .ref (ad 69)), (1, .int s.1), (2, .int s.2.1), (3, .int s.2.2.1), (4, .int s.2.2.2.1)] [] s.2.2.2.2 (b_X5_truth_51 ih51 s)
  unfold b_X5_truth_51
  refine go_iload 4 rfl dX5_truth_51 ?_
  refine go_aload_n 0 rfl dX5_truth_53 rfl ?_
  refine go_getR clX5 kt_69 0 (Nat.le_of_ble_eq_true rfl) (f := 0) (fun _ => rfl) gw113 dX5_truth_54 ?_
  refine go_getILN clX3 kt_0 5 (Nat.le_of_ble_eq_true rfl) (c := 0) (fun _ => rfl) kr_0 gn114 dX5_truth_57 ?_
  refine go_icmp_ge (tgt := 90) dX5_truth_60 (by decide) ?_ ?_
  · refine go_iload_n 2 rfl dX5_truth_90 rfl ?_
    exact go_iret rfl dX5_truth_91
  · refine go_aload_n 0 rfl dX5_truth_63 rfl ?_
    refine go_iload_n 1 rfl dX5_truth_64 rfl ?_
    refine go_iload 4 rfl dX5_truth_65 ?_
    refine go_callVI (As := fun ad => [.int s.1, .int s.2.2.2.1]) (g_X5_illOfAllAhead s.1 s.2.2.2.1 s.2.2.2.2) mv_X5_illOfAllAhead clX5 kt_69 gw168 rfl ⟨Nat.le_of_ble_eq_true rfl, Nat.le_of_ble_eq_true rfl⟩ rfl (Nat.le_of_ble_eq_true rfl) dX5_truth_67 (fun r7 u8 => ?_)
    refine go_istore (lv' := [(5, .int r7), (0, .ref (ad 69)), (1, .int s.1), (2, .int s.2.1), (3, .int s.2.2.1), (4, .int s.2.2.2.1)]) dX5_truth_70 (Nat.le_of_ble_eq_true rfl) rfl ?_
    refine go_iload 0 rfl dX5_truth_72 ?_
    refine go_iload_n 4 rfl dX5_truth_74 rfl ?_
    refine go_icmp_ge (tgt := 84) dX5_truth_75 (by decide) ?_ ?_
    · refine go_iinc (v := (s.2.2.2.1 + (1 : Int32))) (lv' := [(4, .int (s.2.2.2.1 + (1 : Int32))), (5, .int r7), (0, .ref (ad 69)), (1, .int s.1), (2, .int s.2.1), (3, .int s.2.2.1)]) 5 rfl dX5_truth_84 rfl (Nat.le_of_ble_eq_true rfl) rfl ?_
      refine go_goto (tgt := 51) dX5_truth_87 (by decide) ?_
      exact go_sub [2, 3, 4, 5, 0] rfl (hih51 (s.1, s.2.1, s.2.2.1, (s.2.2.2.1 + (1 : Int32)), u8))
    · refine go_iload 0 rfl dX5_truth_78 ?_
      refine go_istore_n (lv' := [(3, .int r7), (5, .int r7), (0, .ref (ad 69)), (1, .int s.1), (2, .int s.2.1), (4, .int s.2.2.2.1)]) dX5_truth_80 rfl (Nat.le_of_ble_eq_true rfl) rfl ?_
      refine go_iload 5 rfl dX5_truth_81 ?_
      refine go_nm (fun x9 => ?_)
      refine go_istore_n (lv' := [(2, .int x9), (3, .int r7), (5, .int r7), (0, .ref (ad 69)), (1, .int s.1), (4, .int s.2.2.2.1)]) dX5_truth_83 rfl (Nat.le_of_ble_eq_true rfl) rfl ?_
      refine go_iinc (v := (s.2.2.2.1 + (1 : Int32))) (lv' := [(4, .int (s.2.2.2.1 + (1 : Int32))), (2, .int x9), (3, .int r7), (5, .int r7), (0, .ref (ad 69)), (1, .int s.1)]) 5 rfl dX5_truth_84 rfl (Nat.le_of_ble_eq_true rfl) rfl ?_
      refine go_goto (tgt := 51) dX5_truth_87 (by decide) ?_
      exact go_sub [4, 5, 1, 2, 0] rfl (hih51 (s.1, x9, r7, (s.2.2.2.1 + (1 : Int32)), u8))
set_option maxHeartbeats 4000000 in
set_option maxRecDepth 100000 in
theorem g_X5_truth (a1 : Int32) (u : Uw) : ∀ l, Con l yX5_truth mi_X5_truth ivI (fun ad => [.ref (ad 69), .int a1]) u (f_X5_truth a1 u) := by
  refine con_of (by decide) rfl (fun _ => Nat.le_of_ble_eq_true rfl) (fun X ad => ?_)
  show Go X ad mi_X5_truth ivI 0 [(0, .ref (ad 69)), (1, .int a1)] [] u (f_X5_truth a1 u)
  unfold f_X5_truth
  refine go_iload_n 1 rfl dX5_truth_0 rfl ?_
  refine go_iconst (v := (1 : Int32)) dX5_truth_1 (by decide) ?_
  refine go_bipush (v := (100 : Int32)) dX5_truth_2 (by decide) ?_
  refine go_callSZ (As := fun ad => [.int a1, .int (1 : Int32), .int (100 : Int32)]) (g_X5_within a1 (1 : Int32) (100 : Int32) u) mo_X5_within gw85 gw125 rfl ⟨Nat.le_of_ble_eq_true rfl, Nat.le_of_ble_eq_true rfl⟩ rfl (Nat.le_of_ble_eq_true rfl) dX5_truth_4 (fun r1 u2 => ?_)
  refine go_ifz_ne (tgt := 17) dX5_truth_7 (by decide) ?_ ?_
  · refine go_aload_n 0 rfl dX5_truth_17 rfl ?_
    refine go_getR clX5 kt_69 0 (Nat.le_of_ble_eq_true rfl) (f := 0) (fun _ => rfl) gw113 dX5_truth_18 ?_
    refine go_getILN clX3 kt_0 5 (Nat.le_of_ble_eq_true rfl) (c := 0) (fun _ => rfl) kr_0 gn114 dX5_truth_21 ?_
    refine go_if_ne (tgt := 34) dX5_truth_24 (by decide) ?_ ?_
    · refine go_aload_n 0 rfl dX5_truth_34 rfl ?_
      refine go_iload_n 1 rfl dX5_truth_35 rfl ?_
      refine go_callVV (As := fun ad => [.int a1]) (g_X5_lookAhead a1 u2) mv_X5_lookAhead clX5 kt_69 gw160 rfl ⟨Nat.le_of_ble_eq_true rfl, Nat.le_of_ble_eq_true rfl⟩ rfl (Nat.le_of_ble_eq_true rfl) dX5_truth_36 (fun r3 u4 => ?_)
      refine go_iconst (v := (0 : Int32)) dX5_truth_39 (by decide) ?_
      refine go_istore_n (lv' := [(2, .int (0 : Int32)), (0, .ref (ad 69)), (1, .int a1)]) dX5_truth_40 rfl (Nat.le_of_ble_eq_true rfl) rfl ?_
      refine go_aload_n 1 rfl dX5_truth_41 rfl ?_
      refine go_iload_n 2 rfl dX5_truth_42 rfl ?_
      refine go_iconst (v := (0 : Int32)) dX5_truth_43 (by decide) ?_
      refine go_callVI (As := fun ad => [.int a1, .int (0 : Int32)]) (g_X5_illOfAllAhead a1 (0 : Int32) u4) mv_X5_illOfAllAhead clX5 kt_69 gw168 rfl ⟨Nat.le_of_ble_eq_true rfl, Nat.le_of_ble_eq_true rfl⟩ rfl (Nat.le_of_ble_eq_true rfl) dX5_truth_44 (fun r5 u6 => ?_)
      refine go_istore_n (lv' := [(3, .int r5), (2, .int (0 : Int32)), (0, .ref (ad 69)), (1, .int a1)]) dX5_truth_47 rfl (Nat.le_of_ble_eq_true rfl) rfl ?_
      refine go_iconst (v := (1 : Int32)) dX5_truth_48 (by decide) ?_
      refine go_istore (lv' := [(4, .int (1 : Int32)), (3, .int r5), (2, .int (0 : Int32)), (0, .ref (ad 69)), (1, .int a1)]) dX5_truth_49 (Nat.le_of_ble_eq_true rfl) rfl ?_
      exact go_sub [3, 4, 2, 1, 0] rfl (gl_X5_truth_51 X ad  2100 (a1, (0 : Int32), r5, (1 : Int32), u6))
    · refine go_aload_n 0 rfl dX5_truth_27 rfl ?_
      refine go_ldc (v := (-1000000004 : Int32)) gw163 dX5_truth_28 ?_
      refine go_callVI (As := fun ad => [.int (-1000000004 : Int32)]) (g_X5_found (-1000000004 : Int32) u2) mv_X5_found clX5 kt_69 gw117 rfl ⟨Nat.le_of_ble_eq_true rfl, Nat.le_of_ble_eq_true rfl⟩ rfl (Nat.le_of_ble_eq_true rfl) dX5_truth_30 (fun r10 u11 => ?_)
      exact go_iret rfl dX5_truth_33
  · refine go_aload_n 0 rfl dX5_truth_10 rfl ?_
    refine go_ldc (v := (-1000000001 : Int32)) gw110 dX5_truth_11 ?_
    refine go_callVI (As := fun ad => [.int (-1000000001 : Int32)]) (g_X5_found (-1000000001 : Int32) u2) mv_X5_found clX5 kt_69 gw117 rfl ⟨Nat.le_of_ble_eq_true rfl, Nat.le_of_ble_eq_true rfl⟩ rfl (Nat.le_of_ble_eq_true rfl) dX5_truth_13 (fun r12 u13 => ?_)
    exact go_iret rfl dX5_truth_16
def b_X5_cure_44 (ih44 : Int32 × Uw → Option (Int32 × Uw)) (s : Int32 × Uw) : Option (Int32 × Uw) :=
  if (2000 : Int32) < s.1 then
  (bd (f_X5_found (-1000000004 : Int32) s.2) fun r9 u10 =>
  some (r9, u10))
  else
  (nm ((s.2.1 0 2) + s.1) fun x11 =>
  bd (f_X3_isHolyBy 0 (s.2.1 0 4) x11 s.2) fun r12 u13 =>
  if r12 = true then
  (bd (f_X1_takeBath 83 (1 : Int32) (u13.1 0 3) u13) fun r14 u15 =>
  if (u15.1 5 0) = 0 then
  (some (x11, u15))
  else
  (ih44 ((s.1 + (1 : Int32)), u15)))
  else
  (if (u13.1 5 0) = 0 then
  (some (x11, u13))
  else
  (ih44 ((s.1 + (1 : Int32)), u13))))
def f_X5_cure (a1 : Int32) (u : Uw) : Option (Int32 × Uw) :=
  bd (f_X3_pilgrimAt 0 a1 u) fun r1 u2 =>
  ro r1
  (bd (f_X5_found (-1000000001 : Int32) u2) fun r3 u4 =>
  some (r3, u4))
  (fun e5 =>
  ck (kT e5 == 1) <|
  if (u2.1 (kR e5) (kO e5 + 0)) = 0 then
  (bd (f_X5_found (-1000000005 : Int32) u2) fun r16 u17 =>
  some (r16, u17))
  else
  (bd (f_X1_become 83 e5 u2) fun r7 u8 =>
  lp b_X5_cure_44 2100 ((0 : Int32), u8)))
set_option maxHeartbeats 4000000 in
set_option maxRecDepth 100000 in
theorem gl_X5_cure_44 (X : Cx) (ad : Nat → Nat) : ∀ (n : Nat) (s : Int32 × Uw), Go X ad mi_X5_cure ivI 44 [(0, .ref (ad 69)), (3, .int s.1)] [] s.2 (lp b_X5_cure_44 n s) := by
  refine go_lp (G := fun (s : Int32 × Uw) o => Go X ad mi_X5_cure ivI 44 [(0, .ref (ad 69)), (3, .int s.1)] [] s.2 o) (fun _ => go_none) (fun ih44 hih44 s => ?_)
  show Go X ad mi_X5_cure ivI 44 [(0, .ref (ad 69)), (3, .int s.1)] [] s.2 (b_X5_cure_44 ih44 s)
  unfold b_X5_cure_44
  refine go_iload_n 1 rfl dX5_cure_44 rfl ?_
  refine go_sipush (v := (2000 : Int32)) dX5_cure_45 (by decide) ?_
  refine go_icmp_gt (tgt := 115) dX5_cure_48 (by decide) ?_ ?_
  · refine go_aload_n 0 rfl dX5_cure_115 rfl ?_
    refine go_ldc (v := (-1000000004 : Int32)) gw163 dX5_cure_116 ?_
    refine go_callVI (As := fun ad => [.int (-1000000004 : Int32)]) (g_X5_found (-1000000004 : Int32) s.2) mv_X5_found clX5 kt_69 gw117 rfl ⟨Nat.le_of_ble_eq_true rfl, Nat.le_of_ble_eq_true rfl⟩ rfl (Nat.le_of_ble_eq_true rfl) dX5_cure_118 (fun r9 u10 => ?_)
    exact go_iret rfl dX5_cure_121
  · refine go_aload_n 0 rfl dX5_cure_51 rfl ?_
    refine go_getR clX5 kt_69 0 (Nat.le_of_ble_eq_true rfl) (f := 0) (fun _ => rfl) gw113 dX5_cure_52 ?_
    refine go_getILN clX3 kt_0 0 (Nat.le_of_ble_eq_true rfl) (c := 2) (fun _ => rfl) kr_0 gn142 dX5_cure_55 ?_
    refine go_iload_n 1 rfl dX5_cure_58 rfl ?_
    refine go_iadd dX5_cure_59 ?_
    refine go_nm (fun x11 => ?_)
    refine go_istore (lv' := [(4, .int x11), (0, .ref (ad 69)), (3, .int s.1)]) dX5_cure_60 (Nat.le_of_ble_eq_true rfl) rfl ?_
    refine go_aload_n 1 rfl dX5_cure_62 rfl ?_
    refine go_getR clX5 kt_69 0 (Nat.le_of_ble_eq_true rfl) (f := 0) (fun _ => rfl) gw113 dX5_cure_63 ?_
    refine go_aload_n 1 rfl dX5_cure_66 rfl ?_
    refine go_getR clX5 kt_69 0 (Nat.le_of_ble_eq_true rfl) (f := 0) (fun _ => rfl) gw113 dX5_cure_67 ?_
    refine go_getILN clX3 kt_0 2 (Nat.le_of_ble_eq_true rfl) (c := 4) (fun _ => rfl) kr_0 gn130 dX5_cure_70 ?_
    refine go_iload 0 rfl dX5_cure_73 ?_
    refine go_callVZ (As := fun ad => [.int (s.2.1 0 4), .int x11]) (g_X3_isHolyBy 0 (s.2.1 0 4) x11 s.2) mv_X3_isHolyBy clX3 kt_0 gw143 rfl ⟨Nat.le_of_ble_eq_true rfl, Nat.le_of_ble_eq_true rfl⟩ rfl (Nat.le_of_ble_eq_true rfl) dX5_cure_75 (fun r12 u13 => ?_)
    refine go_ifz_eq (tgt := 96) dX5_cure_78 (by decide) ?_ ?_
    · refine go_aload_n 1 rfl dX5_cure_96 rfl ?_
      refine go_getR clX5 kt_69 7 (Nat.le_of_ble_eq_true rfl) (f := 83) (fun _ => rfl) gw157 dX5_cure_97 ?_
      refine go_getILN clX1 kt_83 0 (Nat.le_of_ble_eq_true rfl) (c := 0) (fun _ => rfl) kr_83 gn138 dX5_cure_100 ?_
      refine go_if_ne (tgt := 109) dX5_cure_103 (by decide) ?_ ?_
      · refine go_iinc (v := (s.1 + (1 : Int32))) (lv' := [(3, .int (s.1 + (1 : Int32))), (4, .int x11), (0, .ref (ad 69))]) 2 rfl dX5_cure_109 rfl (Nat.le_of_ble_eq_true rfl) rfl ?_
        refine go_goto (tgt := 44) dX5_cure_112 (by decide) ?_
        exact go_sub [2, 0] rfl (hih44 ((s.1 + (1 : Int32)), u13))
      · refine go_iload 0 rfl dX5_cure_106 ?_
        exact go_iret rfl dX5_cure_108
    · refine go_aload_n 1 rfl dX5_cure_81 rfl ?_
      refine go_getR clX5 kt_69 7 (Nat.le_of_ble_eq_true rfl) (f := 83) (fun _ => rfl) gw157 dX5_cure_82 ?_
      refine go_iconst (v := (1 : Int32)) dX5_cure_85 (by decide) ?_
      refine go_aload_n 1 rfl dX5_cure_86 rfl ?_
      refine go_getR clX5 kt_69 0 (Nat.le_of_ble_eq_true rfl) (f := 0) (fun _ => rfl) gw113 dX5_cure_87 ?_
      refine go_getILN clX3 kt_0 1 (Nat.le_of_ble_eq_true rfl) (c := 3) (fun _ => rfl) kr_0 gn131 dX5_cure_90 ?_
      refine go_callVV (As := fun ad => [.int (1 : Int32), .int (u13.1 0 3)]) (g_X1_takeBath 83 (1 : Int32) (u13.1 0 3) u13) mv_X1_takeBath clX1 kt_83 gw144 rfl ⟨Nat.le_of_ble_eq_true rfl, Nat.le_of_ble_eq_true rfl⟩ rfl (Nat.le_of_ble_eq_true rfl) dX5_cure_93 (fun r14 u15 => ?_)
      refine go_aload_n 1 rfl dX5_cure_96 rfl ?_
      refine go_getR clX5 kt_69 7 (Nat.le_of_ble_eq_true rfl) (f := 83) (fun _ => rfl) gw157 dX5_cure_97 ?_
      refine go_getILN clX1 kt_83 0 (Nat.le_of_ble_eq_true rfl) (c := 0) (fun _ => rfl) kr_83 gn138 dX5_cure_100 ?_
      refine go_if_ne (tgt := 109) dX5_cure_103 (by decide) ?_ ?_
      · refine go_iinc (v := (s.1 + (1 : Int32))) (lv' := [(3, .int (s.1 + (1 : Int32))), (4, .int x11), (0, .ref (ad 69))]) 2 rfl dX5_cure_109 rfl (Nat.le_of_ble_eq_true rfl) rfl ?_
        refine go_goto (tgt := 44) dX5_cure_112 (by decide) ?_
        exact go_sub [2, 0] rfl (hih44 ((s.1 + (1 : Int32)), u15))
      · refine go_iload 0 rfl dX5_cure_106 ?_
        exact go_iret rfl dX5_cure_108
set_option maxHeartbeats 4000000 in
set_option maxRecDepth 100000 in
theorem g_X5_cure (a1 : Int32) (u : Uw) : ∀ l, Con l yX5_cure mi_X5_cure ivI (fun ad => [.ref (ad 69), .int a1]) u (f_X5_cure a1 u) := by
  refine con_of (by decide) rfl (fun _ => Nat.le_of_ble_eq_true rfl) (fun X ad => ?_)
  show Go X ad mi_X5_cure ivI 0 [(0, .ref (ad 69)), (1, .int a1)] [] u (f_X5_cure a1 u)
  unfold f_X5_cure
  refine go_aload_n 0 rfl dX5_cure_0 rfl ?_
  refine go_getR clX5 kt_69 0 (Nat.le_of_ble_eq_true rfl) (f := 0) (fun _ => rfl) gw113 dX5_cure_1 ?_
  refine go_iload_n 1 rfl dX5_cure_4 rfl ?_
  refine go_callVR (As := fun ad => [.int a1]) (g_X3_pilgrimAt 0 a1 u) mv_X3_pilgrimAt clX3 kt_0 gw135 rfl ⟨Nat.le_of_ble_eq_true rfl, Nat.le_of_ble_eq_true rfl⟩ rfl (Nat.le_of_ble_eq_true rfl) dX5_cure_5 (fun r1 u2 => ?_)
  refine go_ro ?_ (fun e5 => ?_)
  · refine go_astore_nN (lv' := [(2, .null), (0, .ref (ad 69)), (1, .int a1)]) dX5_cure_8 rfl (Nat.le_of_ble_eq_true rfl) rfl ?_
    refine go_aload_nN 0 rfl dX5_cure_9 rfl ?_
    refine go_ifnonnullN dX5_cure_10 ?_
    refine go_aload_n 1 rfl dX5_cure_13 rfl ?_
    refine go_ldc (v := (-1000000001 : Int32)) gw110 dX5_cure_14 ?_
    refine go_callVI (As := fun ad => [.int (-1000000001 : Int32)]) (g_X5_found (-1000000001 : Int32) u2) mv_X5_found clX5 kt_69 gw117 rfl ⟨Nat.le_of_ble_eq_true rfl, Nat.le_of_ble_eq_true rfl⟩ rfl (Nat.le_of_ble_eq_true rfl) dX5_cure_16 (fun r3 u4 => ?_)
    exact go_iret rfl dX5_cure_19
  · refine go_astore_n (lv' := [(2, .ref (ad e5)), (0, .ref (ad 69)), (1, .int a1)]) dX5_cure_8 rfl (Nat.le_of_ble_eq_true rfl) rfl ?_
    refine go_aload_n 0 rfl dX5_cure_9 rfl ?_
    refine go_ifnonnull (tgt := 20) dX5_cure_10 (by decide) ?_
    refine go_aload_n 0 rfl dX5_cure_20 rfl ?_
    refine go_ck (fun h6 => ?_)
    refine go_getIN clX1 h6 0 (Nat.le_of_ble_eq_true rfl) (c := 0) (fun _ => rfl) gn138 dX5_cure_21 ?_
    refine go_if_ne (tgt := 34) dX5_cure_24 (by decide) ?_ ?_
    · refine go_aload_n 1 rfl dX5_cure_34 rfl ?_
      refine go_getR clX5 kt_69 7 (Nat.le_of_ble_eq_true rfl) (f := 83) (fun _ => rfl) gw157 dX5_cure_35 ?_
      refine go_aload_n 0 rfl dX5_cure_38 rfl ?_
      refine go_callVV (As := fun ad => [.ref (ad e5)]) (g_X1_become 83 e5 u2) mv_X1_become clX1 kt_83 gw158 rfl ⟨Nat.le_of_ble_eq_true rfl, Nat.le_of_ble_eq_true rfl⟩ rfl (Nat.le_of_ble_eq_true rfl) dX5_cure_39 (fun r7 u8 => ?_)
      refine go_iconst (v := (0 : Int32)) dX5_cure_42 (by decide) ?_
      refine go_istore_n (lv' := [(3, .int (0 : Int32)), (2, .ref (ad e5)), (0, .ref (ad 69)), (1, .int a1)]) dX5_cure_43 rfl (Nat.le_of_ble_eq_true rfl) rfl ?_
      exact go_sub [2, 0] rfl (gl_X5_cure_44 X ad  2100 ((0 : Int32), u8))
    · refine go_aload_n 1 rfl dX5_cure_27 rfl ?_
      refine go_ldc (v := (-1000000005 : Int32)) gw141 dX5_cure_28 ?_
      refine go_callVI (As := fun ad => [.int (-1000000005 : Int32)]) (g_X5_found (-1000000005 : Int32) u2) mv_X5_found clX5 kt_69 gw117 rfl ⟨Nat.le_of_ble_eq_true rfl, Nat.le_of_ble_eq_true rfl⟩ rfl (Nat.le_of_ble_eq_true rfl) dX5_cure_30 (fun r16 u17 => ?_)
      exact go_iret rfl dX5_cure_33
def b_X5_agreementsOfTried_4 (ih4 : Int32 × Int32 × Int32 × Uw → Option (Int32 × Uw)) (s : Int32 × Int32 × Int32 × Uw) : Option (Int32 × Uw) :=
  if s.1 ≤ s.2.2.1 then
  (some (s.2.1, s.2.2.2))
  else
  (if (400 : Int32) ≤ s.2.2.1 then
  (some (s.2.1, s.2.2.2))
  else
  (bd (f_X0_isHoly 84 ((s.2.2.2.1 0 2) + s.2.2.1) s.2.2.2) fun r1 u2 =>
  ck (inb s.2.2.1 400) <|
  nm (u2.1 4 s.2.2.1.toNatClampNeg) fun x4 =>
  bd (f_X5_isIn x4 (u2.1 0 4) u2) fun r5 u6 =>
  if (bI r1) = (bI r5) then
  (ih4 (s.1, (s.2.1 + (1 : Int32)), (s.2.2.1 + (1 : Int32)), u6))
  else
  (ih4 (s.1, s.2.1, (s.2.2.1 + (1 : Int32)), u6))))
def f_X5_agreementsOfTried (a1 : Int32) (u : Uw) : Option (Int32 × Uw) :=
  lp b_X5_agreementsOfTried_4 2100 (a1, (0 : Int32), (0 : Int32), u)
set_option maxHeartbeats 4000000 in
set_option maxRecDepth 100000 in
theorem gl_X5_agreementsOfTried_4 (X : Cx) (ad : Nat → Nat) : ∀ (n : Nat) (s : Int32 × Int32 × Int32 × Uw), Go X ad mi_X5_agreementsOfTried ivI 4 [(0, .ref (ad 69)), (1, .int s.1), (2, .int s.2.1), (3, .int s.2.2.1)] [] s.2.2.2 (lp b_X5_agreementsOfTried_4 n s) := by
  refine go_lp (G := fun (s : Int32 × Int32 × Int32 × Uw) o => Go X ad mi_X5_agreementsOfTried ivI 4 [(0, .ref (ad 69)), (1, .int s.1), (2, .int s.2.1), (3, .int s.2.2.1)] [] s.2.2.2 o) (fun _ => go_none) (fun ih4 hih4 s => ?_)
  show Go X ad mi_X5_agreementsOfTried ivI 4 [(0, .ref (ad 69)), (1, .int s.1), (2, .int s.2.1), (3, .int s.2.2.1)] [] s.2.2.2 (b_X5_agreementsOfTried_4 ih4 s)
  unfold b_X5_agreementsOfTried_4
  refine go_iload_n 3 rfl dX5_agreementsOfTried_4 rfl ?_
  refine go_iload_n 1 rfl dX5_agreementsOfTried_5 rfl ?_
  refine go_icmp_ge (tgt := 62) dX5_agreementsOfTried_6 (by decide) ?_ ?_
  · refine go_iload_n 2 rfl dX5_agreementsOfTried_62 rfl ?_
    exact go_iret rfl dX5_agreementsOfTried_63
  · refine go_iload_n 3 rfl dX5_agreementsOfTried_9 rfl ?_
    refine go_aload_n 0 rfl dX5_agreementsOfTried_10 rfl ?_
    refine go_getR clX5 kt_69 6 (Nat.le_of_ble_eq_true rfl) (f := 82) (fun _ => rfl) gw155 dX5_agreementsOfTried_11 ?_
    refine go_alen10 (v := (400 : Int32)) kt_82 (by rw [kl_82]; decide) dX5_agreementsOfTried_14 ?_
    refine go_icmp_ge (tgt := 62) dX5_agreementsOfTried_15 (by decide) ?_ ?_
    · refine go_iload_n 2 rfl dX5_agreementsOfTried_62 rfl ?_
      exact go_iret rfl dX5_agreementsOfTried_63
    · refine go_aload_n 0 rfl dX5_agreementsOfTried_18 rfl ?_
      refine go_getR clX5 kt_69 8 (Nat.le_of_ble_eq_true rfl) (f := 84) (fun _ => rfl) gw169 dX5_agreementsOfTried_19 ?_
      refine go_aload_n 0 rfl dX5_agreementsOfTried_22 rfl ?_
      refine go_getR clX5 kt_69 0 (Nat.le_of_ble_eq_true rfl) (f := 0) (fun _ => rfl) gw113 dX5_agreementsOfTried_23 ?_
      refine go_getILN clX3 kt_0 0 (Nat.le_of_ble_eq_true rfl) (c := 2) (fun _ => rfl) kr_0 gn142 dX5_agreementsOfTried_26 ?_
      refine go_iload_n 3 rfl dX5_agreementsOfTried_29 rfl ?_
      refine go_iadd dX5_agreementsOfTried_30 ?_
      refine go_callVZ (As := fun ad => [.int ((s.2.2.2.1 0 2) + s.2.2.1)]) (g_X0_isHoly 84 ((s.2.2.2.1 0 2) + s.2.2.1) s.2.2.2) mv_X0_isHoly clX0 kt_84 gw128 rfl ⟨Nat.le_of_ble_eq_true rfl, Nat.le_of_ble_eq_true rfl⟩ rfl (Nat.le_of_ble_eq_true rfl) dX5_agreementsOfTried_31 (fun r1 u2 => ?_)
      refine go_aload_n 0 rfl dX5_agreementsOfTried_34 rfl ?_
      refine go_getR clX5 kt_69 6 (Nat.le_of_ble_eq_true rfl) (f := 82) (fun _ => rfl) gw155 dX5_agreementsOfTried_35 ?_
      refine go_iload_n 3 rfl dX5_agreementsOfTried_38 rfl ?_
      refine go_ck (fun h3 => ?_)
      refine go_ialdL kt_82 kr_82 kl_82 h3 dX5_agreementsOfTried_39 ?_
      refine go_nm (fun x4 => ?_)
      refine go_aload_n 0 rfl dX5_agreementsOfTried_40 rfl ?_
      refine go_getR clX5 kt_69 0 (Nat.le_of_ble_eq_true rfl) (f := 0) (fun _ => rfl) gw113 dX5_agreementsOfTried_41 ?_
      refine go_getILN clX3 kt_0 2 (Nat.le_of_ble_eq_true rfl) (c := 4) (fun _ => rfl) kr_0 gn130 dX5_agreementsOfTried_44 ?_
      refine go_callSZ (As := fun ad => [.int x4, .int (u2.1 0 4)]) (g_X5_isIn x4 (u2.1 0 4) u2) mo_X5_isIn gw28 gw164 rfl ⟨Nat.le_of_ble_eq_true rfl, Nat.le_of_ble_eq_true rfl⟩ rfl (Nat.le_of_ble_eq_true rfl) dX5_agreementsOfTried_47 (fun r5 u6 => ?_)
      refine go_icmp_ne (tgt := 56) dX5_agreementsOfTried_50 (by decide) ?_ ?_
      · refine go_iinc (v := (s.2.2.1 + (1 : Int32))) (lv' := [(3, .int (s.2.2.1 + (1 : Int32))), (0, .ref (ad 69)), (1, .int s.1), (2, .int s.2.1)]) 3 rfl dX5_agreementsOfTried_56 rfl (Nat.le_of_ble_eq_true rfl) rfl ?_
        refine go_goto (tgt := 4) dX5_agreementsOfTried_59 (by decide) ?_
        exact go_sub [1, 2, 3, 0] rfl (hih4 (s.1, s.2.1, (s.2.2.1 + (1 : Int32)), u6))
      · refine go_iinc (v := (s.2.1 + (1 : Int32))) (lv' := [(2, .int (s.2.1 + (1 : Int32))), (0, .ref (ad 69)), (1, .int s.1), (3, .int s.2.2.1)]) 2 rfl dX5_agreementsOfTried_53 rfl (Nat.le_of_ble_eq_true rfl) rfl ?_
        refine go_iinc (v := (s.2.2.1 + (1 : Int32))) (lv' := [(3, .int (s.2.2.1 + (1 : Int32))), (2, .int (s.2.1 + (1 : Int32))), (0, .ref (ad 69)), (1, .int s.1)]) 3 rfl dX5_agreementsOfTried_56 rfl (Nat.le_of_ble_eq_true rfl) rfl ?_
        refine go_goto (tgt := 4) dX5_agreementsOfTried_59 (by decide) ?_
        exact go_sub [2, 3, 1, 0] rfl (hih4 (s.1, (s.2.1 + (1 : Int32)), (s.2.2.1 + (1 : Int32)), u6))
set_option maxHeartbeats 4000000 in
set_option maxRecDepth 100000 in
theorem g_X5_agreementsOfTried (a1 : Int32) (u : Uw) : ∀ l, Con l yX5_agreementsOfTried mi_X5_agreementsOfTried ivI (fun ad => [.ref (ad 69), .int a1]) u (f_X5_agreementsOfTried a1 u) := by
  refine con_of (by decide) rfl (fun _ => Nat.le_of_ble_eq_true rfl) (fun X ad => ?_)
  show Go X ad mi_X5_agreementsOfTried ivI 0 [(0, .ref (ad 69)), (1, .int a1)] [] u (f_X5_agreementsOfTried a1 u)
  unfold f_X5_agreementsOfTried
  refine go_iconst (v := (0 : Int32)) dX5_agreementsOfTried_0 (by decide) ?_
  refine go_istore_n (lv' := [(2, .int (0 : Int32)), (0, .ref (ad 69)), (1, .int a1)]) dX5_agreementsOfTried_1 rfl (Nat.le_of_ble_eq_true rfl) rfl ?_
  refine go_iconst (v := (0 : Int32)) dX5_agreementsOfTried_2 (by decide) ?_
  refine go_istore_n (lv' := [(3, .int (0 : Int32)), (2, .int (0 : Int32)), (0, .ref (ad 69)), (1, .int a1)]) dX5_agreementsOfTried_3 rfl (Nat.le_of_ble_eq_true rfl) rfl ?_
  exact go_sub [2, 3, 1, 0] rfl (gl_X5_agreementsOfTried_4 X ad  2100 (a1, (0 : Int32), (0 : Int32), u))
def b_X5_bestValue_103 (ih103 : Int32 × Int32 × Int32 × Int32 × Int32 × Int32 × Uw → Option (Int32 × Uw)) (s : Int32 × Int32 × Int32 × Int32 × Int32 × Int32 × Uw) : Option (Int32 × Uw) :=
  if s.2.2.2.2.1 < s.2.2.2.2.2.1 then
  (some (s.2.2.1, s.2.2.2.2.2.2))
  else
  (bd (f_X0_change 84 s.1 s.2.2.2.2.2.1 s.2.2.2.2.2.2) fun r21 u22 =>
  bd (f_X5_agreementsOfTried s.2.1 u22) fun r23 u24 =>
  if r23 ≤ s.2.2.2.1 then
  (ih103 (s.1, s.2.1, s.2.2.1, s.2.2.2.1, s.2.2.2.2.1, (s.2.2.2.2.2.1 + (1 : Int32)), u24))
  else
  (nm s.2.2.2.2.2.1 fun x25 =>
  ih103 (s.1, s.2.1, x25, r23, s.2.2.2.2.1, (s.2.2.2.2.2.1 + (1 : Int32)), u24)))
def f_X5_bestValue (a1 : Int32) (a2 : Int32) (a3 : Int32) (a4 : Int32) (u : Uw) : Option (Int32 × Uw) :=
  bd (f_X3_calendarAt 0 a1 u) fun r1 u2 =>
  ro r1
  (bd (f_X5_found (-1000000001 : Int32) u2) fun r3 u4 =>
  some (r3, u4))
  (fun e5 =>
  bd (f_X5_within a3 (1 : Int32) a4 u2) fun r6 u7 =>
  if r6 = true then
  (bd (f_X3_calendarAt 0 (u7.1 0 4) u7) fun r8 u9 =>
  ro r8
  (bd (f_X5_found (-1000000005 : Int32) u9) fun r10 u11 =>
  some (r10, u11))
  (fun e12 =>
  bd (f_X0_least a2 u9) fun r13 u14 =>
  if a1 = (u14.1 0 4) then
  (some (r13, u14))
  else
  (bd (f_X5_lookAhead a3 u14) fun r15 u16 =>
  bd (f_X0_become 84 e5 u16) fun r17 u18 =>
  bd (f_X0_greatest a2 u18) fun r19 u20 =>
  lp b_X5_bestValue_103 2100 (a2, a3, r13, (-1 : Int32), r19, r13, u20))))
  else
  (bd (f_X5_found (-1000000001 : Int32) u7) fun r26 u27 =>
  some (r26, u27)))
set_option maxHeartbeats 4000000 in
set_option maxRecDepth 100000 in
theorem gl_X5_bestValue_103 (X : Cx) (ad : Nat → Nat) : ∀ (n : Nat) (s : Int32 × Int32 × Int32 × Int32 × Int32 × Int32 × Uw), Go X ad mi_X5_bestValue ivI 103 [(0, .ref (ad 69)), (2, .int s.1), (3, .int s.2.1), (6, .int s.2.2.1), (7, .int s.2.2.2.1), (8, .int s.2.2.2.2.1), (9, .int s.2.2.2.2.2.1)] [] s.2.2.2.2.2.2 (lp b_X5_bestValue_103 n s) := by
  refine go_lp (G := fun (s : Int32 × Int32 × Int32 × Int32 × Int32 × Int32 × Uw) o => Go X ad mi_X5_bestValue ivI 103 [(0, .ref (ad 69)), (2, .int s.1), (3, .int s.2.1), (6, .int s.2.2.1), (7, .int s.2.2.2.1), (8, .int s.2.2.2.2.1), (9, .int s.2.2.2.2.2.1)] [] s.2.2.2.2.2.2 o) (fun _ => go_none) (fun ih103 hih103 s => ?_)
  show Go X ad mi_X5_bestValue ivI 103 [(0, .ref (ad 69)), (2, .int s.1), (3, .int s.2.1), (6, .int s.2.2.1), (7, .int s.2.2.2.1), (8, .int s.2.2.2.2.1), (9, .int s.2.2.2.2.2.1)] [] s.2.2.2.2.2.2 (b_X5_bestValue_103 ih103 s)
  unfold b_X5_bestValue_103
  refine go_iload 6 rfl dX5_bestValue_103 ?_
  refine go_iload 5 rfl dX5_bestValue_105 ?_
  refine go_icmp_gt (tgt := 149) dX5_bestValue_107 (by decide) ?_ ?_
  · refine go_iload 3 rfl dX5_bestValue_149 ?_
    exact go_iret rfl dX5_bestValue_151
  · refine go_aload_n 0 rfl dX5_bestValue_110 rfl ?_
    refine go_getR clX5 kt_69 8 (Nat.le_of_ble_eq_true rfl) (f := 84) (fun _ => rfl) gw169 dX5_bestValue_111 ?_
    refine go_iload_n 1 rfl dX5_bestValue_114 rfl ?_
    refine go_iload 6 rfl dX5_bestValue_115 ?_
    refine go_callVI (As := fun ad => [.int s.1, .int s.2.2.2.2.2.1]) (g_X0_change 84 s.1 s.2.2.2.2.2.1 s.2.2.2.2.2.2) mv_X0_change clX0 kt_84 gw121 rfl ⟨Nat.le_of_ble_eq_true rfl, Nat.le_of_ble_eq_true rfl⟩ rfl (Nat.le_of_ble_eq_true rfl) dX5_bestValue_117 (fun r21 u22 => ?_)
    refine go_pop dX5_bestValue_120 rfl ?_
    refine go_aload_n 0 rfl dX5_bestValue_121 rfl ?_
    refine go_iload_n 2 rfl dX5_bestValue_122 rfl ?_
    refine go_callVI (As := fun ad => [.int s.2.1]) (g_X5_agreementsOfTried s.2.1 u22) mv_X5_agreementsOfTried clX5 kt_69 gw175 rfl ⟨Nat.le_of_ble_eq_true rfl, Nat.le_of_ble_eq_true rfl⟩ rfl (Nat.le_of_ble_eq_true rfl) dX5_bestValue_123 (fun r23 u24 => ?_)
    refine go_istore (lv' := [(10, .int r23), (0, .ref (ad 69)), (2, .int s.1), (3, .int s.2.1), (6, .int s.2.2.1), (7, .int s.2.2.2.1), (8, .int s.2.2.2.2.1), (9, .int s.2.2.2.2.2.1)]) dX5_bestValue_126 (Nat.le_of_ble_eq_true rfl) rfl ?_
    refine go_iload 0 rfl dX5_bestValue_128 ?_
    refine go_iload 5 rfl dX5_bestValue_130 ?_
    refine go_icmp_le (tgt := 143) dX5_bestValue_132 (by decide) ?_ ?_
    · refine go_iinc (v := (s.2.2.2.2.2.1 + (1 : Int32))) (lv' := [(9, .int (s.2.2.2.2.2.1 + (1 : Int32))), (10, .int r23), (0, .ref (ad 69)), (2, .int s.1), (3, .int s.2.1), (6, .int s.2.2.1), (7, .int s.2.2.2.1), (8, .int s.2.2.2.2.1)]) 7 rfl dX5_bestValue_143 rfl (Nat.le_of_ble_eq_true rfl) rfl ?_
      refine go_goto (tgt := 103) dX5_bestValue_146 (by decide) ?_
      exact go_sub [2, 3, 4, 5, 6, 7, 0] rfl (hih103 (s.1, s.2.1, s.2.2.1, s.2.2.2.1, s.2.2.2.2.1, (s.2.2.2.2.2.1 + (1 : Int32)), u24))
    · refine go_iload 0 rfl dX5_bestValue_135 ?_
      refine go_istore (lv' := [(7, .int r23), (10, .int r23), (0, .ref (ad 69)), (2, .int s.1), (3, .int s.2.1), (6, .int s.2.2.1), (8, .int s.2.2.2.2.1), (9, .int s.2.2.2.2.2.1)]) dX5_bestValue_137 (Nat.le_of_ble_eq_true rfl) rfl ?_
      refine go_iload 7 rfl dX5_bestValue_139 ?_
      refine go_nm (fun x25 => ?_)
      refine go_istore (lv' := [(6, .int x25), (7, .int r23), (10, .int r23), (0, .ref (ad 69)), (2, .int s.1), (3, .int s.2.1), (8, .int s.2.2.2.2.1), (9, .int s.2.2.2.2.2.1)]) dX5_bestValue_141 (Nat.le_of_ble_eq_true rfl) rfl ?_
      refine go_iinc (v := (s.2.2.2.2.2.1 + (1 : Int32))) (lv' := [(9, .int (s.2.2.2.2.2.1 + (1 : Int32))), (6, .int x25), (7, .int r23), (10, .int r23), (0, .ref (ad 69)), (2, .int s.1), (3, .int s.2.1), (8, .int s.2.2.2.2.1)]) 7 rfl dX5_bestValue_143 rfl (Nat.le_of_ble_eq_true rfl) rfl ?_
      refine go_goto (tgt := 103) dX5_bestValue_146 (by decide) ?_
      exact go_sub [4, 5, 6, 1, 2, 7, 0] rfl (hih103 (s.1, s.2.1, x25, r23, s.2.2.2.2.1, (s.2.2.2.2.2.1 + (1 : Int32)), u24))
set_option maxHeartbeats 4000000 in
set_option maxRecDepth 100000 in
theorem g_X5_bestValue (a1 : Int32) (a2 : Int32) (a3 : Int32) (a4 : Int32) (u : Uw) : ∀ l, Con l yX5_bestValue mi_X5_bestValue ivI (fun ad => [.ref (ad 69), .int a1, .int a2, .int a3, .int a4]) u (f_X5_bestValue a1 a2 a3 a4 u) := by
  refine con_of (by decide) rfl (fun _ => Nat.le_of_ble_eq_true rfl) (fun X ad => ?_)
  show Go X ad mi_X5_bestValue ivI 0 [(0, .ref (ad 69)), (1, .int a1), (2, .int a2), (3, .int a3), (4, .int a4)] [] u (f_X5_bestValue a1 a2 a3 a4 u)
  unfold f_X5_bestValue
  refine go_aload_n 0 rfl dX5_bestValue_0 rfl ?_
  refine go_getR clX5 kt_69 0 (Nat.le_of_ble_eq_true rfl) (f := 0) (fun _ => rfl) gw113 dX5_bestValue_1 ?_
  refine go_iload_n 1 rfl dX5_bestValue_4 rfl ?_
  refine go_callVR (As := fun ad => [.int a1]) (g_X3_calendarAt 0 a1 u) mv_X3_calendarAt clX3 kt_0 gw118 rfl ⟨Nat.le_of_ble_eq_true rfl, Nat.le_of_ble_eq_true rfl⟩ rfl (Nat.le_of_ble_eq_true rfl) dX5_bestValue_5 (fun r1 u2 => ?_)
  refine go_ro ?_ (fun e5 => ?_)
  · refine go_astoreN (lv' := [(5, .null), (0, .ref (ad 69)), (1, .int a1), (2, .int a2), (3, .int a3), (4, .int a4)]) dX5_bestValue_8 (Nat.le_of_ble_eq_true rfl) rfl ?_
    refine go_aloadN 0 rfl dX5_bestValue_10 ?_
    refine go_ifnullN (tgt := 25) dX5_bestValue_12 (by decide) ?_
    refine go_aload_n 1 rfl dX5_bestValue_25 rfl ?_
    refine go_ldc (v := (-1000000001 : Int32)) gw110 dX5_bestValue_26 ?_
    refine go_callVI (As := fun ad => [.int (-1000000001 : Int32)]) (g_X5_found (-1000000001 : Int32) u2) mv_X5_found clX5 kt_69 gw117 rfl ⟨Nat.le_of_ble_eq_true rfl, Nat.le_of_ble_eq_true rfl⟩ rfl (Nat.le_of_ble_eq_true rfl) dX5_bestValue_28 (fun r3 u4 => ?_)
    exact go_iret rfl dX5_bestValue_31
  · refine go_astore (lv' := [(5, .ref (ad e5)), (0, .ref (ad 69)), (1, .int a1), (2, .int a2), (3, .int a3), (4, .int a4)]) dX5_bestValue_8 (Nat.le_of_ble_eq_true rfl) rfl ?_
    refine go_aload 0 rfl dX5_bestValue_10 ?_
    refine go_ifnull dX5_bestValue_12 ?_
    refine go_iload_n 4 rfl dX5_bestValue_15 rfl ?_
    refine go_iconst (v := (1 : Int32)) dX5_bestValue_16 (by decide) ?_
    refine go_iload 5 rfl dX5_bestValue_17 ?_
    refine go_callSZ (As := fun ad => [.int a3, .int (1 : Int32), .int a4]) (g_X5_within a3 (1 : Int32) a4 u2) mo_X5_within gw85 gw125 rfl ⟨Nat.le_of_ble_eq_true rfl, Nat.le_of_ble_eq_true rfl⟩ rfl (Nat.le_of_ble_eq_true rfl) dX5_bestValue_19 (fun r6 u7 => ?_)
    refine go_ifz_ne (tgt := 32) dX5_bestValue_22 (by decide) ?_ ?_
    · refine go_aload_n 1 rfl dX5_bestValue_32 rfl ?_
      refine go_getR clX5 kt_69 0 (Nat.le_of_ble_eq_true rfl) (f := 0) (fun _ => rfl) gw113 dX5_bestValue_33 ?_
      refine go_aload_n 1 rfl dX5_bestValue_36 rfl ?_
      refine go_getR clX5 kt_69 0 (Nat.le_of_ble_eq_true rfl) (f := 0) (fun _ => rfl) gw113 dX5_bestValue_37 ?_
      refine go_getILN clX3 kt_0 2 (Nat.le_of_ble_eq_true rfl) (c := 4) (fun _ => rfl) kr_0 gn130 dX5_bestValue_40 ?_
      refine go_callVR (As := fun ad => [.int (u7.1 0 4)]) (g_X3_calendarAt 0 (u7.1 0 4) u7) mv_X3_calendarAt clX3 kt_0 gw118 rfl ⟨Nat.le_of_ble_eq_true rfl, Nat.le_of_ble_eq_true rfl⟩ rfl (Nat.le_of_ble_eq_true rfl) dX5_bestValue_43 (fun r8 u9 => ?_)
      refine go_ro ?_ (fun e12 => ?_)
      · refine go_ifnonnullN dX5_bestValue_46 ?_
        refine go_aload_n 1 rfl dX5_bestValue_49 rfl ?_
        refine go_ldc (v := (-1000000005 : Int32)) gw141 dX5_bestValue_50 ?_
        refine go_callVI (As := fun ad => [.int (-1000000005 : Int32)]) (g_X5_found (-1000000005 : Int32) u9) mv_X5_found clX5 kt_69 gw117 rfl ⟨Nat.le_of_ble_eq_true rfl, Nat.le_of_ble_eq_true rfl⟩ rfl (Nat.le_of_ble_eq_true rfl) dX5_bestValue_52 (fun r10 u11 => ?_)
        exact go_iret rfl dX5_bestValue_55
      · refine go_ifnonnull (tgt := 56) dX5_bestValue_46 (by decide) ?_
        refine go_iload_n 3 rfl dX5_bestValue_56 rfl ?_
        refine go_callSI (As := fun ad => [.int a2]) (g_X0_least a2 u9) mo_X0_least gw170 gw171 rfl ⟨Nat.le_of_ble_eq_true rfl, Nat.le_of_ble_eq_true rfl⟩ rfl (Nat.le_of_ble_eq_true rfl) dX5_bestValue_57 (fun r13 u14 => ?_)
        refine go_istore (lv' := [(6, .int r13), (5, .ref (ad e5)), (0, .ref (ad 69)), (1, .int a1), (2, .int a2), (3, .int a3), (4, .int a4)]) dX5_bestValue_60 (Nat.le_of_ble_eq_true rfl) rfl ?_
        refine go_iload_n 3 rfl dX5_bestValue_62 rfl ?_
        refine go_aload_n 2 rfl dX5_bestValue_63 rfl ?_
        refine go_getR clX5 kt_69 0 (Nat.le_of_ble_eq_true rfl) (f := 0) (fun _ => rfl) gw113 dX5_bestValue_64 ?_
        refine go_getILN clX3 kt_0 2 (Nat.le_of_ble_eq_true rfl) (c := 4) (fun _ => rfl) kr_0 gn130 dX5_bestValue_67 ?_
        refine go_icmp_ne (tgt := 76) dX5_bestValue_70 (by decide) ?_ ?_
        · refine go_aload_n 2 rfl dX5_bestValue_76 rfl ?_
          refine go_iload_n 5 rfl dX5_bestValue_77 rfl ?_
          refine go_callVV (As := fun ad => [.int a3]) (g_X5_lookAhead a3 u14) mv_X5_lookAhead clX5 kt_69 gw160 rfl ⟨Nat.le_of_ble_eq_true rfl, Nat.le_of_ble_eq_true rfl⟩ rfl (Nat.le_of_ble_eq_true rfl) dX5_bestValue_78 (fun r15 u16 => ?_)
          refine go_aload_n 2 rfl dX5_bestValue_81 rfl ?_
          refine go_getR clX5 kt_69 8 (Nat.le_of_ble_eq_true rfl) (f := 84) (fun _ => rfl) gw169 dX5_bestValue_82 ?_
          refine go_aload 1 rfl dX5_bestValue_85 ?_
          refine go_callVV (As := fun ad => [.ref (ad e5)]) (g_X0_become 84 e5 u16) mv_X0_become clX0 kt_84 gw172 rfl ⟨Nat.le_of_ble_eq_true rfl, Nat.le_of_ble_eq_true rfl⟩ rfl (Nat.le_of_ble_eq_true rfl) dX5_bestValue_87 (fun r17 u18 => ?_)
          refine go_iconst (v := (-1 : Int32)) dX5_bestValue_90 (by decide) ?_
          refine go_istore (lv' := [(7, .int (-1 : Int32)), (6, .int r13), (5, .ref (ad e5)), (0, .ref (ad 69)), (1, .int a1), (2, .int a2), (3, .int a3), (4, .int a4)]) dX5_bestValue_91 (Nat.le_of_ble_eq_true rfl) rfl ?_
          refine go_iload_n 5 rfl dX5_bestValue_93 rfl ?_
          refine go_callSI (As := fun ad => [.int a2]) (g_X0_greatest a2 u18) mo_X0_greatest gw173 gw174 rfl ⟨Nat.le_of_ble_eq_true rfl, Nat.le_of_ble_eq_true rfl⟩ rfl (Nat.le_of_ble_eq_true rfl) dX5_bestValue_94 (fun r19 u20 => ?_)
          refine go_istore (lv' := [(8, .int r19), (7, .int (-1 : Int32)), (6, .int r13), (5, .ref (ad e5)), (0, .ref (ad 69)), (1, .int a1), (2, .int a2), (3, .int a3), (4, .int a4)]) dX5_bestValue_97 (Nat.le_of_ble_eq_true rfl) rfl ?_
          refine go_iload 2 rfl dX5_bestValue_99 ?_
          refine go_istore (lv' := [(9, .int r13), (8, .int r19), (7, .int (-1 : Int32)), (6, .int r13), (5, .ref (ad e5)), (0, .ref (ad 69)), (1, .int a1), (2, .int a2), (3, .int a3), (4, .int a4)]) dX5_bestValue_101 (Nat.le_of_ble_eq_true rfl) rfl ?_
          exact go_sub [5, 7, 8, 3, 2, 1, 0] rfl (gl_X5_bestValue_103 X ad  2100 (a2, a3, r13, (-1 : Int32), r19, r13, u20))
        · refine go_iload 0 rfl dX5_bestValue_73 ?_
          exact go_iret rfl dX5_bestValue_75
    · refine go_aload_n 1 rfl dX5_bestValue_25 rfl ?_
      refine go_ldc (v := (-1000000001 : Int32)) gw110 dX5_bestValue_26 ?_
      refine go_callVI (As := fun ad => [.int (-1000000001 : Int32)]) (g_X5_found (-1000000001 : Int32) u7) mv_X5_found clX5 kt_69 gw117 rfl ⟨Nat.le_of_ble_eq_true rfl, Nat.le_of_ble_eq_true rfl⟩ rfl (Nat.le_of_ble_eq_true rfl) dX5_bestValue_28 (fun r26 u27 => ?_)
      exact go_iret rfl dX5_bestValue_31
def f_X5_kind (a1 : Int32) (a2 : Int32) (u : Uw) : Option (Int32 × Uw) :=
  bd (f_X5_bestValue a1 (0 : Int32) a2 (400 : Int32) u) fun r1 u2 =>
  some (r1, u2)
set_option maxHeartbeats 4000000 in
set_option maxRecDepth 100000 in
theorem g_X5_kind (a1 : Int32) (a2 : Int32) (u : Uw) : ∀ l, Con l yX5_kind mi_X5_kind ivI (fun ad => [.ref (ad 69), .int a1, .int a2]) u (f_X5_kind a1 a2 u) := by
  refine con_of (by decide) rfl (fun _ => Nat.le_of_ble_eq_true rfl) (fun X ad => ?_)
  show Go X ad mi_X5_kind ivI 0 [(0, .ref (ad 69)), (1, .int a1), (2, .int a2)] [] u (f_X5_kind a1 a2 u)
  unfold f_X5_kind
  refine go_aload_n 0 rfl dX5_kind_0 rfl ?_
  refine go_iload_n 1 rfl dX5_kind_1 rfl ?_
  refine go_iconst (v := (0 : Int32)) dX5_kind_2 (by decide) ?_
  refine go_iload_n 2 rfl dX5_kind_3 rfl ?_
  refine go_sipush (v := (400 : Int32)) dX5_kind_4 (by decide) ?_
  refine go_callVI (As := fun ad => [.int a1, .int (0 : Int32), .int a2, .int (400 : Int32)]) (g_X5_bestValue a1 (0 : Int32) a2 (400 : Int32) u) mv_X5_bestValue clX5 kt_69 gw176 rfl ⟨Nat.le_of_ble_eq_true rfl, Nat.le_of_ble_eq_true rfl⟩ rfl (Nat.le_of_ble_eq_true rfl) dX5_kind_7 (fun r1 u2 => ?_)
  exact go_iret rfl dX5_kind_10
def f_X5_begin (a1 : Int32) (a2 : Int32) (u : Uw) : Option (Int32 × Uw) :=
  bd (f_X5_bestValue a1 (1 : Int32) a2 (100 : Int32) u) fun r1 u2 =>
  some (r1, u2)
set_option maxHeartbeats 4000000 in
set_option maxRecDepth 100000 in
theorem g_X5_begin (a1 : Int32) (a2 : Int32) (u : Uw) : ∀ l, Con l yX5_begin mi_X5_begin ivI (fun ad => [.ref (ad 69), .int a1, .int a2]) u (f_X5_begin a1 a2 u) := by
  refine con_of (by decide) rfl (fun _ => Nat.le_of_ble_eq_true rfl) (fun X ad => ?_)
  show Go X ad mi_X5_begin ivI 0 [(0, .ref (ad 69)), (1, .int a1), (2, .int a2)] [] u (f_X5_begin a1 a2 u)
  unfold f_X5_begin
  refine go_aload_n 0 rfl dX5_begin_0 rfl ?_
  refine go_iload_n 1 rfl dX5_begin_1 rfl ?_
  refine go_iconst (v := (1 : Int32)) dX5_begin_2 (by decide) ?_
  refine go_iload_n 2 rfl dX5_begin_3 rfl ?_
  refine go_bipush (v := (100 : Int32)) dX5_begin_4 (by decide) ?_
  refine go_callVI (As := fun ad => [.int a1, .int (1 : Int32), .int a2, .int (100 : Int32)]) (g_X5_bestValue a1 (1 : Int32) a2 (100 : Int32) u) mv_X5_bestValue clX5 kt_69 gw176 rfl ⟨Nat.le_of_ble_eq_true rfl, Nat.le_of_ble_eq_true rfl⟩ rfl (Nat.le_of_ble_eq_true rfl) dX5_begin_6 (fun r1 u2 => ?_)
  exact go_iret rfl dX5_begin_9
def b_X5_wellAhead_5 (ih5 : Int32 × Int32 × Int32 × Int32 × Uw → Option (Int32 × Uw)) (s : Int32 × Int32 × Int32 × Int32 × Uw) : Option (Int32 × Uw) :=
  if (s.2.2.2.2.1 0 1) ≤ s.2.2.2.1 then
  (some (s.2.2.1, s.2.2.2.2))
  else
  (bd (f_X3_pilgrimAt 0 s.2.2.2.1 s.2.2.2.2) fun r1 u2 =>
  ro r1
  (ih5 (s.1, s.2.1, s.2.2.1, (s.2.2.2.1 + (1 : Int32)), u2))
  (fun e3 =>
  bd (f_X5_tryDays e3 s.1 (u2.1 0 4) s.2.1 u2) fun r4 u5 =>
  if (u5.1 5 0) = 0 then
  (nm (s.2.2.1 + (1 : Int32)) fun x7 =>
  ih5 (s.1, s.2.1, x7, (s.2.2.2.1 + (1 : Int32)), u5))
  else
  (nm (s.2.2.1 + (0 : Int32)) fun x6 =>
  ih5 (s.1, s.2.1, x6, (s.2.2.2.1 + (1 : Int32)), u5))))
def f_X5_wellAhead (a1 : Int32) (a2 : Int32) (u : Uw) : Option (Int32 × Uw) :=
  lp b_X5_wellAhead_5 2100 (a1, a2, (0 : Int32), (0 : Int32), u)
set_option maxHeartbeats 4000000 in
set_option maxRecDepth 100000 in
theorem gl_X5_wellAhead_5 (X : Cx) (ad : Nat → Nat) : ∀ (n : Nat) (s : Int32 × Int32 × Int32 × Int32 × Uw), Go X ad mi_X5_wellAhead ivI 5 [(0, .ref (ad 69)), (1, .int s.1), (2, .int s.2.1), (3, .int s.2.2.1), (4, .int s.2.2.2.1)] [] s.2.2.2.2 (lp b_X5_wellAhead_5 n s) := by
  refine go_lp (G := fun (s : Int32 × Int32 × Int32 × Int32 × Uw) o => Go X ad mi_X5_wellAhead ivI 5 [(0, .ref (ad 69)), (1, .int s.1), (2, .int s.2.1), (3, .int s.2.2.1), (4, .int s.2.2.2.1)] [] s.2.2.2.2 o) (fun _ => go_none) (fun ih5 hih5 s => ?_)
  show Go X ad mi_X5_wellAhead ivI 5 [(0, .ref (ad 69)), (1, .int s.1), (2, .int s.2.1), (3, .int s.2.2.1), (4, .int s.2.2.2.1)] [] s.2.2.2.2 (b_X5_wellAhead_5 ih5 s)
  unfold b_X5_wellAhead_5
  refine go_iload 4 rfl dX5_wellAhead_5 ?_
  refine go_aload_n 0 rfl dX5_wellAhead_7 rfl ?_
  refine go_getR clX5 kt_69 0 (Nat.le_of_ble_eq_true rfl) (f := 0) (fun _ => rfl) gw113 dX5_wellAhead_8 ?_
  refine go_getILN clX3 kt_0 6 (Nat.le_of_ble_eq_true rfl) (c := 1) (fun _ => rfl) kr_0 gn133 dX5_wellAhead_11 ?_
  refine go_icmp_ge (tgt := 72) dX5_wellAhead_14 (by decide) ?_ ?_
  · refine go_iload_n 3 rfl dX5_wellAhead_72 rfl ?_
    exact go_iret rfl dX5_wellAhead_73
  · refine go_aload_n 0 rfl dX5_wellAhead_17 rfl ?_
    refine go_getR clX5 kt_69 0 (Nat.le_of_ble_eq_true rfl) (f := 0) (fun _ => rfl) gw113 dX5_wellAhead_18 ?_
    refine go_iload 4 rfl dX5_wellAhead_21 ?_
    refine go_callVR (As := fun ad => [.int s.2.2.2.1]) (g_X3_pilgrimAt 0 s.2.2.2.1 s.2.2.2.2) mv_X3_pilgrimAt clX3 kt_0 gw135 rfl ⟨Nat.le_of_ble_eq_true rfl, Nat.le_of_ble_eq_true rfl⟩ rfl (Nat.le_of_ble_eq_true rfl) dX5_wellAhead_23 (fun r1 u2 => ?_)
    refine go_ro ?_ (fun e3 => ?_)
    · refine go_astoreN (lv' := [(5, .null), (0, .ref (ad 69)), (1, .int s.1), (2, .int s.2.1), (3, .int s.2.2.1), (4, .int s.2.2.2.1)]) dX5_wellAhead_26 (Nat.le_of_ble_eq_true rfl) rfl ?_
      refine go_aloadN 0 rfl dX5_wellAhead_28 ?_
      refine go_ifnullN (tgt := 66) dX5_wellAhead_30 (by decide) ?_
      refine go_iinc (v := (s.2.2.2.1 + (1 : Int32))) (lv' := [(4, .int (s.2.2.2.1 + (1 : Int32))), (5, .null), (0, .ref (ad 69)), (1, .int s.1), (2, .int s.2.1), (3, .int s.2.2.1)]) 5 rfl dX5_wellAhead_66 rfl (Nat.le_of_ble_eq_true rfl) rfl ?_
      refine go_goto (tgt := 5) dX5_wellAhead_69 (by decide) ?_
      exact go_sub [2, 3, 4, 5, 0] rfl (hih5 (s.1, s.2.1, s.2.2.1, (s.2.2.2.1 + (1 : Int32)), u2))
    · refine go_astore (lv' := [(5, .ref (ad e3)), (0, .ref (ad 69)), (1, .int s.1), (2, .int s.2.1), (3, .int s.2.2.1), (4, .int s.2.2.2.1)]) dX5_wellAhead_26 (Nat.le_of_ble_eq_true rfl) rfl ?_
      refine go_aload 0 rfl dX5_wellAhead_28 ?_
      refine go_ifnull dX5_wellAhead_30 ?_
      refine go_aload_n 1 rfl dX5_wellAhead_33 rfl ?_
      refine go_aload 0 rfl dX5_wellAhead_34 ?_
      refine go_iload_n 2 rfl dX5_wellAhead_36 rfl ?_
      refine go_aload_n 1 rfl dX5_wellAhead_37 rfl ?_
      refine go_getR clX5 kt_69 0 (Nat.le_of_ble_eq_true rfl) (f := 0) (fun _ => rfl) gw113 dX5_wellAhead_38 ?_
      refine go_getILN clX3 kt_0 2 (Nat.le_of_ble_eq_true rfl) (c := 4) (fun _ => rfl) kr_0 gn130 dX5_wellAhead_41 ?_
      refine go_iload_n 3 rfl dX5_wellAhead_44 rfl ?_
      refine go_callVV (As := fun ad => [.ref (ad e3), .int s.1, .int (u2.1 0 4), .int s.2.1]) (g_X5_tryDays e3 s.1 (u2.1 0 4) s.2.1 u2) mv_X5_tryDays clX5 kt_69 gw161 rfl ⟨Nat.le_of_ble_eq_true rfl, Nat.le_of_ble_eq_true rfl⟩ rfl (Nat.le_of_ble_eq_true rfl) dX5_wellAhead_45 (fun r4 u5 => ?_)
      refine go_iload_n 4 rfl dX5_wellAhead_48 rfl ?_
      refine go_aload_n 1 rfl dX5_wellAhead_49 rfl ?_
      refine go_getR clX5 kt_69 7 (Nat.le_of_ble_eq_true rfl) (f := 83) (fun _ => rfl) gw157 dX5_wellAhead_50 ?_
      refine go_getILN clX1 kt_83 0 (Nat.le_of_ble_eq_true rfl) (c := 0) (fun _ => rfl) kr_83 gn138 dX5_wellAhead_53 ?_
      refine go_if_ne (tgt := 63) dX5_wellAhead_56 (by decide) ?_ ?_
      · refine go_iconst (v := (0 : Int32)) dX5_wellAhead_63 (by decide) ?_
        refine go_iadd dX5_wellAhead_64 ?_
        refine go_nm (fun x6 => ?_)
        refine go_istore_n (lv' := [(3, .int x6), (5, .ref (ad e3)), (0, .ref (ad 69)), (1, .int s.1), (2, .int s.2.1), (4, .int s.2.2.2.1)]) dX5_wellAhead_65 rfl (Nat.le_of_ble_eq_true rfl) rfl ?_
        refine go_iinc (v := (s.2.2.2.1 + (1 : Int32))) (lv' := [(4, .int (s.2.2.2.1 + (1 : Int32))), (3, .int x6), (5, .ref (ad e3)), (0, .ref (ad 69)), (1, .int s.1), (2, .int s.2.1)]) 5 rfl dX5_wellAhead_66 rfl (Nat.le_of_ble_eq_true rfl) rfl ?_
        refine go_goto (tgt := 5) dX5_wellAhead_69 (by decide) ?_
        exact go_sub [3, 4, 5, 1, 0] rfl (hih5 (s.1, s.2.1, x6, (s.2.2.2.1 + (1 : Int32)), u5))
      · refine go_iconst (v := (1 : Int32)) dX5_wellAhead_59 (by decide) ?_
        refine go_goto (tgt := 64) dX5_wellAhead_60 (by decide) ?_
        refine go_iadd dX5_wellAhead_64 ?_
        refine go_nm (fun x7 => ?_)
        refine go_istore_n (lv' := [(3, .int x7), (5, .ref (ad e3)), (0, .ref (ad 69)), (1, .int s.1), (2, .int s.2.1), (4, .int s.2.2.2.1)]) dX5_wellAhead_65 rfl (Nat.le_of_ble_eq_true rfl) rfl ?_
        refine go_iinc (v := (s.2.2.2.1 + (1 : Int32))) (lv' := [(4, .int (s.2.2.2.1 + (1 : Int32))), (3, .int x7), (5, .ref (ad e3)), (0, .ref (ad 69)), (1, .int s.1), (2, .int s.2.1)]) 5 rfl dX5_wellAhead_66 rfl (Nat.le_of_ble_eq_true rfl) rfl ?_
        refine go_goto (tgt := 5) dX5_wellAhead_69 (by decide) ?_
        exact go_sub [3, 4, 5, 1, 0] rfl (hih5 (s.1, s.2.1, x7, (s.2.2.2.1 + (1 : Int32)), u5))
set_option maxHeartbeats 4000000 in
set_option maxRecDepth 100000 in
theorem g_X5_wellAhead (a1 : Int32) (a2 : Int32) (u : Uw) : ∀ l, Con l yX5_wellAhead mi_X5_wellAhead ivI (fun ad => [.ref (ad 69), .int a1, .int a2]) u (f_X5_wellAhead a1 a2 u) := by
  refine con_of (by decide) rfl (fun _ => Nat.le_of_ble_eq_true rfl) (fun X ad => ?_)
  show Go X ad mi_X5_wellAhead ivI 0 [(0, .ref (ad 69)), (1, .int a1), (2, .int a2)] [] u (f_X5_wellAhead a1 a2 u)
  unfold f_X5_wellAhead
  refine go_iconst (v := (0 : Int32)) dX5_wellAhead_0 (by decide) ?_
  refine go_istore_n (lv' := [(3, .int (0 : Int32)), (0, .ref (ad 69)), (1, .int a1), (2, .int a2)]) dX5_wellAhead_1 rfl (Nat.le_of_ble_eq_true rfl) rfl ?_
  refine go_iconst (v := (0 : Int32)) dX5_wellAhead_2 (by decide) ?_
  refine go_istore (lv' := [(4, .int (0 : Int32)), (3, .int (0 : Int32)), (0, .ref (ad 69)), (1, .int a1), (2, .int a2)]) dX5_wellAhead_3 (Nat.le_of_ble_eq_true rfl) rfl ?_
  exact go_sub [2, 3, 4, 1, 0] rfl (gl_X5_wellAhead_5 X ad  2100 (a1, a2, (0 : Int32), (0 : Int32), u))
def b_X5_power_29 (ih29 : Int32 × Int32 × Int32 × Int32 × Uw → Option (Int32 × Uw)) (s : Int32 × Int32 × Int32 × Int32 × Uw) : Option (Int32 × Uw) :=
  if (50 : Int32) < s.2.2.2.1 then
  (some (s.2.1, s.2.2.2.2))
  else
  (bd (f_X5_wellAhead s.1 s.2.2.2.1 s.2.2.2.2) fun r5 u6 =>
  if r5 ≤ s.2.2.1 then
  (ih29 (s.1, s.2.1, s.2.2.1, (s.2.2.2.1 + (1 : Int32)), u6))
  else
  (nm s.2.2.2.1 fun x7 =>
  ih29 (s.1, x7, r5, (s.2.2.2.1 + (1 : Int32)), u6)))
def f_X5_power (a1 : Int32) (u : Uw) : Option (Int32 × Uw) :=
  bd (f_X5_within a1 (1 : Int32) (100 : Int32) u) fun r1 u2 =>
  if r1 = true then
  (bd (f_X5_lookAhead a1 u2) fun r3 u4 =>
  lp b_X5_power_29 2100 (a1, (1 : Int32), (-1 : Int32), (1 : Int32), u4))
  else
  (bd (f_X5_found (-1000000001 : Int32) u2) fun r8 u9 =>
  some (r8, u9))
set_option maxHeartbeats 4000000 in
set_option maxRecDepth 100000 in
theorem gl_X5_power_29 (X : Cx) (ad : Nat → Nat) : ∀ (n : Nat) (s : Int32 × Int32 × Int32 × Int32 × Uw), Go X ad mi_X5_power ivI 29 [(0, .ref (ad 69)), (1, .int s.1), (2, .int s.2.1), (3, .int s.2.2.1), (4, .int s.2.2.2.1)] [] s.2.2.2.2 (lp b_X5_power_29 n s) := by
  refine go_lp (G := fun (s : Int32 × Int32 × Int32 × Int32 × Uw) o => Go X ad mi_X5_power ivI 29 [(0, .ref (ad 69)), (1, .int s.1), (2, .int s.2.1), (3, .int s.2.2.1), (4, .int s.2.2.2.1)] [] s.2.2.2.2 o) (fun _ => go_none) (fun ih29 hih29 s => ?_)
  show Go X ad mi_X5_power ivI 29 [(0, .ref (ad 69)), (1, .int s.1), (2, .int s.2.1), (3, .int s.2.2.1), (4, .int s.2.2.2.1)] [] s.2.2.2.2 (b_X5_power_29 ih29 s)
  unfold b_X5_power_29
  refine go_iload 4 rfl dX5_power_29 ?_
  refine go_bipush (v := (50 : Int32)) dX5_power_31 (by decide) ?_
  refine go_icmp_gt (tgt := 63) dX5_power_33 (by decide) ?_ ?_
  · refine go_iload_n 2 rfl dX5_power_63 rfl ?_
    exact go_iret rfl dX5_power_64
  · refine go_aload_n 0 rfl dX5_power_36 rfl ?_
    refine go_iload_n 1 rfl dX5_power_37 rfl ?_
    refine go_iload 4 rfl dX5_power_38 ?_
    refine go_callVI (As := fun ad => [.int s.1, .int s.2.2.2.1]) (g_X5_wellAhead s.1 s.2.2.2.1 s.2.2.2.2) mv_X5_wellAhead clX5 kt_69 gw177 rfl ⟨Nat.le_of_ble_eq_true rfl, Nat.le_of_ble_eq_true rfl⟩ rfl (Nat.le_of_ble_eq_true rfl) dX5_power_40 (fun r5 u6 => ?_)
    refine go_istore (lv' := [(5, .int r5), (0, .ref (ad 69)), (1, .int s.1), (2, .int s.2.1), (3, .int s.2.2.1), (4, .int s.2.2.2.1)]) dX5_power_43 (Nat.le_of_ble_eq_true rfl) rfl ?_
    refine go_iload 0 rfl dX5_power_45 ?_
    refine go_iload_n 4 rfl dX5_power_47 rfl ?_
    refine go_icmp_le (tgt := 57) dX5_power_48 (by decide) ?_ ?_
    · refine go_iinc (v := (s.2.2.2.1 + (1 : Int32))) (lv' := [(4, .int (s.2.2.2.1 + (1 : Int32))), (5, .int r5), (0, .ref (ad 69)), (1, .int s.1), (2, .int s.2.1), (3, .int s.2.2.1)]) 5 rfl dX5_power_57 rfl (Nat.le_of_ble_eq_true rfl) rfl ?_
      refine go_goto (tgt := 29) dX5_power_60 (by decide) ?_
      exact go_sub [2, 3, 4, 5, 0] rfl (hih29 (s.1, s.2.1, s.2.2.1, (s.2.2.2.1 + (1 : Int32)), u6))
    · refine go_iload 0 rfl dX5_power_51 ?_
      refine go_istore_n (lv' := [(3, .int r5), (5, .int r5), (0, .ref (ad 69)), (1, .int s.1), (2, .int s.2.1), (4, .int s.2.2.2.1)]) dX5_power_53 rfl (Nat.le_of_ble_eq_true rfl) rfl ?_
      refine go_iload 5 rfl dX5_power_54 ?_
      refine go_nm (fun x7 => ?_)
      refine go_istore_n (lv' := [(2, .int x7), (3, .int r5), (5, .int r5), (0, .ref (ad 69)), (1, .int s.1), (4, .int s.2.2.2.1)]) dX5_power_56 rfl (Nat.le_of_ble_eq_true rfl) rfl ?_
      refine go_iinc (v := (s.2.2.2.1 + (1 : Int32))) (lv' := [(4, .int (s.2.2.2.1 + (1 : Int32))), (2, .int x7), (3, .int r5), (5, .int r5), (0, .ref (ad 69)), (1, .int s.1)]) 5 rfl dX5_power_57 rfl (Nat.le_of_ble_eq_true rfl) rfl ?_
      refine go_goto (tgt := 29) dX5_power_60 (by decide) ?_
      exact go_sub [4, 5, 1, 2, 0] rfl (hih29 (s.1, x7, r5, (s.2.2.2.1 + (1 : Int32)), u6))
set_option maxHeartbeats 4000000 in
set_option maxRecDepth 100000 in
theorem g_X5_power (a1 : Int32) (u : Uw) : ∀ l, Con l yX5_power mi_X5_power ivI (fun ad => [.ref (ad 69), .int a1]) u (f_X5_power a1 u) := by
  refine con_of (by decide) rfl (fun _ => Nat.le_of_ble_eq_true rfl) (fun X ad => ?_)
  show Go X ad mi_X5_power ivI 0 [(0, .ref (ad 69)), (1, .int a1)] [] u (f_X5_power a1 u)
  unfold f_X5_power
  refine go_iload_n 1 rfl dX5_power_0 rfl ?_
  refine go_iconst (v := (1 : Int32)) dX5_power_1 (by decide) ?_
  refine go_bipush (v := (100 : Int32)) dX5_power_2 (by decide) ?_
  refine go_callSZ (As := fun ad => [.int a1, .int (1 : Int32), .int (100 : Int32)]) (g_X5_within a1 (1 : Int32) (100 : Int32) u) mo_X5_within gw85 gw125 rfl ⟨Nat.le_of_ble_eq_true rfl, Nat.le_of_ble_eq_true rfl⟩ rfl (Nat.le_of_ble_eq_true rfl) dX5_power_4 (fun r1 u2 => ?_)
  refine go_ifz_ne (tgt := 17) dX5_power_7 (by decide) ?_ ?_
  · refine go_aload_n 0 rfl dX5_power_17 rfl ?_
    refine go_iload_n 1 rfl dX5_power_18 rfl ?_
    refine go_callVV (As := fun ad => [.int a1]) (g_X5_lookAhead a1 u2) mv_X5_lookAhead clX5 kt_69 gw160 rfl ⟨Nat.le_of_ble_eq_true rfl, Nat.le_of_ble_eq_true rfl⟩ rfl (Nat.le_of_ble_eq_true rfl) dX5_power_19 (fun r3 u4 => ?_)
    refine go_iconst (v := (1 : Int32)) dX5_power_22 (by decide) ?_
    refine go_istore_n (lv' := [(2, .int (1 : Int32)), (0, .ref (ad 69)), (1, .int a1)]) dX5_power_23 rfl (Nat.le_of_ble_eq_true rfl) rfl ?_
    refine go_iconst (v := (-1 : Int32)) dX5_power_24 (by decide) ?_
    refine go_istore_n (lv' := [(3, .int (-1 : Int32)), (2, .int (1 : Int32)), (0, .ref (ad 69)), (1, .int a1)]) dX5_power_25 rfl (Nat.le_of_ble_eq_true rfl) rfl ?_
    refine go_iconst (v := (1 : Int32)) dX5_power_26 (by decide) ?_
    refine go_istore (lv' := [(4, .int (1 : Int32)), (3, .int (-1 : Int32)), (2, .int (1 : Int32)), (0, .ref (ad 69)), (1, .int a1)]) dX5_power_27 (Nat.le_of_ble_eq_true rfl) rfl ?_
    exact go_sub [3, 4, 2, 1, 0] rfl (gl_X5_power_29 X ad  2100 (a1, (1 : Int32), (-1 : Int32), (1 : Int32), u4))
  · refine go_aload_n 0 rfl dX5_power_10 rfl ?_
    refine go_ldc (v := (-1000000001 : Int32)) gw110 dX5_power_11 ?_
    refine go_callVI (As := fun ad => [.int (-1000000001 : Int32)]) (g_X5_found (-1000000001 : Int32) u2) mv_X5_found clX5 kt_69 gw117 rfl ⟨Nat.le_of_ble_eq_true rfl, Nat.le_of_ble_eq_true rfl⟩ rfl (Nat.le_of_ble_eq_true rfl) dX5_power_13 (fun r8 u9 => ?_)
    exact go_iret rfl dX5_power_16
def b_X5_feed_41 (ih41 : Int32 × Int32 × Uw → Option (Int32 × Uw)) (s : Int32 × Int32 × Uw) : Option (Int32 × Uw) :=
  if s.2.1 < 0 then
  (some ((s.2.2.1 7 0), s.2.2))
  else
  (bd (f_X4_add ((s.1 >>> (((8 : Int32) * s.2.1) &&& 31)).toInt8.toInt32) s.2.2) fun r4 u5 =>
  ih41 (s.1, (s.2.1 + (-1 : Int32)), u5))
def f_X5_feed (a1 : Int32) (a2 : Int32) (u : Uw) : Option (Int32 × Uw) :=
  bd (f_X5_within a2 (1 : Int32) (4 : Int32) u) fun r1 u2 =>
  if r1 = true then
  (if (u2.1 7 0) ≤ ((120 : Int32) - a2) then
  (nm (a2 - (1 : Int32)) fun x3 =>
  lp b_X5_feed_41 2100 (a1, x3, u2))
  else
  (bd (f_X5_found (-1000000002 : Int32) u2) fun r6 u7 =>
  some (r6, u7)))
  else
  (bd (f_X5_found (-1000000001 : Int32) u2) fun r8 u9 =>
  some (r8, u9))
set_option maxHeartbeats 4000000 in
set_option maxRecDepth 100000 in
theorem gl_X5_feed_41 (X : Cx) (ad : Nat → Nat) : ∀ (n : Nat) (s : Int32 × Int32 × Uw), Go X ad mi_X5_feed ivI 41 [(0, .ref (ad 69)), (1, .int s.1), (3, .int s.2.1)] [] s.2.2 (lp b_X5_feed_41 n s) := by
  refine go_lp (G := fun (s : Int32 × Int32 × Uw) o => Go X ad mi_X5_feed ivI 41 [(0, .ref (ad 69)), (1, .int s.1), (3, .int s.2.1)] [] s.2.2 o) (fun _ => go_none) (fun ih41 hih41 s => ?_)
  show Go X ad mi_X5_feed ivI 41 [(0, .ref (ad 69)), (1, .int s.1), (3, .int s.2.1)] [] s.2.2 (b_X5_feed_41 ih41 s)
  unfold b_X5_feed_41
  refine go_iload_n 2 rfl dX5_feed_41 rfl ?_
  refine go_if_lt (tgt := 65) dX5_feed_42 (by decide) ?_ ?_
  · refine go_aload_n 0 rfl dX5_feed_65 rfl ?_
    refine go_getR clX5 kt_69 3 (Nat.le_of_ble_eq_true rfl) (f := 70) (fun _ => rfl) gw178 dX5_feed_66 ?_
    refine go_getILN clX4 kt_70 1 (Nat.le_of_ble_eq_true rfl) (c := 0) (fun _ => rfl) kr_70 gn179 dX5_feed_69 ?_
    exact go_iret rfl dX5_feed_72
  · refine go_aload_n 0 rfl dX5_feed_45 rfl ?_
    refine go_getR clX5 kt_69 3 (Nat.le_of_ble_eq_true rfl) (f := 70) (fun _ => rfl) gw178 dX5_feed_46 ?_
    refine go_iload_n 1 rfl dX5_feed_49 rfl ?_
    refine go_bipush (v := (8 : Int32)) dX5_feed_50 (by decide) ?_
    refine go_iload_n 2 rfl dX5_feed_52 rfl ?_
    refine go_imul dX5_feed_53 ?_
    refine go_ishr dX5_feed_54 ?_
    refine go_i2b dX5_feed_55 ?_
    refine go_callVV (As := fun ad => [.int ((s.1 >>> (((8 : Int32) * s.2.1) &&& 31)).toInt8.toInt32)]) (g_X4_add ((s.1 >>> (((8 : Int32) * s.2.1) &&& 31)).toInt8.toInt32) s.2.2) mv_X4_add clX4 kt_70 gw180 rfl ⟨Nat.le_of_ble_eq_true rfl, Nat.le_of_ble_eq_true rfl⟩ rfl (Nat.le_of_ble_eq_true rfl) dX5_feed_56 (fun r4 u5 => ?_)
    refine go_iinc (v := (s.2.1 + (-1 : Int32))) (lv' := [(3, .int (s.2.1 + (-1 : Int32))), (0, .ref (ad 69)), (1, .int s.1)]) 2 rfl dX5_feed_59 rfl (Nat.le_of_ble_eq_true rfl) rfl ?_
    refine go_goto (tgt := 41) dX5_feed_62 (by decide) ?_
    exact go_sub [1, 2, 0] rfl (hih41 (s.1, (s.2.1 + (-1 : Int32)), u5))
set_option maxHeartbeats 4000000 in
set_option maxRecDepth 100000 in
theorem g_X5_feed (a1 : Int32) (a2 : Int32) (u : Uw) : ∀ l, Con l yX5_feed mi_X5_feed ivI (fun ad => [.ref (ad 69), .int a1, .int a2]) u (f_X5_feed a1 a2 u) := by
  refine con_of (by decide) rfl (fun _ => Nat.le_of_ble_eq_true rfl) (fun X ad => ?_)
  show Go X ad mi_X5_feed ivI 0 [(0, .ref (ad 69)), (1, .int a1), (2, .int a2)] [] u (f_X5_feed a1 a2 u)
  unfold f_X5_feed
  refine go_iload_n 2 rfl dX5_feed_0 rfl ?_
  refine go_iconst (v := (1 : Int32)) dX5_feed_1 (by decide) ?_
  refine go_iconst (v := (4 : Int32)) dX5_feed_2 (by decide) ?_
  refine go_callSZ (As := fun ad => [.int a2, .int (1 : Int32), .int (4 : Int32)]) (g_X5_within a2 (1 : Int32) (4 : Int32) u) mo_X5_within gw85 gw125 rfl ⟨Nat.le_of_ble_eq_true rfl, Nat.le_of_ble_eq_true rfl⟩ rfl (Nat.le_of_ble_eq_true rfl) dX5_feed_3 (fun r1 u2 => ?_)
  refine go_ifz_ne (tgt := 16) dX5_feed_6 (by decide) ?_ ?_
  · refine go_aload_n 0 rfl dX5_feed_16 rfl ?_
    refine go_getR clX5 kt_69 3 (Nat.le_of_ble_eq_true rfl) (f := 70) (fun _ => rfl) gw178 dX5_feed_17 ?_
    refine go_getILN clX4 kt_70 1 (Nat.le_of_ble_eq_true rfl) (c := 0) (fun _ => rfl) kr_70 gn179 dX5_feed_20 ?_
    refine go_bipush (v := (120 : Int32)) dX5_feed_23 (by decide) ?_
    refine go_iload_n 2 rfl dX5_feed_25 rfl ?_
    refine go_isub dX5_feed_26 ?_
    refine go_icmp_le (tgt := 37) dX5_feed_27 (by decide) ?_ ?_
    · refine go_iload_n 2 rfl dX5_feed_37 rfl ?_
      refine go_iconst (v := (1 : Int32)) dX5_feed_38 (by decide) ?_
      refine go_isub dX5_feed_39 ?_
      refine go_nm (fun x3 => ?_)
      refine go_istore_n (lv' := [(3, .int x3), (0, .ref (ad 69)), (1, .int a1), (2, .int a2)]) dX5_feed_40 rfl (Nat.le_of_ble_eq_true rfl) rfl ?_
      exact go_sub [1, 2, 0] rfl (gl_X5_feed_41 X ad  2100 (a1, x3, u2))
    · refine go_aload_n 0 rfl dX5_feed_30 rfl ?_
      refine go_ldc (v := (-1000000002 : Int32)) gw116 dX5_feed_31 ?_
      refine go_callVI (As := fun ad => [.int (-1000000002 : Int32)]) (g_X5_found (-1000000002 : Int32) u2) mv_X5_found clX5 kt_69 gw117 rfl ⟨Nat.le_of_ble_eq_true rfl, Nat.le_of_ble_eq_true rfl⟩ rfl (Nat.le_of_ble_eq_true rfl) dX5_feed_33 (fun r6 u7 => ?_)
      exact go_iret rfl dX5_feed_36
  · refine go_aload_n 0 rfl dX5_feed_9 rfl ?_
    refine go_ldc (v := (-1000000001 : Int32)) gw110 dX5_feed_10 ?_
    refine go_callVI (As := fun ad => [.int (-1000000001 : Int32)]) (g_X5_found (-1000000001 : Int32) u2) mv_X5_found clX5 kt_69 gw117 rfl ⟨Nat.le_of_ble_eq_true rfl, Nat.le_of_ble_eq_true rfl⟩ rfl (Nat.le_of_ble_eq_true rfl) dX5_feed_12 (fun r8 u9 => ?_)
    exact go_iret rfl dX5_feed_15
def f_X5_wipe (u : Uw) : Option (Int32 × Uw) :=
  nm (u.1 7 0) fun x1 =>
  nm (w1 u 7 0 (0 : Int32)) fun u2 =>
  some (x1, u2)
set_option maxHeartbeats 4000000 in
set_option maxRecDepth 100000 in
theorem g_X5_wipe (u : Uw) : ∀ l, Con l yX5_wipe mi_X5_wipe ivI (fun ad => [.ref (ad 69)]) u (f_X5_wipe u) := by
  refine con_of (by decide) rfl (fun _ => Nat.le_of_ble_eq_true rfl) (fun X ad => ?_)
  show Go X ad mi_X5_wipe ivI 0 [(0, .ref (ad 69))] [] u (f_X5_wipe u)
  unfold f_X5_wipe
  refine go_aload_n 0 rfl dX5_wipe_0 rfl ?_
  refine go_getR clX5 kt_69 3 (Nat.le_of_ble_eq_true rfl) (f := 70) (fun _ => rfl) gw178 dX5_wipe_1 ?_
  refine go_getILN clX4 kt_70 1 (Nat.le_of_ble_eq_true rfl) (c := 0) (fun _ => rfl) kr_70 gn179 dX5_wipe_4 ?_
  refine go_nm (fun x1 => ?_)
  refine go_istore_n (lv' := [(1, .int x1), (0, .ref (ad 69))]) dX5_wipe_7 rfl (Nat.le_of_ble_eq_true rfl) rfl ?_
  refine go_aload_n 1 rfl dX5_wipe_8 rfl ?_
  refine go_getR clX5 kt_69 3 (Nat.le_of_ble_eq_true rfl) (f := 70) (fun _ => rfl) gw178 dX5_wipe_9 ?_
  refine go_iconst (v := (0 : Int32)) dX5_wipe_12 (by decide) ?_
  refine go_putILN clX4 kt_70 1 (Nat.le_of_ble_eq_true rfl) (c := 0) (fun _ => rfl) (by decide) kr_70 (fty := .int) (tyX4_ok 1 (Nat.le_of_ble_eq_true rfl)) rfl rfl rfl (fun _ => Nat.le_of_ble_eq_true rfl) gn179 dX5_wipe_13 ?_
  refine go_nmU (fun u2 => ?_)
  refine go_iload_n 0 rfl dX5_wipe_16 rfl ?_
  exact go_iret rfl dX5_wipe_17
def f_X5_spring (u : Uw) : Option (Int32 × Uw) :=
  bd (f_X4_tell 0 u) fun r1 u2 =>
  if r1 < 0 then
  (nm (w1 u2 7 0 (0 : Int32)) fun u3 =>
  some (r1, u3))
  else
  (bd (f_X3_become 0 46 u2) fun r4 u5 =>
  nm (w1 u5 7 0 (0 : Int32)) fun u6 =>
  some (r1, u6))
set_option maxHeartbeats 4000000 in
set_option maxRecDepth 100000 in
theorem g_X5_spring (u : Uw) : ∀ l, Con l yX5_spring mi_X5_spring ivI (fun ad => [.ref (ad 69)]) u (f_X5_spring u) := by
  refine con_of (by decide) rfl (fun _ => Nat.le_of_ble_eq_true rfl) (fun X ad => ?_)
  show Go X ad mi_X5_spring ivI 0 [(0, .ref (ad 69))] [] u (f_X5_spring u)
  unfold f_X5_spring
  refine go_aload_n 0 rfl dX5_spring_0 rfl ?_
  refine go_getR clX5 kt_69 3 (Nat.le_of_ble_eq_true rfl) (f := 70) (fun _ => rfl) gw178 dX5_spring_1 ?_
  refine go_aload_n 0 rfl dX5_spring_4 rfl ?_
  refine go_getR clX5 kt_69 0 (Nat.le_of_ble_eq_true rfl) (f := 0) (fun _ => rfl) gw113 dX5_spring_5 ?_
  refine go_callVI (As := fun ad => [.ref (ad 0)]) (g_X4_tell 0 u) mv_X4_tell clX4 kt_70 gw181 rfl ⟨Nat.le_of_ble_eq_true rfl, Nat.le_of_ble_eq_true rfl⟩ rfl (Nat.le_of_ble_eq_true rfl) dX5_spring_8 (fun r1 u2 => ?_)
  refine go_istore_n (lv' := [(1, .int r1), (0, .ref (ad 69))]) dX5_spring_11 rfl (Nat.le_of_ble_eq_true rfl) rfl ?_
  refine go_iload_n 0 rfl dX5_spring_12 rfl ?_
  refine go_if_lt (tgt := 30) dX5_spring_13 (by decide) ?_ ?_
  · refine go_aload_n 1 rfl dX5_spring_30 rfl ?_
    refine go_getR clX5 kt_69 3 (Nat.le_of_ble_eq_true rfl) (f := 70) (fun _ => rfl) gw178 dX5_spring_31 ?_
    refine go_iconst (v := (0 : Int32)) dX5_spring_34 (by decide) ?_
    refine go_putILN clX4 kt_70 1 (Nat.le_of_ble_eq_true rfl) (c := 0) (fun _ => rfl) (by decide) kr_70 (fty := .int) (tyX4_ok 1 (Nat.le_of_ble_eq_true rfl)) rfl rfl rfl (fun _ => Nat.le_of_ble_eq_true rfl) gn179 dX5_spring_35 ?_
    refine go_nmU (fun u3 => ?_)
    refine go_iload_n 0 rfl dX5_spring_38 rfl ?_
    exact go_iret rfl dX5_spring_39
  · refine go_aload_n 1 rfl dX5_spring_16 rfl ?_
    refine go_getR clX5 kt_69 0 (Nat.le_of_ble_eq_true rfl) (f := 0) (fun _ => rfl) gw113 dX5_spring_17 ?_
    refine go_aload_n 1 rfl dX5_spring_20 rfl ?_
    refine go_getR clX5 kt_69 3 (Nat.le_of_ble_eq_true rfl) (f := 70) (fun _ => rfl) gw178 dX5_spring_21 ?_
    refine go_getRN clX4 kt_70 2 (Nat.le_of_ble_eq_true rfl) (f := 46) (fun _ => rfl) gn182 dX5_spring_24 ?_
    refine go_callVV (As := fun ad => [.ref (ad 46)]) (g_X3_become 0 46 u2) mv_X3_become clX3 kt_0 gw183 rfl ⟨Nat.le_of_ble_eq_true rfl, Nat.le_of_ble_eq_true rfl⟩ rfl (Nat.le_of_ble_eq_true rfl) dX5_spring_27 (fun r4 u5 => ?_)
    refine go_aload_n 1 rfl dX5_spring_30 rfl ?_
    refine go_getR clX5 kt_69 3 (Nat.le_of_ble_eq_true rfl) (f := 70) (fun _ => rfl) gw178 dX5_spring_31 ?_
    refine go_iconst (v := (0 : Int32)) dX5_spring_34 (by decide) ?_
    refine go_putILN clX4 kt_70 1 (Nat.le_of_ble_eq_true rfl) (c := 0) (fun _ => rfl) (by decide) kr_70 (fty := .int) (tyX4_ok 1 (Nat.le_of_ble_eq_true rfl)) rfl rfl rfl (fun _ => Nat.le_of_ble_eq_true rfl) gn179 dX5_spring_35 ?_
    refine go_nmU (fun u6 => ?_)
    refine go_iload_n 0 rfl dX5_spring_38 rfl ?_
    exact go_iret rfl dX5_spring_39
def f_X5_sheetAt (a1 : Int32) (u : Uw) : Option ((Option Nat) × Uw) :=
  if a1 < 0 then
  (some (none, u))
  else
  (if (4 : Int32) ≤ a1 then
  (some (none, u))
  else
  (ck (inb a1 4) <|
  nm (73 + a1.toNatClampNeg) fun e2 =>
  some (some e2, u)))
set_option maxHeartbeats 4000000 in
set_option maxRecDepth 100000 in
theorem g_X5_sheetAt (a1 : Int32) (u : Uw) : ∀ l, Con l yX5_sheetAt mi_X5_sheetAt ivR (fun ad => [.ref (ad 69), .int a1]) u (f_X5_sheetAt a1 u) := by
  refine con_of (by decide) rfl (fun _ => Nat.le_of_ble_eq_true rfl) (fun X ad => ?_)
  show Go X ad mi_X5_sheetAt ivR 0 [(0, .ref (ad 69)), (1, .int a1)] [] u (f_X5_sheetAt a1 u)
  unfold f_X5_sheetAt
  refine go_iload_n 1 rfl dX5_sheetAt_0 rfl ?_
  refine go_if_lt (tgt := 22) dX5_sheetAt_1 (by decide) ?_ ?_
  · refine go_null dX5_sheetAt_22 ?_
    exact go_aretN rfl dX5_sheetAt_23
  · refine go_iload_n 1 rfl dX5_sheetAt_4 rfl ?_
    refine go_aload_n 0 rfl dX5_sheetAt_5 rfl ?_
    refine go_getR clX5 kt_69 4 (Nat.le_of_ble_eq_true rfl) (f := 72) (fun _ => rfl) gw184 dX5_sheetAt_6 ?_
    refine go_alen15 kt_72 dX5_sheetAt_9 ?_
    refine go_icmp_ge (tgt := 22) dX5_sheetAt_10 (by decide) ?_ ?_
    · refine go_null dX5_sheetAt_22 ?_
      exact go_aretN rfl dX5_sheetAt_23
    · refine go_aload_n 0 rfl dX5_sheetAt_13 rfl ?_
      refine go_getR clX5 kt_69 4 (Nat.le_of_ble_eq_true rfl) (f := 72) (fun _ => rfl) gw184 dX5_sheetAt_14 ?_
      refine go_iload_n 1 rfl dX5_sheetAt_17 rfl ?_
      refine go_ck (fun h1 => ?_)
      refine go_aald15 kt_72 h1 dX5_sheetAt_18 ?_
      refine go_nmR (fun e2 => ?_)
      refine go_goto (tgt := 23) dX5_sheetAt_19 (by decide) ?_
      exact go_aret rfl dX5_sheetAt_23
def f_X5_sheet (a1 : Int32) (a2 : Int32) (a3 : Int32) (u : Uw) : Option (Int32 × Uw) :=
  bd (f_X5_sheetAt a1 u) fun r1 u2 =>
  ro r1
  (bd (f_X5_found (-1000000001 : Int32) u2) fun r3 u4 =>
  some (r3, u4))
  (fun e5 =>
  bd (f_X2_allows a2 u2) fun r6 u7 =>
  if r6 = true then
  (if 0 ≤ a3 then
  (if a3 ≤ (40 : Int32) then
  (ck (kT e5 == 2) <|
  bd (f_X2_lay e5 a2 a3 u7) fun r9 u10 =>
  some ((u10.1 (kR e5) (kO e5 + 1)), u10))
  else
  (bd (f_X5_found (-1000000001 : Int32) u7) fun r11 u12 =>
  some (r11, u12)))
  else
  (bd (f_X5_found (-1000000007 : Int32) u7) fun r13 u14 =>
  some (r13, u14)))
  else
  (bd (f_X5_found (-1000000001 : Int32) u7) fun r15 u16 =>
  some (r15, u16)))
set_option maxHeartbeats 4000000 in
set_option maxRecDepth 100000 in
theorem g_X5_sheet (a1 : Int32) (a2 : Int32) (a3 : Int32) (u : Uw) : ∀ l, Con l yX5_sheet mi_X5_sheet ivI (fun ad => [.ref (ad 69), .int a1, .int a2, .int a3]) u (f_X5_sheet a1 a2 a3 u) := by
  refine con_of (by decide) rfl (fun _ => Nat.le_of_ble_eq_true rfl) (fun X ad => ?_)
  show Go X ad mi_X5_sheet ivI 0 [(0, .ref (ad 69)), (1, .int a1), (2, .int a2), (3, .int a3)] [] u (f_X5_sheet a1 a2 a3 u)
  unfold f_X5_sheet
  refine go_aload_n 0 rfl dX5_sheet_0 rfl ?_
  refine go_iload_n 1 rfl dX5_sheet_1 rfl ?_
  refine go_callVR (As := fun ad => [.int a1]) (g_X5_sheetAt a1 u) mv_X5_sheetAt clX5 kt_69 gw185 rfl ⟨Nat.le_of_ble_eq_true rfl, Nat.le_of_ble_eq_true rfl⟩ rfl (Nat.le_of_ble_eq_true rfl) dX5_sheet_2 (fun r1 u2 => ?_)
  refine go_ro ?_ (fun e5 => ?_)
  · refine go_astoreN (lv' := [(4, .null), (0, .ref (ad 69)), (1, .int a1), (2, .int a2), (3, .int a3)]) dX5_sheet_5 (Nat.le_of_ble_eq_true rfl) rfl ?_
    refine go_aloadN 0 rfl dX5_sheet_7 ?_
    refine go_ifnullN (tgt := 19) dX5_sheet_9 (by decide) ?_
    refine go_aload_n 1 rfl dX5_sheet_19 rfl ?_
    refine go_ldc (v := (-1000000001 : Int32)) gw110 dX5_sheet_20 ?_
    refine go_callVI (As := fun ad => [.int (-1000000001 : Int32)]) (g_X5_found (-1000000001 : Int32) u2) mv_X5_found clX5 kt_69 gw117 rfl ⟨Nat.le_of_ble_eq_true rfl, Nat.le_of_ble_eq_true rfl⟩ rfl (Nat.le_of_ble_eq_true rfl) dX5_sheet_22 (fun r3 u4 => ?_)
    exact go_iret rfl dX5_sheet_25
  · refine go_astore (lv' := [(4, .ref (ad e5)), (0, .ref (ad 69)), (1, .int a1), (2, .int a2), (3, .int a3)]) dX5_sheet_5 (Nat.le_of_ble_eq_true rfl) rfl ?_
    refine go_aload 0 rfl dX5_sheet_7 ?_
    refine go_ifnull dX5_sheet_9 ?_
    refine go_iload_n 3 rfl dX5_sheet_12 rfl ?_
    refine go_callSZ (As := fun ad => [.int a2]) (g_X2_allows a2 u2) mo_X2_allows gw186 gw187 rfl ⟨Nat.le_of_ble_eq_true rfl, Nat.le_of_ble_eq_true rfl⟩ rfl (Nat.le_of_ble_eq_true rfl) dX5_sheet_13 (fun r6 u7 => ?_)
    refine go_ifz_ne (tgt := 26) dX5_sheet_16 (by decide) ?_ ?_
    · refine go_iload_n 4 rfl dX5_sheet_26 rfl ?_
      refine go_if_ge (tgt := 37) dX5_sheet_27 (by decide) ?_ ?_
      · refine go_iload_n 4 rfl dX5_sheet_37 rfl ?_
        refine go_bipush (v := (40 : Int32)) dX5_sheet_38 (by decide) ?_
        refine go_icmp_le (tgt := 50) dX5_sheet_40 (by decide) ?_ ?_
        · refine go_aload 0 rfl dX5_sheet_50 ?_
          refine go_iload_n 3 rfl dX5_sheet_52 rfl ?_
          refine go_iload_n 4 rfl dX5_sheet_53 rfl ?_
          refine go_ck (fun h8 => ?_)
          refine go_callVV (As := fun ad => [.int a2, .int a3]) (g_X2_lay e5 a2 a3 u7) mv_X2_lay clX2 h8 gw188 rfl ⟨Nat.le_of_ble_eq_true rfl, Nat.le_of_ble_eq_true rfl⟩ rfl (Nat.le_of_ble_eq_true rfl) dX5_sheet_54 (fun r9 u10 => ?_)
          refine go_aload 0 rfl dX5_sheet_57 ?_
          refine go_getIN clX2 h8 1 (Nat.le_of_ble_eq_true rfl) (c := 1) (fun _ => rfl) gn189 dX5_sheet_59 ?_
          exact go_iret rfl dX5_sheet_62
        · refine go_aload_n 1 rfl dX5_sheet_43 rfl ?_
          refine go_ldc (v := (-1000000001 : Int32)) gw110 dX5_sheet_44 ?_
          refine go_callVI (As := fun ad => [.int (-1000000001 : Int32)]) (g_X5_found (-1000000001 : Int32) u7) mv_X5_found clX5 kt_69 gw117 rfl ⟨Nat.le_of_ble_eq_true rfl, Nat.le_of_ble_eq_true rfl⟩ rfl (Nat.le_of_ble_eq_true rfl) dX5_sheet_46 (fun r11 u12 => ?_)
          exact go_iret rfl dX5_sheet_49
      · refine go_aload_n 1 rfl dX5_sheet_30 rfl ?_
        refine go_ldc (v := (-1000000007 : Int32)) gw190 dX5_sheet_31 ?_
        refine go_callVI (As := fun ad => [.int (-1000000007 : Int32)]) (g_X5_found (-1000000007 : Int32) u7) mv_X5_found clX5 kt_69 gw117 rfl ⟨Nat.le_of_ble_eq_true rfl, Nat.le_of_ble_eq_true rfl⟩ rfl (Nat.le_of_ble_eq_true rfl) dX5_sheet_33 (fun r13 u14 => ?_)
        exact go_iret rfl dX5_sheet_36
    · refine go_aload_n 1 rfl dX5_sheet_19 rfl ?_
      refine go_ldc (v := (-1000000001 : Int32)) gw110 dX5_sheet_20 ?_
      refine go_callVI (As := fun ad => [.int (-1000000001 : Int32)]) (g_X5_found (-1000000001 : Int32) u7) mv_X5_found clX5 kt_69 gw117 rfl ⟨Nat.le_of_ble_eq_true rfl, Nat.le_of_ble_eq_true rfl⟩ rfl (Nat.le_of_ble_eq_true rfl) dX5_sheet_22 (fun r15 u16 => ?_)
      exact go_iret rfl dX5_sheet_25
def f_X5_write (a1 : Int32) (a2 : Int32) (a3 : Int64) (u : Uw) : Option (Int64 × Uw) :=
  bd (f_X5_sheetAt a1 u) fun r1 u2 =>
  ro r1
  (bd (f_X5_found (-1000000001 : Int32) u2) fun r3 u4 =>
  some ((r3.toInt64), u4))
  (fun e5 =>
  ck (kT e5 == 2) <|
  bd (f_X2_isMissing e5 u2) fun r7 u8 =>
  if r7 = true then
  (bd (f_X5_found (-1000000006 : Int32) u8) fun r17 u18 =>
  some ((r17.toInt64), u18))
  else
  (bd (f_X5_within a2 (0 : Int32) ((u8.1 (kR e5) (kO e5 + 1)) - (1 : Int32)) u8) fun r9 u10 =>
  if r9 = true then
  (bd (f_X2_numberAt e5 a2 u10) fun r11 u12 =>
  bd (f_X2_put e5 a2 a3 u12) fun r13 u14 =>
  some (r11, u14))
  else
  (bd (f_X5_found (-1000000001 : Int32) u10) fun r15 u16 =>
  some ((r15.toInt64), u16))))
set_option maxHeartbeats 4000000 in
set_option maxRecDepth 100000 in
theorem g_X5_write (a1 : Int32) (a2 : Int32) (a3 : Int64) (u : Uw) : ∀ l, Con l yX5_write mi_X5_write ivL (fun ad => [.ref (ad 69), .int a1, .int a2, .long a3]) u (f_X5_write a1 a2 a3 u) := by
  refine con_of (by decide) rfl (fun _ => Nat.le_of_ble_eq_true rfl) (fun X ad => ?_)
  show Go X ad mi_X5_write ivL 0 [(0, .ref (ad 69)), (1, .int a1), (2, .int a2), (3, .long a3)] [] u (f_X5_write a1 a2 a3 u)
  unfold f_X5_write
  refine go_aload_n 0 rfl dX5_write_0 rfl ?_
  refine go_iload_n 1 rfl dX5_write_1 rfl ?_
  refine go_callVR (As := fun ad => [.int a1]) (g_X5_sheetAt a1 u) mv_X5_sheetAt clX5 kt_69 gw185 rfl ⟨Nat.le_of_ble_eq_true rfl, Nat.le_of_ble_eq_true rfl⟩ rfl (Nat.le_of_ble_eq_true rfl) dX5_write_2 (fun r1 u2 => ?_)
  refine go_ro ?_ (fun e5 => ?_)
  · refine go_astoreN (lv' := [(5, .null), (0, .ref (ad 69)), (1, .int a1), (2, .int a2), (3, .long a3)]) dX5_write_5 (Nat.le_of_ble_eq_true rfl) rfl ?_
    refine go_aloadN 0 rfl dX5_write_7 ?_
    refine go_ifnonnullN dX5_write_9 ?_
    refine go_aload_n 1 rfl dX5_write_12 rfl ?_
    refine go_ldc (v := (-1000000001 : Int32)) gw110 dX5_write_13 ?_
    refine go_callVI (As := fun ad => [.int (-1000000001 : Int32)]) (g_X5_found (-1000000001 : Int32) u2) mv_X5_found clX5 kt_69 gw117 rfl ⟨Nat.le_of_ble_eq_true rfl, Nat.le_of_ble_eq_true rfl⟩ rfl (Nat.le_of_ble_eq_true rfl) dX5_write_15 (fun r3 u4 => ?_)
    refine go_i2l dX5_write_18 ?_
    exact go_lret rfl dX5_write_19
  · refine go_astore (lv' := [(5, .ref (ad e5)), (0, .ref (ad 69)), (1, .int a1), (2, .int a2), (3, .long a3)]) dX5_write_5 (Nat.le_of_ble_eq_true rfl) rfl ?_
    refine go_aload 0 rfl dX5_write_7 ?_
    refine go_ifnonnull (tgt := 20) dX5_write_9 (by decide) ?_
    refine go_aload 0 rfl dX5_write_20 ?_
    refine go_ck (fun h6 => ?_)
    refine go_callVZ (As := fun ad => []) (g_X2_isMissing e5 u2) mv_X2_isMissing clX2 h6 gw191 rfl ⟨Nat.le_of_ble_eq_true rfl, Nat.le_of_ble_eq_true rfl⟩ rfl (Nat.le_of_ble_eq_true rfl) dX5_write_22 (fun r7 u8 => ?_)
    refine go_ifz_eq (tgt := 36) dX5_write_25 (by decide) ?_ ?_
    · refine go_iload_n 3 rfl dX5_write_36 rfl ?_
      refine go_iconst (v := (0 : Int32)) dX5_write_37 (by decide) ?_
      refine go_aload 0 rfl dX5_write_38 ?_
      refine go_getIN clX2 h6 1 (Nat.le_of_ble_eq_true rfl) (c := 1) (fun _ => rfl) gn189 dX5_write_40 ?_
      refine go_iconst (v := (1 : Int32)) dX5_write_43 (by decide) ?_
      refine go_isub dX5_write_44 ?_
      refine go_callSZ (As := fun ad => [.int a2, .int (0 : Int32), .int ((u8.1 (kR e5) (kO e5 + 1)) - (1 : Int32))]) (g_X5_within a2 (0 : Int32) ((u8.1 (kR e5) (kO e5 + 1)) - (1 : Int32)) u8) mo_X5_within gw85 gw125 rfl ⟨Nat.le_of_ble_eq_true rfl, Nat.le_of_ble_eq_true rfl⟩ rfl (Nat.le_of_ble_eq_true rfl) dX5_write_45 (fun r9 u10 => ?_)
      refine go_ifz_ne (tgt := 59) dX5_write_48 (by decide) ?_ ?_
      · refine go_aload 0 rfl dX5_write_59 ?_
        refine go_iload_n 3 rfl dX5_write_61 rfl ?_
        refine go_callVL (As := fun ad => [.int a2]) (g_X2_numberAt e5 a2 u10) mv_X2_numberAt clX2 h6 gw192 rfl ⟨Nat.le_of_ble_eq_true rfl, Nat.le_of_ble_eq_true rfl⟩ rfl (Nat.le_of_ble_eq_true rfl) dX5_write_62 (fun r11 u12 => ?_)
        refine go_lstore (lv' := [(6, .long r11), (5, .ref (ad e5)), (0, .ref (ad 69)), (1, .int a1), (2, .int a2), (3, .long a3)]) dX5_write_65 (Nat.le_of_ble_eq_true rfl) rfl ?_
        refine go_aload 1 rfl dX5_write_67 ?_
        refine go_iload_n 4 rfl dX5_write_69 rfl ?_
        refine go_lload_n 5 rfl dX5_write_70 rfl ?_
        refine go_callVV (As := fun ad => [.int a2, .long a3]) (g_X2_put e5 a2 a3 u12) mv_X2_put clX2 h6 gw193 rfl ⟨Nat.le_of_ble_eq_true rfl, Nat.le_of_ble_eq_true rfl⟩ rfl (Nat.le_of_ble_eq_true rfl) dX5_write_71 (fun r13 u14 => ?_)
        refine go_lload 0 rfl dX5_write_74 ?_
        exact go_lret rfl dX5_write_76
      · refine go_aload_n 1 rfl dX5_write_51 rfl ?_
        refine go_ldc (v := (-1000000001 : Int32)) gw110 dX5_write_52 ?_
        refine go_callVI (As := fun ad => [.int (-1000000001 : Int32)]) (g_X5_found (-1000000001 : Int32) u10) mv_X5_found clX5 kt_69 gw117 rfl ⟨Nat.le_of_ble_eq_true rfl, Nat.le_of_ble_eq_true rfl⟩ rfl (Nat.le_of_ble_eq_true rfl) dX5_write_54 (fun r15 u16 => ?_)
        refine go_i2l dX5_write_57 ?_
        exact go_lret rfl dX5_write_58
    · refine go_aload_n 1 rfl dX5_write_28 rfl ?_
      refine go_ldc (v := (-1000000006 : Int32)) gw194 dX5_write_29 ?_
      refine go_callVI (As := fun ad => [.int (-1000000006 : Int32)]) (g_X5_found (-1000000006 : Int32) u8) mv_X5_found clX5 kt_69 gw117 rfl ⟨Nat.le_of_ble_eq_true rfl, Nat.le_of_ble_eq_true rfl⟩ rfl (Nat.le_of_ble_eq_true rfl) dX5_write_31 (fun r17 u18 => ?_)
      refine go_i2l dX5_write_34 ?_
      exact go_lret rfl dX5_write_35
