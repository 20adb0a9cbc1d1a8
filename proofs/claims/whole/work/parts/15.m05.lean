/-! methods: what each does to the world, and that its bytecode does so (laid by wip/whole/gen) -/
def f_X5_copy (a1 : Int32) (a2 : Int32) (a3 : Int32) (a4 : Int32) (a5 : Int32) (u : Uw) : Option (Int32 × Uw) :=
  bd (f_X5_sheetAt a1 u) fun r1 u2 =>
  ro r1
  (bd (f_X5_sheetAt a3 u2) fun r3 u4 =>
  ro r3
  (bd (f_X5_found (-1000000001 : Int32) u4) fun r5 u6 =>
  some (r5, u6))
  (fun e7 =>
  bd (f_X5_found (-1000000001 : Int32) u4) fun r8 u9 =>
  some (r8, u9)))
  (fun e10 =>
  bd (f_X5_sheetAt a3 u2) fun r11 u12 =>
  ro r11
  (bd (f_X5_found (-1000000001 : Int32) u12) fun r13 u14 =>
  some (r13, u14))
  (fun e15 =>
  ck (kT e10 == 2) <|
  bd (f_X2_isMissing e10 u12) fun r17 u18 =>
  if r17 = true then
  (bd (f_X5_found (-1000000006 : Int32) u18) fun r19 u20 =>
  some (r19, u20))
  else
  (ck (kT e15 == 2) <|
  bd (f_X2_isMissing e15 u18) fun r22 u23 =>
  if r22 = true then
  (bd (f_X5_found (-1000000006 : Int32) u23) fun r38 u39 =>
  some (r38, u39))
  else
  (if (u23.1 (kR e10) (kO e10 + 0)) = (u23.1 (kR e15) (kO e15 + 0)) then
  (bd (f_X2_hasRange e10 a2 a5 u23) fun r24 u25 =>
  if r24 = true then
  (bd (f_X2_hasRange e15 a4 a5 u25) fun r28 u29 =>
  if r28 = true then
  (ck (kT (e15 + 4) == 11) <|
  ck (kT (e10 + 4) == 11) <|
  ck (cpok a2 a4 a5 (kL (e10 + 4)) (kL (e15 + 4))) <|
  nm (cp2 u29 (fun i => u29.2 (kR (e10 + 4)) (a2.toNatClampNeg + i)) (kR (e15 + 4)) a4.toNatClampNeg a5.toNatClampNeg) fun u33 =>
  some (a5, u33))
  else
  (bd (f_X5_found (-1000000001 : Int32) u29) fun r34 u35 =>
  some (r34, u35)))
  else
  (bd (f_X5_found (-1000000001 : Int32) u25) fun r26 u27 =>
  some (r26, u27)))
  else
  (bd (f_X5_found (-1000000003 : Int32) u23) fun r36 u37 =>
  some (r36, u37))))))
set_option maxHeartbeats 4000000 in
set_option maxRecDepth 100000 in
theorem g_X5_copy (a1 : Int32) (a2 : Int32) (a3 : Int32) (a4 : Int32) (a5 : Int32) (u : Uw) : ∀ l, Con l yX5_copy mi_X5_copy ivI (fun ad => [.ref (ad 69), .int a1, .int a2, .int a3, .int a4, .int a5]) u (f_X5_copy a1 a2 a3 a4 a5 u) := by
  refine con_of (by decide) rfl (fun _ => Nat.le_of_ble_eq_true rfl) (fun X ad => ?_)
  show Go X ad mi_X5_copy ivI 0 [(0, .ref (ad 69)), (1, .int a1), (2, .int a2), (3, .int a3), (4, .int a4), (5, .int a5)] [] u (f_X5_copy a1 a2 a3 a4 a5 u)
  unfold f_X5_copy
  refine go_aload_n 0 rfl dX5_copy_0 rfl ?_
  refine go_iload_n 1 rfl dX5_copy_1 rfl ?_
  refine go_callVR (As := fun ad => [.int a1]) (g_X5_sheetAt a1 u) mv_X5_sheetAt clX5 kt_69 gw185 rfl ⟨Nat.le_of_ble_eq_true rfl, Nat.le_of_ble_eq_true rfl⟩ rfl (Nat.le_of_ble_eq_true rfl) dX5_copy_2 (fun r1 u2 => ?_)
  refine go_ro ?_ (fun e10 => ?_)
  · refine go_astoreN (lv' := [(6, .null), (0, .ref (ad 69)), (1, .int a1), (2, .int a2), (3, .int a3), (4, .int a4), (5, .int a5)]) dX5_copy_5 (Nat.le_of_ble_eq_true rfl) rfl ?_
    refine go_aload_n 1 rfl dX5_copy_7 rfl ?_
    refine go_iload_n 4 rfl dX5_copy_8 rfl ?_
    refine go_callVR (As := fun ad => [.int a3]) (g_X5_sheetAt a3 u2) mv_X5_sheetAt clX5 kt_69 gw185 rfl ⟨Nat.le_of_ble_eq_true rfl, Nat.le_of_ble_eq_true rfl⟩ rfl (Nat.le_of_ble_eq_true rfl) dX5_copy_9 (fun r3 u4 => ?_)
    refine go_ro ?_ (fun e7 => ?_)
    · refine go_astoreN (lv' := [(7, .null), (6, .null), (0, .ref (ad 69)), (1, .int a1), (2, .int a2), (3, .int a3), (4, .int a4), (5, .int a5)]) dX5_copy_12 (Nat.le_of_ble_eq_true rfl) rfl ?_
      refine go_aloadN 1 rfl dX5_copy_14 ?_
      refine go_ifnullN (tgt := 24) dX5_copy_16 (by decide) ?_
      refine go_aload_n 2 rfl dX5_copy_24 rfl ?_
      refine go_ldc (v := (-1000000001 : Int32)) gw110 dX5_copy_25 ?_
      refine go_callVI (As := fun ad => [.int (-1000000001 : Int32)]) (g_X5_found (-1000000001 : Int32) u4) mv_X5_found clX5 kt_69 gw117 rfl ⟨Nat.le_of_ble_eq_true rfl, Nat.le_of_ble_eq_true rfl⟩ rfl (Nat.le_of_ble_eq_true rfl) dX5_copy_27 (fun r5 u6 => ?_)
      exact go_iret rfl dX5_copy_30
    · refine go_astore (lv' := [(7, .ref (ad e7)), (6, .null), (0, .ref (ad 69)), (1, .int a1), (2, .int a2), (3, .int a3), (4, .int a4), (5, .int a5)]) dX5_copy_12 (Nat.le_of_ble_eq_true rfl) rfl ?_
      refine go_aloadN 1 rfl dX5_copy_14 ?_
      refine go_ifnullN (tgt := 24) dX5_copy_16 (by decide) ?_
      refine go_aload_n 2 rfl dX5_copy_24 rfl ?_
      refine go_ldc (v := (-1000000001 : Int32)) gw110 dX5_copy_25 ?_
      refine go_callVI (As := fun ad => [.int (-1000000001 : Int32)]) (g_X5_found (-1000000001 : Int32) u4) mv_X5_found clX5 kt_69 gw117 rfl ⟨Nat.le_of_ble_eq_true rfl, Nat.le_of_ble_eq_true rfl⟩ rfl (Nat.le_of_ble_eq_true rfl) dX5_copy_27 (fun r8 u9 => ?_)
      exact go_iret rfl dX5_copy_30
  · refine go_astore (lv' := [(6, .ref (ad e10)), (0, .ref (ad 69)), (1, .int a1), (2, .int a2), (3, .int a3), (4, .int a4), (5, .int a5)]) dX5_copy_5 (Nat.le_of_ble_eq_true rfl) rfl ?_
    refine go_aload_n 1 rfl dX5_copy_7 rfl ?_
    refine go_iload_n 4 rfl dX5_copy_8 rfl ?_
    refine go_callVR (As := fun ad => [.int a3]) (g_X5_sheetAt a3 u2) mv_X5_sheetAt clX5 kt_69 gw185 rfl ⟨Nat.le_of_ble_eq_true rfl, Nat.le_of_ble_eq_true rfl⟩ rfl (Nat.le_of_ble_eq_true rfl) dX5_copy_9 (fun r11 u12 => ?_)
    refine go_ro ?_ (fun e15 => ?_)
    · refine go_astoreN (lv' := [(7, .null), (6, .ref (ad e10)), (0, .ref (ad 69)), (1, .int a1), (2, .int a2), (3, .int a3), (4, .int a4), (5, .int a5)]) dX5_copy_12 (Nat.le_of_ble_eq_true rfl) rfl ?_
      refine go_aload 1 rfl dX5_copy_14 ?_
      refine go_ifnull dX5_copy_16 ?_
      refine go_aloadN 0 rfl dX5_copy_19 ?_
      refine go_ifnonnullN dX5_copy_21 ?_
      refine go_aload_n 2 rfl dX5_copy_24 rfl ?_
      refine go_ldc (v := (-1000000001 : Int32)) gw110 dX5_copy_25 ?_
      refine go_callVI (As := fun ad => [.int (-1000000001 : Int32)]) (g_X5_found (-1000000001 : Int32) u12) mv_X5_found clX5 kt_69 gw117 rfl ⟨Nat.le_of_ble_eq_true rfl, Nat.le_of_ble_eq_true rfl⟩ rfl (Nat.le_of_ble_eq_true rfl) dX5_copy_27 (fun r13 u14 => ?_)
      exact go_iret rfl dX5_copy_30
    · refine go_astore (lv' := [(7, .ref (ad e15)), (6, .ref (ad e10)), (0, .ref (ad 69)), (1, .int a1), (2, .int a2), (3, .int a3), (4, .int a4), (5, .int a5)]) dX5_copy_12 (Nat.le_of_ble_eq_true rfl) rfl ?_
      refine go_aload 1 rfl dX5_copy_14 ?_
      refine go_ifnull dX5_copy_16 ?_
      refine go_aload 0 rfl dX5_copy_19 ?_
      refine go_ifnonnull (tgt := 31) dX5_copy_21 (by decide) ?_
      refine go_aload 1 rfl dX5_copy_31 ?_
      refine go_ck (fun h16 => ?_)
      refine go_callVZ (As := fun ad => []) (g_X2_isMissing e10 u12) mv_X2_isMissing clX2 h16 gw191 rfl ⟨Nat.le_of_ble_eq_true rfl, Nat.le_of_ble_eq_true rfl⟩ rfl (Nat.le_of_ble_eq_true rfl) dX5_copy_33 (fun r17 u18 => ?_)
      refine go_ifz_ne (tgt := 47) dX5_copy_36 (by decide) ?_ ?_
      · refine go_aload_n 2 rfl dX5_copy_47 rfl ?_
        refine go_ldc (v := (-1000000006 : Int32)) gw194 dX5_copy_48 ?_
        refine go_callVI (As := fun ad => [.int (-1000000006 : Int32)]) (g_X5_found (-1000000006 : Int32) u18) mv_X5_found clX5 kt_69 gw117 rfl ⟨Nat.le_of_ble_eq_true rfl, Nat.le_of_ble_eq_true rfl⟩ rfl (Nat.le_of_ble_eq_true rfl) dX5_copy_50 (fun r19 u20 => ?_)
        exact go_iret rfl dX5_copy_53
      · refine go_aload 0 rfl dX5_copy_39 ?_
        refine go_ck (fun h21 => ?_)
        refine go_callVZ (As := fun ad => []) (g_X2_isMissing e15 u18) mv_X2_isMissing clX2 h21 gw191 rfl ⟨Nat.le_of_ble_eq_true rfl, Nat.le_of_ble_eq_true rfl⟩ rfl (Nat.le_of_ble_eq_true rfl) dX5_copy_41 (fun r22 u23 => ?_)
        refine go_ifz_eq (tgt := 54) dX5_copy_44 (by decide) ?_ ?_
        · refine go_aload 1 rfl dX5_copy_54 ?_
          refine go_getIN clX2 h16 0 (Nat.le_of_ble_eq_true rfl) (c := 0) (fun _ => rfl) gn195 dX5_copy_56 ?_
          refine go_aload 0 rfl dX5_copy_59 ?_
          refine go_getIN clX2 h21 0 (Nat.le_of_ble_eq_true rfl) (c := 0) (fun _ => rfl) gn195 dX5_copy_61 ?_
          refine go_icmp_eq (tgt := 74) dX5_copy_64 (by decide) ?_ ?_
          · refine go_aload 1 rfl dX5_copy_74 ?_
            refine go_iload_n 4 rfl dX5_copy_76 rfl ?_
            refine go_iload 7 rfl dX5_copy_77 ?_
            refine go_callVZ (As := fun ad => [.int a2, .int a5]) (g_X2_hasRange e10 a2 a5 u23) mv_X2_hasRange clX2 h16 gw196 rfl ⟨Nat.le_of_ble_eq_true rfl, Nat.le_of_ble_eq_true rfl⟩ rfl (Nat.le_of_ble_eq_true rfl) dX5_copy_79 (fun r24 u25 => ?_)
            refine go_ifz_eq (tgt := 97) dX5_copy_82 (by decide) ?_ ?_
            · refine go_aload_n 2 rfl dX5_copy_97 rfl ?_
              refine go_ldc (v := (-1000000001 : Int32)) gw110 dX5_copy_98 ?_
              refine go_callVI (As := fun ad => [.int (-1000000001 : Int32)]) (g_X5_found (-1000000001 : Int32) u25) mv_X5_found clX5 kt_69 gw117 rfl ⟨Nat.le_of_ble_eq_true rfl, Nat.le_of_ble_eq_true rfl⟩ rfl (Nat.le_of_ble_eq_true rfl) dX5_copy_100 (fun r26 u27 => ?_)
              exact go_iret rfl dX5_copy_103
            · refine go_aload 0 rfl dX5_copy_85 ?_
              refine go_iload 6 rfl dX5_copy_87 ?_
              refine go_iload 7 rfl dX5_copy_89 ?_
              refine go_callVZ (As := fun ad => [.int a4, .int a5]) (g_X2_hasRange e15 a4 a5 u25) mv_X2_hasRange clX2 h21 gw196 rfl ⟨Nat.le_of_ble_eq_true rfl, Nat.le_of_ble_eq_true rfl⟩ rfl (Nat.le_of_ble_eq_true rfl) dX5_copy_91 (fun r28 u29 => ?_)
              refine go_ifz_ne (tgt := 104) dX5_copy_94 (by decide) ?_ ?_
              · refine go_aload 1 rfl dX5_copy_104 ?_
                refine go_getRN clX2 h16 2 (Nat.le_of_ble_eq_true rfl) (f := (e10 + 4)) (fun _ => rfl) gn197 dX5_copy_106 ?_
                refine go_iload_n 4 rfl dX5_copy_109 rfl ?_
                refine go_aload 0 rfl dX5_copy_110 ?_
                refine go_getRN clX2 h21 2 (Nat.le_of_ble_eq_true rfl) (f := (e15 + 4)) (fun _ => rfl) gn197 dX5_copy_112 ?_
                refine go_iload 6 rfl dX5_copy_115 ?_
                refine go_iload 7 rfl dX5_copy_117 ?_
                refine go_ck (fun h30 => ?_)
                refine go_ck (fun h31 => ?_)
                refine go_ck (fun h32 => ?_)
                refine go_copyl h31 h30 h32 gw198 gw7 gw8 gw9 (Nat.le_of_ble_eq_true rfl) (Nat.le_of_ble_eq_true rfl) dX5_copy_119 ?_
                refine go_nmU (fun u33 => ?_)
                refine go_iload 7 rfl dX5_copy_122 ?_
                exact go_iret rfl dX5_copy_124
              · refine go_aload_n 2 rfl dX5_copy_97 rfl ?_
                refine go_ldc (v := (-1000000001 : Int32)) gw110 dX5_copy_98 ?_
                refine go_callVI (As := fun ad => [.int (-1000000001 : Int32)]) (g_X5_found (-1000000001 : Int32) u29) mv_X5_found clX5 kt_69 gw117 rfl ⟨Nat.le_of_ble_eq_true rfl, Nat.le_of_ble_eq_true rfl⟩ rfl (Nat.le_of_ble_eq_true rfl) dX5_copy_100 (fun r34 u35 => ?_)
                exact go_iret rfl dX5_copy_103
          · refine go_aload_n 2 rfl dX5_copy_67 rfl ?_
            refine go_ldc (v := (-1000000003 : Int32)) gw123 dX5_copy_68 ?_
            refine go_callVI (As := fun ad => [.int (-1000000003 : Int32)]) (g_X5_found (-1000000003 : Int32) u23) mv_X5_found clX5 kt_69 gw117 rfl ⟨Nat.le_of_ble_eq_true rfl, Nat.le_of_ble_eq_true rfl⟩ rfl (Nat.le_of_ble_eq_true rfl) dX5_copy_70 (fun r36 u37 => ?_)
            exact go_iret rfl dX5_copy_73
        · refine go_aload_n 2 rfl dX5_copy_47 rfl ?_
          refine go_ldc (v := (-1000000006 : Int32)) gw194 dX5_copy_48 ?_
          refine go_callVI (As := fun ad => [.int (-1000000006 : Int32)]) (g_X5_found (-1000000006 : Int32) u23) mv_X5_found clX5 kt_69 gw117 rfl ⟨Nat.le_of_ble_eq_true rfl, Nat.le_of_ble_eq_true rfl⟩ rfl (Nat.le_of_ble_eq_true rfl) dX5_copy_50 (fun r38 u39 => ?_)
          exact go_iret rfl dX5_copy_53
def b_X5_lays_36 (ih36 : Nat × Int32 × Int32 × Uw → Option (Int32 × Uw)) (s : Nat × Int32 × Int32 × Uw) : Option (Int32 × Uw) :=
  ck (kT s.1 == 2) <|
  if (s.2.2.2.1 (kR s.1) (kO s.1 + 1)) ≤ s.2.2.1 then
  (some (s.2.1, s.2.2.2))
  else
  (bd (f_X3_pilgrimAt 0 s.2.2.1 s.2.2.2) fun r10 u11 =>
  ro r10
  (bd (f_X2_numberAt s.1 s.2.2.1 u11) fun r12 u13 =>
  ih36 (s.1, s.2.1, (s.2.2.1 + (1 : Int32)), u13))
  (fun e14 =>
  bd (f_X2_numberAt s.1 s.2.2.1 u11) fun r15 u16 =>
  if (lg_cmp r15 (0 : Int64)) < 0 then
  (ih36 (s.1, s.2.1, (s.2.2.1 + (1 : Int32)), u16))
  else
  (if 0 < (lg_cmp r15 (99 : Int64)) then
  (ih36 (s.1, s.2.1, (s.2.2.1 + (1 : Int32)), u16))
  else
  (ck (kT e14 == 1) <|
  nm (w1 u16 (kR e14) (kO e14 + 0) (r15.toInt32)) fun u18 =>
  ih36 (s.1, (s.2.1 + (1 : Int32)), (s.2.2.1 + (1 : Int32)), u18)))))
def f_X5_lays (a1 : Int32) (u : Uw) : Option (Int32 × Uw) :=
  bd (f_X5_sheetAt a1 u) fun r1 u2 =>
  ro r1
  (bd (f_X5_found (-1000000001 : Int32) u2) fun r3 u4 =>
  some (r3, u4))
  (fun e5 =>
  ck (kT e5 == 2) <|
  bd (f_X2_isMissing e5 u2) fun r7 u8 =>
  if r7 = true then
  (bd (f_X5_found (-1000000006 : Int32) u8) fun r19 u20 =>
  some (r19, u20))
  else
  (lp b_X5_lays_36 2100 (e5, (0 : Int32), (0 : Int32), u8)))
set_option maxHeartbeats 4000000 in
set_option maxRecDepth 100000 in
theorem gl_X5_lays_36 (X : Cx) (ad : Nat → Nat) : ∀ (n : Nat) (s : Nat × Int32 × Int32 × Uw), Go X ad mi_X5_lays ivI 36 [(0, .ref (ad 69)), (2, .ref (ad s.1)), (3, .int s.2.1), (4, .int s.2.2.1)] [] s.2.2.2 (lp b_X5_lays_36 n s) := by
  refine go_lp (G := fun (s : Nat × Int32 × Int32 × Uw) o => Go X ad mi_X5_lays ivI 36 [(0, .ref (ad 69)), (2, .ref (ad s.1)), (3, .int s.2.1), (4, .int s.2.2.1)] [] s.2.2.2 o) (fun _ => go_none) (fun ih36 hih36 s => ?_)
  show Go X ad mi_X5_lays ivI 36 [(0, .ref (ad 69)), (2, .ref (ad s.1)), (3, .int s.2.1), (4, .int s.2.2.1)] [] s.2.2.2 (b_X5_lays_36 ih36 s)
  unfold b_X5_lays_36
  refine go_iload 3 rfl dX5_lays_36 ?_
  refine go_aload_n 1 rfl dX5_lays_38 rfl ?_
  refine go_ck (fun h9 => ?_)
  refine go_getIN clX2 h9 1 (Nat.le_of_ble_eq_true rfl) (c := 1) (fun _ => rfl) gn189 dX5_lays_39 ?_
  refine go_icmp_ge (tgt := 102) dX5_lays_42 (by decide) ?_ ?_
  · refine go_iload_n 2 rfl dX5_lays_102 rfl ?_
    exact go_iret rfl dX5_lays_103
  · refine go_aload_n 0 rfl dX5_lays_45 rfl ?_
    refine go_getR clX5 kt_69 0 (Nat.le_of_ble_eq_true rfl) (f := 0) (fun _ => rfl) gw113 dX5_lays_46 ?_
    refine go_iload 3 rfl dX5_lays_49 ?_
    refine go_callVR (As := fun ad => [.int s.2.2.1]) (g_X3_pilgrimAt 0 s.2.2.1 s.2.2.2) mv_X3_pilgrimAt clX3 kt_0 gw135 rfl ⟨Nat.le_of_ble_eq_true rfl, Nat.le_of_ble_eq_true rfl⟩ rfl (Nat.le_of_ble_eq_true rfl) dX5_lays_51 (fun r10 u11 => ?_)
    refine go_ro ?_ (fun e14 => ?_)
    · refine go_astoreN (lv' := [(5, .null), (0, .ref (ad 69)), (2, .ref (ad s.1)), (3, .int s.2.1), (4, .int s.2.2.1)]) dX5_lays_54 (Nat.le_of_ble_eq_true rfl) rfl ?_
      refine go_aload_n 2 rfl dX5_lays_56 rfl ?_
      refine go_iload 4 rfl dX5_lays_57 ?_
      refine go_callVL (As := fun ad => [.int s.2.2.1]) (g_X2_numberAt s.1 s.2.2.1 u11) mv_X2_numberAt clX2 h9 gw192 rfl ⟨Nat.le_of_ble_eq_true rfl, Nat.le_of_ble_eq_true rfl⟩ rfl (Nat.le_of_ble_eq_true rfl) dX5_lays_59 (fun r12 u13 => ?_)
      refine go_lstore (lv' := [(6, .long r12), (5, .null), (0, .ref (ad 69)), (2, .ref (ad s.1)), (3, .int s.2.1), (4, .int s.2.2.1)]) dX5_lays_62 (Nat.le_of_ble_eq_true rfl) rfl ?_
      refine go_aloadN 1 rfl dX5_lays_64 ?_
      refine go_ifnullN (tgt := 96) dX5_lays_66 (by decide) ?_
      refine go_iinc (v := (s.2.2.1 + (1 : Int32))) (lv' := [(4, .int (s.2.2.1 + (1 : Int32))), (6, .long r12), (5, .null), (0, .ref (ad 69)), (2, .ref (ad s.1)), (3, .int s.2.1)]) 5 rfl dX5_lays_96 rfl (Nat.le_of_ble_eq_true rfl) rfl ?_
      refine go_goto (tgt := 36) dX5_lays_99 (by decide) ?_
      exact go_sub [3, 4, 5, 0] rfl (hih36 (s.1, s.2.1, (s.2.2.1 + (1 : Int32)), u13))
    · refine go_astore (lv' := [(5, .ref (ad e14)), (0, .ref (ad 69)), (2, .ref (ad s.1)), (3, .int s.2.1), (4, .int s.2.2.1)]) dX5_lays_54 (Nat.le_of_ble_eq_true rfl) rfl ?_
      refine go_aload_n 2 rfl dX5_lays_56 rfl ?_
      refine go_iload 4 rfl dX5_lays_57 ?_
      refine go_callVL (As := fun ad => [.int s.2.2.1]) (g_X2_numberAt s.1 s.2.2.1 u11) mv_X2_numberAt clX2 h9 gw192 rfl ⟨Nat.le_of_ble_eq_true rfl, Nat.le_of_ble_eq_true rfl⟩ rfl (Nat.le_of_ble_eq_true rfl) dX5_lays_59 (fun r15 u16 => ?_)
      refine go_lstore (lv' := [(6, .long r15), (5, .ref (ad e14)), (0, .ref (ad 69)), (2, .ref (ad s.1)), (3, .int s.2.1), (4, .int s.2.2.1)]) dX5_lays_62 (Nat.le_of_ble_eq_true rfl) rfl ?_
      refine go_aload 1 rfl dX5_lays_64 ?_
      refine go_ifnull dX5_lays_66 ?_
      refine go_lload 0 rfl dX5_lays_69 ?_
      refine go_lconst (v := (0 : Int64)) dX5_lays_71 (by decide) ?_
      refine go_lcmp dX5_lays_72 ?_
      refine go_if_lt (tgt := 96) dX5_lays_73 (by decide) ?_ ?_
      · refine go_iinc (v := (s.2.2.1 + (1 : Int32))) (lv' := [(4, .int (s.2.2.1 + (1 : Int32))), (6, .long r15), (5, .ref (ad e14)), (0, .ref (ad 69)), (2, .ref (ad s.1)), (3, .int s.2.1)]) 5 rfl dX5_lays_96 rfl (Nat.le_of_ble_eq_true rfl) rfl ?_
        refine go_goto (tgt := 36) dX5_lays_99 (by decide) ?_
        exact go_sub [3, 4, 5, 0] rfl (hih36 (s.1, s.2.1, (s.2.2.1 + (1 : Int32)), u16))
      · refine go_lload 0 rfl dX5_lays_76 ?_
        refine go_ldc2 (v := (99 : Int64)) gw199 dX5_lays_78 ?_
        refine go_lcmp dX5_lays_81 ?_
        refine go_if_gt (tgt := 96) dX5_lays_82 (by decide) ?_ ?_
        · refine go_iinc (v := (s.2.2.1 + (1 : Int32))) (lv' := [(4, .int (s.2.2.1 + (1 : Int32))), (6, .long r15), (5, .ref (ad e14)), (0, .ref (ad 69)), (2, .ref (ad s.1)), (3, .int s.2.1)]) 5 rfl dX5_lays_96 rfl (Nat.le_of_ble_eq_true rfl) rfl ?_
          refine go_goto (tgt := 36) dX5_lays_99 (by decide) ?_
          exact go_sub [3, 4, 5, 0] rfl (hih36 (s.1, s.2.1, (s.2.2.1 + (1 : Int32)), u16))
        · refine go_aload 1 rfl dX5_lays_85 ?_
          refine go_lload 0 rfl dX5_lays_87 ?_
          refine go_l2i dX5_lays_89 ?_
          refine go_ck (fun h17 => ?_)
          refine go_putIN clX1 h17 0 (Nat.le_of_ble_eq_true rfl) (c := 0) (fun _ => rfl) (by decide) (fty := .int) (tyX1_ok 0 (Nat.le_of_ble_eq_true rfl)) rfl rfl rfl (fun _ => Nat.le_of_ble_eq_true rfl) gn138 dX5_lays_90 ?_
          refine go_nmU (fun u18 => ?_)
          refine go_iinc (v := (s.2.1 + (1 : Int32))) (lv' := [(3, .int (s.2.1 + (1 : Int32))), (6, .long r15), (5, .ref (ad e14)), (0, .ref (ad 69)), (2, .ref (ad s.1)), (4, .int s.2.2.1)]) 4 rfl dX5_lays_93 rfl (Nat.le_of_ble_eq_true rfl) rfl ?_
          refine go_iinc (v := (s.2.2.1 + (1 : Int32))) (lv' := [(4, .int (s.2.2.1 + (1 : Int32))), (3, .int (s.2.1 + (1 : Int32))), (6, .long r15), (5, .ref (ad e14)), (0, .ref (ad 69)), (2, .ref (ad s.1))]) 5 rfl dX5_lays_96 rfl (Nat.le_of_ble_eq_true rfl) rfl ?_
          refine go_goto (tgt := 36) dX5_lays_99 (by decide) ?_
          exact go_sub [4, 5, 1, 0] rfl (hih36 (s.1, (s.2.1 + (1 : Int32)), (s.2.2.1 + (1 : Int32)), u18))
set_option maxHeartbeats 4000000 in
set_option maxRecDepth 100000 in
theorem g_X5_lays (a1 : Int32) (u : Uw) : ∀ l, Con l yX5_lays mi_X5_lays ivI (fun ad => [.ref (ad 69), .int a1]) u (f_X5_lays a1 u) := by
  refine con_of (by decide) rfl (fun _ => Nat.le_of_ble_eq_true rfl) (fun X ad => ?_)
  show Go X ad mi_X5_lays ivI 0 [(0, .ref (ad 69)), (1, .int a1)] [] u (f_X5_lays a1 u)
  unfold f_X5_lays
  refine go_aload_n 0 rfl dX5_lays_0 rfl ?_
  refine go_iload_n 1 rfl dX5_lays_1 rfl ?_
  refine go_callVR (As := fun ad => [.int a1]) (g_X5_sheetAt a1 u) mv_X5_sheetAt clX5 kt_69 gw185 rfl ⟨Nat.le_of_ble_eq_true rfl, Nat.le_of_ble_eq_true rfl⟩ rfl (Nat.le_of_ble_eq_true rfl) dX5_lays_2 (fun r1 u2 => ?_)
  refine go_ro ?_ (fun e5 => ?_)
  · refine go_astore_nN (lv' := [(2, .null), (0, .ref (ad 69)), (1, .int a1)]) dX5_lays_5 rfl (Nat.le_of_ble_eq_true rfl) rfl ?_
    refine go_aload_nN 0 rfl dX5_lays_6 rfl ?_
    refine go_ifnonnullN dX5_lays_7 ?_
    refine go_aload_n 1 rfl dX5_lays_10 rfl ?_
    refine go_ldc (v := (-1000000001 : Int32)) gw110 dX5_lays_11 ?_
    refine go_callVI (As := fun ad => [.int (-1000000001 : Int32)]) (g_X5_found (-1000000001 : Int32) u2) mv_X5_found clX5 kt_69 gw117 rfl ⟨Nat.le_of_ble_eq_true rfl, Nat.le_of_ble_eq_true rfl⟩ rfl (Nat.le_of_ble_eq_true rfl) dX5_lays_13 (fun r3 u4 => ?_)
    exact go_iret rfl dX5_lays_16
  · refine go_astore_n (lv' := [(2, .ref (ad e5)), (0, .ref (ad 69)), (1, .int a1)]) dX5_lays_5 rfl (Nat.le_of_ble_eq_true rfl) rfl ?_
    refine go_aload_n 0 rfl dX5_lays_6 rfl ?_
    refine go_ifnonnull (tgt := 17) dX5_lays_7 (by decide) ?_
    refine go_aload_n 0 rfl dX5_lays_17 rfl ?_
    refine go_ck (fun h6 => ?_)
    refine go_callVZ (As := fun ad => []) (g_X2_isMissing e5 u2) mv_X2_isMissing clX2 h6 gw191 rfl ⟨Nat.le_of_ble_eq_true rfl, Nat.le_of_ble_eq_true rfl⟩ rfl (Nat.le_of_ble_eq_true rfl) dX5_lays_18 (fun r7 u8 => ?_)
    refine go_ifz_eq (tgt := 31) dX5_lays_21 (by decide) ?_ ?_
    · refine go_iconst (v := (0 : Int32)) dX5_lays_31 (by decide) ?_
      refine go_istore_n (lv' := [(3, .int (0 : Int32)), (2, .ref (ad e5)), (0, .ref (ad 69)), (1, .int a1)]) dX5_lays_32 rfl (Nat.le_of_ble_eq_true rfl) rfl ?_
      refine go_iconst (v := (0 : Int32)) dX5_lays_33 (by decide) ?_
      refine go_istore (lv' := [(4, .int (0 : Int32)), (3, .int (0 : Int32)), (2, .ref (ad e5)), (0, .ref (ad 69)), (1, .int a1)]) dX5_lays_34 (Nat.le_of_ble_eq_true rfl) rfl ?_
      exact go_sub [3, 2, 1, 0] rfl (gl_X5_lays_36 X ad  2100 (e5, (0 : Int32), (0 : Int32), u8))
    · refine go_aload_n 1 rfl dX5_lays_24 rfl ?_
      refine go_ldc (v := (-1000000006 : Int32)) gw194 dX5_lays_25 ?_
      refine go_callVI (As := fun ad => [.int (-1000000006 : Int32)]) (g_X5_found (-1000000006 : Int32) u8) mv_X5_found clX5 kt_69 gw117 rfl ⟨Nat.le_of_ble_eq_true rfl, Nat.le_of_ble_eq_true rfl⟩ rfl (Nat.le_of_ble_eq_true rfl) dX5_lays_27 (fun r19 u20 => ?_)
      exact go_iret rfl dX5_lays_30
def b_X5_book_73 (ih73 : Nat × Int32 × Uw → Option (Int32 × Uw)) (s : Nat × Int32 × Uw) : Option (Int32 × Uw) :=
  ck (kT s.1 == 2) <|
  if (s.2.2.1 (kR s.1) (kO s.1 + 1)) ≤ s.2.1 then
  (some ((s.2.2.1 (kR s.1) (kO s.1 + 1)), s.2.2))
  else
  (if (400 : Int32) ≤ s.2.1 then
  (some ((s.2.2.1 (kR s.1) (kO s.1 + 1)), s.2.2))
  else
  (bd (f_X2_put s.1 s.2.1 ((s.2.2.1 5 0).toInt64) s.2.2) fun r19 u20 =>
  ck (inb s.2.1 400) <|
  nm (u20.1 4 s.2.1.toNatClampNeg) fun x22 =>
  bd (f_X1_passDay 83 x22 (u20.1 0 4) (u20.1 0 3) u20) fun r23 u24 =>
  ih73 (s.1, (s.2.1 + (1 : Int32)), u24)))
def f_X5_book (a1 : Int32) (a2 : Int32) (u : Uw) : Option (Int32 × Uw) :=
  bd (f_X5_sheetAt a1 u) fun r1 u2 =>
  ro r1
  (bd (f_X5_found (-1000000001 : Int32) u2) fun r3 u4 =>
  some (r3, u4))
  (fun e5 =>
  ck (kT e5 == 2) <|
  bd (f_X2_isMissing e5 u2) fun r7 u8 =>
  if r7 = true then
  (bd (f_X5_found (-1000000006 : Int32) u8) fun r25 u26 =>
  some (r25, u26))
  else
  (bd (f_X3_pilgrimAt 0 a2 u8) fun r9 u10 =>
  ro r9
  (bd (f_X5_found (-1000000001 : Int32) u10) fun r11 u12 =>
  some (r11, u12))
  (fun e13 =>
  bd (f_X5_lookAhead (u10.1 (kR e5) (kO e5 + 1)) u10) fun r14 u15 =>
  bd (f_X1_become 83 e13 u15) fun r16 u17 =>
  lp b_X5_book_73 2100 (e5, (0 : Int32), u17))))
set_option maxHeartbeats 4000000 in
set_option maxRecDepth 100000 in
theorem gl_X5_book_73 (X : Cx) (ad : Nat → Nat) : ∀ (n : Nat) (s : Nat × Int32 × Uw), Go X ad mi_X5_book ivI 73 [(0, .ref (ad 69)), (3, .ref (ad s.1)), (5, .int s.2.1)] [] s.2.2 (lp b_X5_book_73 n s) := by
  refine go_lp (G := fun (s : Nat × Int32 × Uw) o => Go X ad mi_X5_book ivI 73 [(0, .ref (ad 69)), (3, .ref (ad s.1)), (5, .int s.2.1)] [] s.2.2 o) (fun _ => go_none) (fun ih73 hih73 s => ?_)
  show Go X ad mi_X5_book ivI 73 [(0, .ref (ad 69)), (3, .ref (ad s.1)), (5, .int s.2.1)] [] s.2.2 (b_X5_book_73 ih73 s)
  unfold b_X5_book_73
  refine go_iload 2 rfl dX5_book_73 ?_
  refine go_aload_n 1 rfl dX5_book_75 rfl ?_
  refine go_ck (fun h18 => ?_)
  refine go_getIN clX2 h18 1 (Nat.le_of_ble_eq_true rfl) (c := 1) (fun _ => rfl) gn189 dX5_book_76 ?_
  refine go_icmp_ge (tgt := 140) dX5_book_79 (by decide) ?_ ?_
  · refine go_aload_n 1 rfl dX5_book_140 rfl ?_
    refine go_getIN clX2 h18 1 (Nat.le_of_ble_eq_true rfl) (c := 1) (fun _ => rfl) gn189 dX5_book_141 ?_
    exact go_iret rfl dX5_book_144
  · refine go_iload 2 rfl dX5_book_82 ?_
    refine go_aload_n 0 rfl dX5_book_84 rfl ?_
    refine go_getR clX5 kt_69 6 (Nat.le_of_ble_eq_true rfl) (f := 82) (fun _ => rfl) gw155 dX5_book_85 ?_
    refine go_alen10 (v := (400 : Int32)) kt_82 (by rw [kl_82]; decide) dX5_book_88 ?_
    refine go_icmp_ge (tgt := 140) dX5_book_89 (by decide) ?_ ?_
    · refine go_aload_n 1 rfl dX5_book_140 rfl ?_
      refine go_getIN clX2 h18 1 (Nat.le_of_ble_eq_true rfl) (c := 1) (fun _ => rfl) gn189 dX5_book_141 ?_
      exact go_iret rfl dX5_book_144
    · refine go_aload_n 1 rfl dX5_book_92 rfl ?_
      refine go_iload 2 rfl dX5_book_93 ?_
      refine go_aload_n 0 rfl dX5_book_95 rfl ?_
      refine go_getR clX5 kt_69 7 (Nat.le_of_ble_eq_true rfl) (f := 83) (fun _ => rfl) gw157 dX5_book_96 ?_
      refine go_getILN clX1 kt_83 0 (Nat.le_of_ble_eq_true rfl) (c := 0) (fun _ => rfl) kr_83 gn138 dX5_book_99 ?_
      refine go_i2l dX5_book_102 ?_
      refine go_callVV (As := fun ad => [.int s.2.1, .long ((s.2.2.1 5 0).toInt64)]) (g_X2_put s.1 s.2.1 ((s.2.2.1 5 0).toInt64) s.2.2) mv_X2_put clX2 h18 gw193 rfl ⟨Nat.le_of_ble_eq_true rfl, Nat.le_of_ble_eq_true rfl⟩ rfl (Nat.le_of_ble_eq_true rfl) dX5_book_103 (fun r19 u20 => ?_)
      refine go_aload_n 0 rfl dX5_book_106 rfl ?_
      refine go_getR clX5 kt_69 7 (Nat.le_of_ble_eq_true rfl) (f := 83) (fun _ => rfl) gw157 dX5_book_107 ?_
      refine go_aload_n 0 rfl dX5_book_110 rfl ?_
      refine go_getR clX5 kt_69 6 (Nat.le_of_ble_eq_true rfl) (f := 82) (fun _ => rfl) gw155 dX5_book_111 ?_
      refine go_iload 2 rfl dX5_book_114 ?_
      refine go_ck (fun h21 => ?_)
      refine go_ialdL kt_82 kr_82 kl_82 h21 dX5_book_116 ?_
      refine go_nm (fun x22 => ?_)
      refine go_aload_n 0 rfl dX5_book_117 rfl ?_
      refine go_getR clX5 kt_69 0 (Nat.le_of_ble_eq_true rfl) (f := 0) (fun _ => rfl) gw113 dX5_book_118 ?_
      refine go_getILN clX3 kt_0 2 (Nat.le_of_ble_eq_true rfl) (c := 4) (fun _ => rfl) kr_0 gn130 dX5_book_121 ?_
      refine go_aload_n 0 rfl dX5_book_124 rfl ?_
      refine go_getR clX5 kt_69 0 (Nat.le_of_ble_eq_true rfl) (f := 0) (fun _ => rfl) gw113 dX5_book_125 ?_
      refine go_getILN clX3 kt_0 1 (Nat.le_of_ble_eq_true rfl) (c := 3) (fun _ => rfl) kr_0 gn131 dX5_book_128 ?_
      refine go_callVV (As := fun ad => [.int x22, .int (u20.1 0 4), .int (u20.1 0 3)]) (g_X1_passDay 83 x22 (u20.1 0 4) (u20.1 0 3) u20) mv_X1_passDay clX1 kt_83 gw159 rfl ⟨Nat.le_of_ble_eq_true rfl, Nat.le_of_ble_eq_true rfl⟩ rfl (Nat.le_of_ble_eq_true rfl) dX5_book_131 (fun r23 u24 => ?_)
      refine go_iinc (v := (s.2.1 + (1 : Int32))) (lv' := [(5, .int (s.2.1 + (1 : Int32))), (0, .ref (ad 69)), (3, .ref (ad s.1))]) 2 rfl dX5_book_134 rfl (Nat.le_of_ble_eq_true rfl) rfl ?_
      refine go_goto (tgt := 73) dX5_book_137 (by decide) ?_
      exact go_sub [1, 2, 0] rfl (hih73 (s.1, (s.2.1 + (1 : Int32)), u24))
set_option maxHeartbeats 4000000 in
set_option maxRecDepth 100000 in
theorem g_X5_book (a1 : Int32) (a2 : Int32) (u : Uw) : ∀ l, Con l yX5_book mi_X5_book ivI (fun ad => [.ref (ad 69), .int a1, .int a2]) u (f_X5_book a1 a2 u) := by
  refine con_of (by decide) rfl (fun _ => Nat.le_of_ble_eq_true rfl) (fun X ad => ?_)
  show Go X ad mi_X5_book ivI 0 [(0, .ref (ad 69)), (1, .int a1), (2, .int a2)] [] u (f_X5_book a1 a2 u)
  unfold f_X5_book
  refine go_aload_n 0 rfl dX5_book_0 rfl ?_
  refine go_iload_n 1 rfl dX5_book_1 rfl ?_
  refine go_callVR (As := fun ad => [.int a1]) (g_X5_sheetAt a1 u) mv_X5_sheetAt clX5 kt_69 gw185 rfl ⟨Nat.le_of_ble_eq_true rfl, Nat.le_of_ble_eq_true rfl⟩ rfl (Nat.le_of_ble_eq_true rfl) dX5_book_2 (fun r1 u2 => ?_)
  refine go_ro ?_ (fun e5 => ?_)
  · refine go_astore_nN (lv' := [(3, .null), (0, .ref (ad 69)), (1, .int a1), (2, .int a2)]) dX5_book_5 rfl (Nat.le_of_ble_eq_true rfl) rfl ?_
    refine go_aload_nN 0 rfl dX5_book_6 rfl ?_
    refine go_ifnonnullN dX5_book_7 ?_
    refine go_aload_n 1 rfl dX5_book_10 rfl ?_
    refine go_ldc (v := (-1000000001 : Int32)) gw110 dX5_book_11 ?_
    refine go_callVI (As := fun ad => [.int (-1000000001 : Int32)]) (g_X5_found (-1000000001 : Int32) u2) mv_X5_found clX5 kt_69 gw117 rfl ⟨Nat.le_of_ble_eq_true rfl, Nat.le_of_ble_eq_true rfl⟩ rfl (Nat.le_of_ble_eq_true rfl) dX5_book_13 (fun r3 u4 => ?_)
    exact go_iret rfl dX5_book_16
  · refine go_astore_n (lv' := [(3, .ref (ad e5)), (0, .ref (ad 69)), (1, .int a1), (2, .int a2)]) dX5_book_5 rfl (Nat.le_of_ble_eq_true rfl) rfl ?_
    refine go_aload_n 0 rfl dX5_book_6 rfl ?_
    refine go_ifnonnull (tgt := 17) dX5_book_7 (by decide) ?_
    refine go_aload_n 0 rfl dX5_book_17 rfl ?_
    refine go_ck (fun h6 => ?_)
    refine go_callVZ (As := fun ad => []) (g_X2_isMissing e5 u2) mv_X2_isMissing clX2 h6 gw191 rfl ⟨Nat.le_of_ble_eq_true rfl, Nat.le_of_ble_eq_true rfl⟩ rfl (Nat.le_of_ble_eq_true rfl) dX5_book_18 (fun r7 u8 => ?_)
    refine go_ifz_eq (tgt := 31) dX5_book_21 (by decide) ?_ ?_
    · refine go_aload_n 1 rfl dX5_book_31 rfl ?_
      refine go_getR clX5 kt_69 0 (Nat.le_of_ble_eq_true rfl) (f := 0) (fun _ => rfl) gw113 dX5_book_32 ?_
      refine go_iload_n 3 rfl dX5_book_35 rfl ?_
      refine go_callVR (As := fun ad => [.int a2]) (g_X3_pilgrimAt 0 a2 u8) mv_X3_pilgrimAt clX3 kt_0 gw135 rfl ⟨Nat.le_of_ble_eq_true rfl, Nat.le_of_ble_eq_true rfl⟩ rfl (Nat.le_of_ble_eq_true rfl) dX5_book_36 (fun r9 u10 => ?_)
      refine go_ro ?_ (fun e13 => ?_)
      · refine go_astoreN (lv' := [(4, .null), (3, .ref (ad e5)), (0, .ref (ad 69)), (1, .int a1), (2, .int a2)]) dX5_book_39 (Nat.le_of_ble_eq_true rfl) rfl ?_
        refine go_aloadN 0 rfl dX5_book_41 ?_
        refine go_ifnonnullN dX5_book_43 ?_
        refine go_aload_n 2 rfl dX5_book_46 rfl ?_
        refine go_ldc (v := (-1000000001 : Int32)) gw110 dX5_book_47 ?_
        refine go_callVI (As := fun ad => [.int (-1000000001 : Int32)]) (g_X5_found (-1000000001 : Int32) u10) mv_X5_found clX5 kt_69 gw117 rfl ⟨Nat.le_of_ble_eq_true rfl, Nat.le_of_ble_eq_true rfl⟩ rfl (Nat.le_of_ble_eq_true rfl) dX5_book_49 (fun r11 u12 => ?_)
        exact go_iret rfl dX5_book_52
      · refine go_astore (lv' := [(4, .ref (ad e13)), (3, .ref (ad e5)), (0, .ref (ad 69)), (1, .int a1), (2, .int a2)]) dX5_book_39 (Nat.le_of_ble_eq_true rfl) rfl ?_
        refine go_aload 0 rfl dX5_book_41 ?_
        refine go_ifnonnull (tgt := 53) dX5_book_43 (by decide) ?_
        refine go_aload_n 2 rfl dX5_book_53 rfl ?_
        refine go_aload_n 1 rfl dX5_book_54 rfl ?_
        refine go_getIN clX2 h6 1 (Nat.le_of_ble_eq_true rfl) (c := 1) (fun _ => rfl) gn189 dX5_book_55 ?_
        refine go_callVV (As := fun ad => [.int (u10.1 (kR e5) (kO e5 + 1))]) (g_X5_lookAhead (u10.1 (kR e5) (kO e5 + 1)) u10) mv_X5_lookAhead clX5 kt_69 gw160 rfl ⟨Nat.le_of_ble_eq_true rfl, Nat.le_of_ble_eq_true rfl⟩ rfl (Nat.le_of_ble_eq_true rfl) dX5_book_58 (fun r14 u15 => ?_)
        refine go_aload_n 2 rfl dX5_book_61 rfl ?_
        refine go_getR clX5 kt_69 7 (Nat.le_of_ble_eq_true rfl) (f := 83) (fun _ => rfl) gw157 dX5_book_62 ?_
        refine go_aload 0 rfl dX5_book_65 ?_
        refine go_callVV (As := fun ad => [.ref (ad e13)]) (g_X1_become 83 e13 u15) mv_X1_become clX1 kt_83 gw158 rfl ⟨Nat.le_of_ble_eq_true rfl, Nat.le_of_ble_eq_true rfl⟩ rfl (Nat.le_of_ble_eq_true rfl) dX5_book_67 (fun r16 u17 => ?_)
        refine go_iconst (v := (0 : Int32)) dX5_book_70 (by decide) ?_
        refine go_istore (lv' := [(5, .int (0 : Int32)), (4, .ref (ad e13)), (3, .ref (ad e5)), (0, .ref (ad 69)), (1, .int a1), (2, .int a2)]) dX5_book_71 (Nat.le_of_ble_eq_true rfl) rfl ?_
        exact go_sub [3, 2, 0] rfl (gl_X5_book_73 X ad  2100 (e5, (0 : Int32), u17))
    · refine go_aload_n 1 rfl dX5_book_24 rfl ?_
      refine go_ldc (v := (-1000000006 : Int32)) gw194 dX5_book_25 ?_
      refine go_callVI (As := fun ad => [.int (-1000000006 : Int32)]) (g_X5_found (-1000000006 : Int32) u8) mv_X5_found clX5 kt_69 gw117 rfl ⟨Nat.le_of_ble_eq_true rfl, Nat.le_of_ble_eq_true rfl⟩ rfl (Nat.le_of_ble_eq_true rfl) dX5_book_27 (fun r25 u26 => ?_)
      exact go_iret rfl dX5_book_30
def b_X5_makesJustSo_20 (ih20 : Nat × Int32 × Int32 × Uw → Option (Bool × Uw)) (s : Nat × Int32 × Int32 × Uw) : Option (Bool × Uw) :=
  ck (kT s.1 == 2) <|
  if (s.2.2.2.1 (kR s.1) (kO s.1 + 1)) ≤ s.2.2.1 then
  (some (true, s.2.2.2))
  else
  (if (400 : Int32) ≤ s.2.2.1 then
  (some (true, s.2.2.2))
  else
  (bd (f_X2_numberAt s.1 s.2.2.1 s.2.2.2) fun r5 u6 =>
  if (lg_cmp r5 ((u6.1 5 0).toInt64)) = 0 then
  (ck (inb s.2.2.1 400) <|
  nm (u6.1 4 s.2.2.1.toNatClampNeg) fun x8 =>
  bd (f_X1_passDay 83 x8 s.2.1 (u6.1 0 3) u6) fun r9 u10 =>
  ih20 (s.1, s.2.1, (s.2.2.1 + (1 : Int32)), u10))
  else
  (some (false, u6))))
def f_X5_makesJustSo (a1 : Nat) (a2 : Nat) (a3 : Int32) (a4 : Int32) (u : Uw) : Option (Bool × Uw) :=
  bd (f_X1_become 83 a2 u) fun r1 u2 =>
  nm (w1 u2 5 1 a4) fun u3 =>
  lp b_X5_makesJustSo_20 2100 (a1, a3, (0 : Int32), u3)
set_option maxHeartbeats 4000000 in
set_option maxRecDepth 100000 in
theorem gl_X5_makesJustSo_20 (X : Cx) (ad : Nat → Nat) : ∀ (n : Nat) (s : Nat × Int32 × Int32 × Uw), Go X ad mi_X5_makesJustSo ivZ 20 [(0, .ref (ad 69)), (1, .ref (ad s.1)), (3, .int s.2.1), (5, .int s.2.2.1)] [] s.2.2.2 (lp b_X5_makesJustSo_20 n s) := by
  refine go_lp (G := fun (s : Nat × Int32 × Int32 × Uw) o => Go X ad mi_X5_makesJustSo ivZ 20 [(0, .ref (ad 69)), (1, .ref (ad s.1)), (3, .int s.2.1), (5, .int s.2.2.1)] [] s.2.2.2 o) (fun _ => go_none) (fun ih20 hih20 s => ?_)
  show Go X ad mi_X5_makesJustSo ivZ 20 [(0, .ref (ad 69)), (1, .ref (ad s.1)), (3, .int s.2.1), (5, .int s.2.2.1)] [] s.2.2.2 (b_X5_makesJustSo_20 ih20 s)
  unfold b_X5_makesJustSo_20
  refine go_iload 3 rfl dX5_makesJustSo_20 ?_
  refine go_aload_n 1 rfl dX5_makesJustSo_22 rfl ?_
  refine go_ck (fun h4 => ?_)
  refine go_getIN clX2 h4 1 (Nat.le_of_ble_eq_true rfl) (c := 1) (fun _ => rfl) gn189 dX5_makesJustSo_23 ?_
  refine go_icmp_ge (tgt := 87) dX5_makesJustSo_26 (by decide) ?_ ?_
  · refine go_iconst (v := (1 : Int32)) dX5_makesJustSo_87 (by decide) ?_
    exact go_zret (b := true) rfl dX5_makesJustSo_88
  · refine go_iload 3 rfl dX5_makesJustSo_29 ?_
    refine go_aload_n 0 rfl dX5_makesJustSo_31 rfl ?_
    refine go_getR clX5 kt_69 6 (Nat.le_of_ble_eq_true rfl) (f := 82) (fun _ => rfl) gw155 dX5_makesJustSo_32 ?_
    refine go_alen10 (v := (400 : Int32)) kt_82 (by rw [kl_82]; decide) dX5_makesJustSo_35 ?_
    refine go_icmp_ge (tgt := 87) dX5_makesJustSo_36 (by decide) ?_ ?_
    · refine go_iconst (v := (1 : Int32)) dX5_makesJustSo_87 (by decide) ?_
      exact go_zret (b := true) rfl dX5_makesJustSo_88
    · refine go_aload_n 1 rfl dX5_makesJustSo_39 rfl ?_
      refine go_iload 3 rfl dX5_makesJustSo_40 ?_
      refine go_callVL (As := fun ad => [.int s.2.2.1]) (g_X2_numberAt s.1 s.2.2.1 s.2.2.2) mv_X2_numberAt clX2 h4 gw192 rfl ⟨Nat.le_of_ble_eq_true rfl, Nat.le_of_ble_eq_true rfl⟩ rfl (Nat.le_of_ble_eq_true rfl) dX5_makesJustSo_42 (fun r5 u6 => ?_)
      refine go_aload_n 0 rfl dX5_makesJustSo_45 rfl ?_
      refine go_getR clX5 kt_69 7 (Nat.le_of_ble_eq_true rfl) (f := 83) (fun _ => rfl) gw157 dX5_makesJustSo_46 ?_
      refine go_getILN clX1 kt_83 0 (Nat.le_of_ble_eq_true rfl) (c := 0) (fun _ => rfl) kr_83 gn138 dX5_makesJustSo_49 ?_
      refine go_i2l dX5_makesJustSo_52 ?_
      refine go_lcmp dX5_makesJustSo_53 ?_
      refine go_if_eq (tgt := 59) dX5_makesJustSo_54 (by decide) ?_ ?_
      · refine go_aload_n 0 rfl dX5_makesJustSo_59 rfl ?_
        refine go_getR clX5 kt_69 7 (Nat.le_of_ble_eq_true rfl) (f := 83) (fun _ => rfl) gw157 dX5_makesJustSo_60 ?_
        refine go_aload_n 0 rfl dX5_makesJustSo_63 rfl ?_
        refine go_getR clX5 kt_69 6 (Nat.le_of_ble_eq_true rfl) (f := 82) (fun _ => rfl) gw155 dX5_makesJustSo_64 ?_
        refine go_iload 3 rfl dX5_makesJustSo_67 ?_
        refine go_ck (fun h7 => ?_)
        refine go_ialdL kt_82 kr_82 kl_82 h7 dX5_makesJustSo_69 ?_
        refine go_nm (fun x8 => ?_)
        refine go_iload_n 2 rfl dX5_makesJustSo_70 rfl ?_
        refine go_aload_n 0 rfl dX5_makesJustSo_71 rfl ?_
        refine go_getR clX5 kt_69 0 (Nat.le_of_ble_eq_true rfl) (f := 0) (fun _ => rfl) gw113 dX5_makesJustSo_72 ?_
        refine go_getILN clX3 kt_0 1 (Nat.le_of_ble_eq_true rfl) (c := 3) (fun _ => rfl) kr_0 gn131 dX5_makesJustSo_75 ?_
        refine go_callVV (As := fun ad => [.int x8, .int s.2.1, .int (u6.1 0 3)]) (g_X1_passDay 83 x8 s.2.1 (u6.1 0 3) u6) mv_X1_passDay clX1 kt_83 gw159 rfl ⟨Nat.le_of_ble_eq_true rfl, Nat.le_of_ble_eq_true rfl⟩ rfl (Nat.le_of_ble_eq_true rfl) dX5_makesJustSo_78 (fun r9 u10 => ?_)
        refine go_iinc (v := (s.2.2.1 + (1 : Int32))) (lv' := [(5, .int (s.2.2.1 + (1 : Int32))), (0, .ref (ad 69)), (1, .ref (ad s.1)), (3, .int s.2.1)]) 3 rfl dX5_makesJustSo_81 rfl (Nat.le_of_ble_eq_true rfl) rfl ?_
        refine go_goto (tgt := 20) dX5_makesJustSo_84 (by decide) ?_
        exact go_sub [1, 2, 3, 0] rfl (hih20 (s.1, s.2.1, (s.2.2.1 + (1 : Int32)), u10))
      · refine go_iconst (v := (0 : Int32)) dX5_makesJustSo_57 (by decide) ?_
        exact go_zret (b := false) rfl dX5_makesJustSo_58
set_option maxHeartbeats 4000000 in
set_option maxRecDepth 100000 in
theorem g_X5_makesJustSo (a1 : Nat) (a2 : Nat) (a3 : Int32) (a4 : Int32) (u : Uw) : ∀ l, Con l yX5_makesJustSo mi_X5_makesJustSo ivZ (fun ad => [.ref (ad 69), .ref (ad a1), .ref (ad a2), .int a3, .int a4]) u (f_X5_makesJustSo a1 a2 a3 a4 u) := by
  refine con_of (by decide) rfl (fun _ => Nat.le_of_ble_eq_true rfl) (fun X ad => ?_)
  show Go X ad mi_X5_makesJustSo ivZ 0 [(0, .ref (ad 69)), (1, .ref (ad a1)), (2, .ref (ad a2)), (3, .int a3), (4, .int a4)] [] u (f_X5_makesJustSo a1 a2 a3 a4 u)
  unfold f_X5_makesJustSo
  refine go_aload_n 0 rfl dX5_makesJustSo_0 rfl ?_
  refine go_getR clX5 kt_69 7 (Nat.le_of_ble_eq_true rfl) (f := 83) (fun _ => rfl) gw157 dX5_makesJustSo_1 ?_
  refine go_aload_n 2 rfl dX5_makesJustSo_4 rfl ?_
  refine go_callVV (As := fun ad => [.ref (ad a2)]) (g_X1_become 83 a2 u) mv_X1_become clX1 kt_83 gw158 rfl ⟨Nat.le_of_ble_eq_true rfl, Nat.le_of_ble_eq_true rfl⟩ rfl (Nat.le_of_ble_eq_true rfl) dX5_makesJustSo_5 (fun r1 u2 => ?_)
  refine go_aload_n 0 rfl dX5_makesJustSo_8 rfl ?_
  refine go_getR clX5 kt_69 7 (Nat.le_of_ble_eq_true rfl) (f := 83) (fun _ => rfl) gw157 dX5_makesJustSo_9 ?_
  refine go_iload 4 rfl dX5_makesJustSo_12 ?_
  refine go_putILN clX1 kt_83 1 (Nat.le_of_ble_eq_true rfl) (c := 1) (fun _ => rfl) (by decide) kr_83 (fty := .int) (tyX1_ok 1 (Nat.le_of_ble_eq_true rfl)) rfl rfl rfl (fun _ => Nat.le_of_ble_eq_true rfl) gn137 dX5_makesJustSo_14 ?_
  refine go_nmU (fun u3 => ?_)
  refine go_iconst (v := (0 : Int32)) dX5_makesJustSo_17 (by decide) ?_
  refine go_istore (lv' := [(5, .int (0 : Int32)), (0, .ref (ad 69)), (1, .ref (ad a1)), (2, .ref (ad a2)), (3, .int a3), (4, .int a4)]) dX5_makesJustSo_18 (Nat.le_of_ble_eq_true rfl) rfl ?_
  exact go_sub [1, 2, 4, 0] rfl (gl_X5_makesJustSo_20 X ad  2100 (a1, a3, (0 : Int32), u3))
def b_X5_read_82 (ih67 : Nat × Nat × Int32 × Int32 × Uw → Option (Int32 × Uw)) (ih82 : Nat × Nat × Int32 × Int32 × Int32 × Uw → Option (Int32 × Uw)) (s : Nat × Nat × Int32 × Int32 × Int32 × Uw) : Option (Int32 × Uw) :=
  if (s.2.2.2.2.2.1 0 0) ≤ s.2.2.2.2.1 then
  (ih67 (s.1, s.2.1, s.2.2.1, (s.2.2.2.1 + (1 : Int32)), s.2.2.2.2.2))
  else
  (bd (f_X5_makesJustSo s.1 s.2.1 s.2.2.2.1 s.2.2.2.2.1 s.2.2.2.2.2) fun r16 u17 =>
  if r16 = true then
  (ih82 (s.1, s.2.1, (s.2.2.1 + (1 : Int32)), s.2.2.2.1, (s.2.2.2.2.1 + (1 : Int32)), u17))
  else
  (ih82 (s.1, s.2.1, s.2.2.1, s.2.2.2.1, (s.2.2.2.2.1 + (1 : Int32)), u17)))
def b_X5_read_67 (ih67 : Nat × Nat × Int32 × Int32 × Uw → Option (Int32 × Uw)) (s : Nat × Nat × Int32 × Int32 × Uw) : Option (Int32 × Uw) :=
  if (s.2.2.2.2.1 0 0) ≤ s.2.2.2.1 then
  (some (s.2.2.1, s.2.2.2.2))
  else
  (lp (b_X5_read_82 ih67) 2100 (s.1, s.2.1, s.2.2.1, s.2.2.2.1, (-1 : Int32), s.2.2.2.2))
def f_X5_read (a1 : Int32) (a2 : Int32) (u : Uw) : Option (Int32 × Uw) :=
  bd (f_X5_sheetAt a1 u) fun r1 u2 =>
  ro r1
  (bd (f_X5_found (-1000000001 : Int32) u2) fun r3 u4 =>
  some (r3, u4))
  (fun e5 =>
  ck (kT e5 == 2) <|
  bd (f_X2_isMissing e5 u2) fun r7 u8 =>
  if r7 = true then
  (bd (f_X5_found (-1000000006 : Int32) u8) fun r18 u19 =>
  some (r18, u19))
  else
  (bd (f_X3_pilgrimAt 0 a2 u8) fun r9 u10 =>
  ro r9
  (bd (f_X5_found (-1000000001 : Int32) u10) fun r11 u12 =>
  some (r11, u12))
  (fun e13 =>
  bd (f_X5_lookAhead (u10.1 (kR e5) (kO e5 + 1)) u10) fun r14 u15 =>
  lp b_X5_read_67 2100 (e5, e13, (0 : Int32), (0 : Int32), u15))))
set_option maxHeartbeats 4000000 in
set_option maxRecDepth 100000 in
theorem gl_X5_read_82 (X : Cx) (ad : Nat → Nat) (ih67 : Nat × Nat × Int32 × Int32 × Uw → Option (Int32 × Uw)) (hih67 : ∀ s : Nat × Nat × Int32 × Int32 × Uw, Go X ad mi_X5_read ivI 67 [(0, .ref (ad 69)), (3, .ref (ad s.1)), (4, .ref (ad s.2.1)), (5, .int s.2.2.1), (6, .int s.2.2.2.1)] [] s.2.2.2.2 (ih67 s)) : ∀ (n : Nat) (s : Nat × Nat × Int32 × Int32 × Int32 × Uw), Go X ad mi_X5_read ivI 82 [(0, .ref (ad 69)), (3, .ref (ad s.1)), (4, .ref (ad s.2.1)), (5, .int s.2.2.1), (6, .int s.2.2.2.1), (7, .int s.2.2.2.2.1)] [] s.2.2.2.2.2 (lp (b_X5_read_82 ih67) n s) := by
  refine go_lp (G := fun (s : Nat × Nat × Int32 × Int32 × Int32 × Uw) o => Go X ad mi_X5_read ivI 82 [(0, .ref (ad 69)), (3, .ref (ad s.1)), (4, .ref (ad s.2.1)), (5, .int s.2.2.1), (6, .int s.2.2.2.1), (7, .int s.2.2.2.2.1)] [] s.2.2.2.2.2 o) (fun _ => go_none) (fun ih82 hih82 s => ?_)
  show Go X ad mi_X5_read ivI 82 [(0, .ref (ad 69)), (3, .ref (ad s.1)), (4, .ref (ad s.2.1)), (5, .int s.2.2.1), (6, .int s.2.2.2.1), (7, .int s.2.2.2.2.1)] [] s.2.2.2.2.2 (b_X5_read_82 ih67 ih82 s)
  unfold b_X5_read_82
  refine go_iload 5 rfl dX5_read_82 ?_
  refine go_aload_n 0 rfl dX5_read_84 rfl ?_
  refine go_getR clX5 kt_69 0 (Nat.le_of_ble_eq_true rfl) (f := 0) (fun _ => rfl) gw113 dX5_read_85 ?_
  refine go_getILN clX3 kt_0 5 (Nat.le_of_ble_eq_true rfl) (c := 0) (fun _ => rfl) kr_0 gn114 dX5_read_88 ?_
  refine go_icmp_ge (tgt := 117) dX5_read_91 (by decide) ?_ ?_
  · refine go_iinc (v := (s.2.2.2.1 + (1 : Int32))) (lv' := [(6, .int (s.2.2.2.1 + (1 : Int32))), (0, .ref (ad 69)), (3, .ref (ad s.1)), (4, .ref (ad s.2.1)), (5, .int s.2.2.1), (7, .int s.2.2.2.2.1)]) 4 rfl dX5_read_117 rfl (Nat.le_of_ble_eq_true rfl) rfl ?_
    refine go_goto (tgt := 67) dX5_read_120 (by decide) ?_
    exact go_sub [1, 2, 3, 4, 0] rfl (hih67 (s.1, s.2.1, s.2.2.1, (s.2.2.2.1 + (1 : Int32)), s.2.2.2.2.2))
  · refine go_aload_n 0 rfl dX5_read_94 rfl ?_
    refine go_aload_n 1 rfl dX5_read_95 rfl ?_
    refine go_aload 2 rfl dX5_read_96 ?_
    refine go_iload 4 rfl dX5_read_98 ?_
    refine go_iload 5 rfl dX5_read_100 ?_
    refine go_callVZ (As := fun ad => [.ref (ad s.1), .ref (ad s.2.1), .int s.2.2.2.1, .int s.2.2.2.2.1]) (g_X5_makesJustSo s.1 s.2.1 s.2.2.2.1 s.2.2.2.2.1 s.2.2.2.2.2) mv_X5_makesJustSo clX5 kt_69 gw200 rfl ⟨Nat.le_of_ble_eq_true rfl, Nat.le_of_ble_eq_true rfl⟩ rfl (Nat.le_of_ble_eq_true rfl) dX5_read_102 (fun r16 u17 => ?_)
    refine go_ifz_eq (tgt := 111) dX5_read_105 (by decide) ?_ ?_
    · refine go_iinc (v := (s.2.2.2.2.1 + (1 : Int32))) (lv' := [(7, .int (s.2.2.2.2.1 + (1 : Int32))), (0, .ref (ad 69)), (3, .ref (ad s.1)), (4, .ref (ad s.2.1)), (5, .int s.2.2.1), (6, .int s.2.2.2.1)]) 5 rfl dX5_read_111 rfl (Nat.le_of_ble_eq_true rfl) rfl ?_
      refine go_goto (tgt := 82) dX5_read_114 (by decide) ?_
      exact go_sub [1, 2, 3, 4, 5, 0] rfl (hih82 (s.1, s.2.1, s.2.2.1, s.2.2.2.1, (s.2.2.2.2.1 + (1 : Int32)), u17))
    · refine go_iinc (v := (s.2.2.1 + (1 : Int32))) (lv' := [(5, .int (s.2.2.1 + (1 : Int32))), (0, .ref (ad 69)), (3, .ref (ad s.1)), (4, .ref (ad s.2.1)), (6, .int s.2.2.2.1), (7, .int s.2.2.2.2.1)]) 3 rfl dX5_read_108 rfl (Nat.le_of_ble_eq_true rfl) rfl ?_
      refine go_iinc (v := (s.2.2.2.2.1 + (1 : Int32))) (lv' := [(7, .int (s.2.2.2.2.1 + (1 : Int32))), (5, .int (s.2.2.1 + (1 : Int32))), (0, .ref (ad 69)), (3, .ref (ad s.1)), (4, .ref (ad s.2.1)), (6, .int s.2.2.2.1)]) 5 rfl dX5_read_111 rfl (Nat.le_of_ble_eq_true rfl) rfl ?_
      refine go_goto (tgt := 82) dX5_read_114 (by decide) ?_
      exact go_sub [2, 3, 4, 1, 5, 0] rfl (hih82 (s.1, s.2.1, (s.2.2.1 + (1 : Int32)), s.2.2.2.1, (s.2.2.2.2.1 + (1 : Int32)), u17))
set_option maxHeartbeats 4000000 in
set_option maxRecDepth 100000 in
theorem gl_X5_read_67 (X : Cx) (ad : Nat → Nat) : ∀ (n : Nat) (s : Nat × Nat × Int32 × Int32 × Uw), Go X ad mi_X5_read ivI 67 [(0, .ref (ad 69)), (3, .ref (ad s.1)), (4, .ref (ad s.2.1)), (5, .int s.2.2.1), (6, .int s.2.2.2.1)] [] s.2.2.2.2 (lp b_X5_read_67 n s) := by
  refine go_lp (G := fun (s : Nat × Nat × Int32 × Int32 × Uw) o => Go X ad mi_X5_read ivI 67 [(0, .ref (ad 69)), (3, .ref (ad s.1)), (4, .ref (ad s.2.1)), (5, .int s.2.2.1), (6, .int s.2.2.2.1)] [] s.2.2.2.2 o) (fun _ => go_none) (fun ih67 hih67 s => ?_)
  show Go X ad mi_X5_read ivI 67 [(0, .ref (ad 69)), (3, .ref (ad s.1)), (4, .ref (ad s.2.1)), (5, .int s.2.2.1), (6, .int s.2.2.2.1)] [] s.2.2.2.2 (b_X5_read_67 ih67 s)
  unfold b_X5_read_67
  refine go_iload 4 rfl dX5_read_67 ?_
  refine go_aload_n 0 rfl dX5_read_69 rfl ?_
  refine go_getR clX5 kt_69 0 (Nat.le_of_ble_eq_true rfl) (f := 0) (fun _ => rfl) gw113 dX5_read_70 ?_
  refine go_getILN clX3 kt_0 5 (Nat.le_of_ble_eq_true rfl) (c := 0) (fun _ => rfl) kr_0 gn114 dX5_read_73 ?_
  refine go_icmp_ge (tgt := 123) dX5_read_76 (by decide) ?_ ?_
  · refine go_iload 3 rfl dX5_read_123 ?_
    exact go_iret rfl dX5_read_125
  · refine go_iconst (v := (-1 : Int32)) dX5_read_79 (by decide) ?_
    refine go_istore (lv' := [(7, .int (-1 : Int32)), (0, .ref (ad 69)), (3, .ref (ad s.1)), (4, .ref (ad s.2.1)), (5, .int s.2.2.1), (6, .int s.2.2.2.1)]) dX5_read_80 (Nat.le_of_ble_eq_true rfl) rfl ?_
    exact go_sub [1, 2, 3, 4, 5, 0] rfl (gl_X5_read_82 X ad ih67 hih67 2100 (s.1, s.2.1, s.2.2.1, s.2.2.2.1, (-1 : Int32), s.2.2.2.2))
set_option maxHeartbeats 4000000 in
set_option maxRecDepth 100000 in
theorem g_X5_read (a1 : Int32) (a2 : Int32) (u : Uw) : ∀ l, Con l yX5_read mi_X5_read ivI (fun ad => [.ref (ad 69), .int a1, .int a2]) u (f_X5_read a1 a2 u) := by
  refine con_of (by decide) rfl (fun _ => Nat.le_of_ble_eq_true rfl) (fun X ad => ?_)
  show Go X ad mi_X5_read ivI 0 [(0, .ref (ad 69)), (1, .int a1), (2, .int a2)] [] u (f_X5_read a1 a2 u)
  unfold f_X5_read
  refine go_aload_n 0 rfl dX5_read_0 rfl ?_
  refine go_iload_n 1 rfl dX5_read_1 rfl ?_
  refine go_callVR (As := fun ad => [.int a1]) (g_X5_sheetAt a1 u) mv_X5_sheetAt clX5 kt_69 gw185 rfl ⟨Nat.le_of_ble_eq_true rfl, Nat.le_of_ble_eq_true rfl⟩ rfl (Nat.le_of_ble_eq_true rfl) dX5_read_2 (fun r1 u2 => ?_)
  refine go_ro ?_ (fun e5 => ?_)
  · refine go_astore_nN (lv' := [(3, .null), (0, .ref (ad 69)), (1, .int a1), (2, .int a2)]) dX5_read_5 rfl (Nat.le_of_ble_eq_true rfl) rfl ?_
    refine go_aload_nN 0 rfl dX5_read_6 rfl ?_
    refine go_ifnonnullN dX5_read_7 ?_
    refine go_aload_n 1 rfl dX5_read_10 rfl ?_
    refine go_ldc (v := (-1000000001 : Int32)) gw110 dX5_read_11 ?_
    refine go_callVI (As := fun ad => [.int (-1000000001 : Int32)]) (g_X5_found (-1000000001 : Int32) u2) mv_X5_found clX5 kt_69 gw117 rfl ⟨Nat.le_of_ble_eq_true rfl, Nat.le_of_ble_eq_true rfl⟩ rfl (Nat.le_of_ble_eq_true rfl) dX5_read_13 (fun r3 u4 => ?_)
    exact go_iret rfl dX5_read_16
  · refine go_astore_n (lv' := [(3, .ref (ad e5)), (0, .ref (ad 69)), (1, .int a1), (2, .int a2)]) dX5_read_5 rfl (Nat.le_of_ble_eq_true rfl) rfl ?_
    refine go_aload_n 0 rfl dX5_read_6 rfl ?_
    refine go_ifnonnull (tgt := 17) dX5_read_7 (by decide) ?_
    refine go_aload_n 0 rfl dX5_read_17 rfl ?_
    refine go_ck (fun h6 => ?_)
    refine go_callVZ (As := fun ad => []) (g_X2_isMissing e5 u2) mv_X2_isMissing clX2 h6 gw191 rfl ⟨Nat.le_of_ble_eq_true rfl, Nat.le_of_ble_eq_true rfl⟩ rfl (Nat.le_of_ble_eq_true rfl) dX5_read_18 (fun r7 u8 => ?_)
    refine go_ifz_eq (tgt := 31) dX5_read_21 (by decide) ?_ ?_
    · refine go_aload_n 1 rfl dX5_read_31 rfl ?_
      refine go_getR clX5 kt_69 0 (Nat.le_of_ble_eq_true rfl) (f := 0) (fun _ => rfl) gw113 dX5_read_32 ?_
      refine go_iload_n 3 rfl dX5_read_35 rfl ?_
      refine go_callVR (As := fun ad => [.int a2]) (g_X3_pilgrimAt 0 a2 u8) mv_X3_pilgrimAt clX3 kt_0 gw135 rfl ⟨Nat.le_of_ble_eq_true rfl, Nat.le_of_ble_eq_true rfl⟩ rfl (Nat.le_of_ble_eq_true rfl) dX5_read_36 (fun r9 u10 => ?_)
      refine go_ro ?_ (fun e13 => ?_)
      · refine go_astoreN (lv' := [(4, .null), (3, .ref (ad e5)), (0, .ref (ad 69)), (1, .int a1), (2, .int a2)]) dX5_read_39 (Nat.le_of_ble_eq_true rfl) rfl ?_
        refine go_aloadN 0 rfl dX5_read_41 ?_
        refine go_ifnonnullN dX5_read_43 ?_
        refine go_aload_n 2 rfl dX5_read_46 rfl ?_
        refine go_ldc (v := (-1000000001 : Int32)) gw110 dX5_read_47 ?_
        refine go_callVI (As := fun ad => [.int (-1000000001 : Int32)]) (g_X5_found (-1000000001 : Int32) u10) mv_X5_found clX5 kt_69 gw117 rfl ⟨Nat.le_of_ble_eq_true rfl, Nat.le_of_ble_eq_true rfl⟩ rfl (Nat.le_of_ble_eq_true rfl) dX5_read_49 (fun r11 u12 => ?_)
        exact go_iret rfl dX5_read_52
      · refine go_astore (lv' := [(4, .ref (ad e13)), (3, .ref (ad e5)), (0, .ref (ad 69)), (1, .int a1), (2, .int a2)]) dX5_read_39 (Nat.le_of_ble_eq_true rfl) rfl ?_
        refine go_aload 0 rfl dX5_read_41 ?_
        refine go_ifnonnull (tgt := 53) dX5_read_43 (by decide) ?_
        refine go_aload_n 2 rfl dX5_read_53 rfl ?_
        refine go_aload_n 1 rfl dX5_read_54 rfl ?_
        refine go_getIN clX2 h6 1 (Nat.le_of_ble_eq_true rfl) (c := 1) (fun _ => rfl) gn189 dX5_read_55 ?_
        refine go_callVV (As := fun ad => [.int (u10.1 (kR e5) (kO e5 + 1))]) (g_X5_lookAhead (u10.1 (kR e5) (kO e5 + 1)) u10) mv_X5_lookAhead clX5 kt_69 gw160 rfl ⟨Nat.le_of_ble_eq_true rfl, Nat.le_of_ble_eq_true rfl⟩ rfl (Nat.le_of_ble_eq_true rfl) dX5_read_58 (fun r14 u15 => ?_)
        refine go_iconst (v := (0 : Int32)) dX5_read_61 (by decide) ?_
        refine go_istore (lv' := [(5, .int (0 : Int32)), (4, .ref (ad e13)), (3, .ref (ad e5)), (0, .ref (ad 69)), (1, .int a1), (2, .int a2)]) dX5_read_62 (Nat.le_of_ble_eq_true rfl) rfl ?_
        refine go_iconst (v := (0 : Int32)) dX5_read_64 (by decide) ?_
        refine go_istore (lv' := [(6, .int (0 : Int32)), (5, .int (0 : Int32)), (4, .ref (ad e13)), (3, .ref (ad e5)), (0, .ref (ad 69)), (1, .int a1), (2, .int a2)]) dX5_read_65 (Nat.le_of_ble_eq_true rfl) rfl ?_
        exact go_sub [4, 3, 2, 1, 0] rfl (gl_X5_read_67 X ad  2100 (e5, e13, (0 : Int32), (0 : Int32), u15))
    · refine go_aload_n 1 rfl dX5_read_24 rfl ?_
      refine go_ldc (v := (-1000000006 : Int32)) gw194 dX5_read_25 ?_
      refine go_callVI (As := fun ad => [.int (-1000000006 : Int32)]) (g_X5_found (-1000000006 : Int32) u8) mv_X5_found clX5 kt_69 gw117 rfl ⟨Nat.le_of_ble_eq_true rfl, Nat.le_of_ble_eq_true rfl⟩ rfl (Nat.le_of_ble_eq_true rfl) dX5_read_27 (fun r18 u19 => ?_)
      exact go_iret rfl dX5_read_30
def f_X5_image (u : Uw) : Option (Int32 × Uw) :=
  bd (f_X3_become 23 0 u) fun r1 u2 =>
  nm (w1 u2 9 0 (1 : Int32)) fun u3 =>
  some ((1 : Int32), u3)
set_option maxHeartbeats 4000000 in
set_option maxRecDepth 100000 in
theorem g_X5_image (u : Uw) : ∀ l, Con l yX5_image mi_X5_image ivI (fun ad => [.ref (ad 69)]) u (f_X5_image u) := by
  refine con_of (by decide) rfl (fun _ => Nat.le_of_ble_eq_true rfl) (fun X ad => ?_)
  show Go X ad mi_X5_image ivI 0 [(0, .ref (ad 69))] [] u (f_X5_image u)
  unfold f_X5_image
  refine go_aload_n 0 rfl dX5_image_0 rfl ?_
  refine go_getR clX5 kt_69 1 (Nat.le_of_ble_eq_true rfl) (f := 23) (fun _ => rfl) gw201 dX5_image_1 ?_
  refine go_aload_n 0 rfl dX5_image_4 rfl ?_
  refine go_getR clX5 kt_69 0 (Nat.le_of_ble_eq_true rfl) (f := 0) (fun _ => rfl) gw113 dX5_image_5 ?_
  refine go_callVV (As := fun ad => [.ref (ad 0)]) (g_X3_become 23 0 u) mv_X3_become clX3 kt_23 gw183 rfl ⟨Nat.le_of_ble_eq_true rfl, Nat.le_of_ble_eq_true rfl⟩ rfl (Nat.le_of_ble_eq_true rfl) dX5_image_8 (fun r1 u2 => ?_)
  refine go_aload_n 0 rfl dX5_image_11 rfl ?_
  refine go_iconst (v := (1 : Int32)) dX5_image_12 (by decide) ?_
  refine go_putIL clX5 kt_69 2 (Nat.le_of_ble_eq_true rfl) (c := 0) (fun _ => rfl) (by decide) kr_69 (fty := .boolean) (tyX5_ok 2 (Nat.le_of_ble_eq_true rfl)) rfl rfl rfl (fun _ => Nat.le_of_ble_eq_true rfl) gw202 dX5_image_13 ?_
  refine go_nmU (fun u3 => ?_)
  refine go_iconst (v := (1 : Int32)) dX5_image_16 (by decide) ?_
  exact go_iret rfl dX5_image_17
def f_X5_undo (u : Uw) : Option (Int32 × Uw) :=
  if (u.1 9 0) = 0 then
  (bd (f_X5_found (-1000000004 : Int32) u) fun r3 u4 =>
  some (r3, u4))
  else
  (bd (f_X3_become 0 23 u) fun r1 u2 =>
  some ((u2.1 0 0), u2))
set_option maxHeartbeats 4000000 in
set_option maxRecDepth 100000 in
theorem g_X5_undo (u : Uw) : ∀ l, Con l yX5_undo mi_X5_undo ivI (fun ad => [.ref (ad 69)]) u (f_X5_undo u) := by
  refine con_of (by decide) rfl (fun _ => Nat.le_of_ble_eq_true rfl) (fun X ad => ?_)
  show Go X ad mi_X5_undo ivI 0 [(0, .ref (ad 69))] [] u (f_X5_undo u)
  unfold f_X5_undo
  refine go_aload_n 0 rfl dX5_undo_0 rfl ?_
  refine go_getIL clX5 kt_69 2 (Nat.le_of_ble_eq_true rfl) (c := 0) (fun _ => rfl) kr_69 gw202 dX5_undo_1 ?_
  refine go_if_ne (tgt := 14) dX5_undo_4 (by decide) ?_ ?_
  · refine go_aload_n 0 rfl dX5_undo_14 rfl ?_
    refine go_getR clX5 kt_69 0 (Nat.le_of_ble_eq_true rfl) (f := 0) (fun _ => rfl) gw113 dX5_undo_15 ?_
    refine go_aload_n 0 rfl dX5_undo_18 rfl ?_
    refine go_getR clX5 kt_69 1 (Nat.le_of_ble_eq_true rfl) (f := 23) (fun _ => rfl) gw201 dX5_undo_19 ?_
    refine go_callVV (As := fun ad => [.ref (ad 23)]) (g_X3_become 0 23 u) mv_X3_become clX3 kt_0 gw183 rfl ⟨Nat.le_of_ble_eq_true rfl, Nat.le_of_ble_eq_true rfl⟩ rfl (Nat.le_of_ble_eq_true rfl) dX5_undo_22 (fun r1 u2 => ?_)
    refine go_aload_n 0 rfl dX5_undo_25 rfl ?_
    refine go_getR clX5 kt_69 0 (Nat.le_of_ble_eq_true rfl) (f := 0) (fun _ => rfl) gw113 dX5_undo_26 ?_
    refine go_getILN clX3 kt_0 5 (Nat.le_of_ble_eq_true rfl) (c := 0) (fun _ => rfl) kr_0 gn114 dX5_undo_29 ?_
    exact go_iret rfl dX5_undo_32
  · refine go_aload_n 0 rfl dX5_undo_7 rfl ?_
    refine go_ldc (v := (-1000000004 : Int32)) gw163 dX5_undo_8 ?_
    refine go_callVI (As := fun ad => [.int (-1000000004 : Int32)]) (g_X5_found (-1000000004 : Int32) u) mv_X5_found clX5 kt_69 gw117 rfl ⟨Nat.le_of_ble_eq_true rfl, Nat.le_of_ble_eq_true rfl⟩ rfl (Nat.le_of_ble_eq_true rfl) dX5_undo_10 (fun r3 u4 => ?_)
    exact go_iret rfl dX5_undo_13
def f_X5_tear (u : Uw) : Option (Int32 × Uw) :=
  if (u.1 9 0) = 0 then
  (nm (w1 u 9 0 (0 : Int32)) fun u1 =>
  some ((0 : Int32), u1))
  else
  (nm (w1 u 9 0 (0 : Int32)) fun u2 =>
  some ((1 : Int32), u2))
set_option maxHeartbeats 4000000 in
set_option maxRecDepth 100000 in
theorem g_X5_tear (u : Uw) : ∀ l, Con l yX5_tear mi_X5_tear ivI (fun ad => [.ref (ad 69)]) u (f_X5_tear u) := by
  refine con_of (by decide) rfl (fun _ => Nat.le_of_ble_eq_true rfl) (fun X ad => ?_)
  show Go X ad mi_X5_tear ivI 0 [(0, .ref (ad 69))] [] u (f_X5_tear u)
  unfold f_X5_tear
  refine go_aload_n 0 rfl dX5_tear_0 rfl ?_
  refine go_getIL clX5 kt_69 2 (Nat.le_of_ble_eq_true rfl) (c := 0) (fun _ => rfl) kr_69 gw202 dX5_tear_1 ?_
  refine go_if_eq (tgt := 11) dX5_tear_4 (by decide) ?_ ?_
  · refine go_iconst (v := (0 : Int32)) dX5_tear_11 (by decide) ?_
    refine go_istore_n (lv' := [(1, .int (0 : Int32)), (0, .ref (ad 69))]) dX5_tear_12 rfl (Nat.le_of_ble_eq_true rfl) rfl ?_
    refine go_aload_n 1 rfl dX5_tear_13 rfl ?_
    refine go_iconst (v := (0 : Int32)) dX5_tear_14 (by decide) ?_
    refine go_putIL clX5 kt_69 2 (Nat.le_of_ble_eq_true rfl) (c := 0) (fun _ => rfl) (by decide) kr_69 (fty := .boolean) (tyX5_ok 2 (Nat.le_of_ble_eq_true rfl)) rfl rfl rfl (fun _ => Nat.le_of_ble_eq_true rfl) gw202 dX5_tear_15 ?_
    refine go_nmU (fun u1 => ?_)
    refine go_iload_n 0 rfl dX5_tear_18 rfl ?_
    exact go_iret rfl dX5_tear_19
  · refine go_iconst (v := (1 : Int32)) dX5_tear_7 (by decide) ?_
    refine go_goto (tgt := 12) dX5_tear_8 (by decide) ?_
    refine go_istore_n (lv' := [(1, .int (1 : Int32)), (0, .ref (ad 69))]) dX5_tear_12 rfl (Nat.le_of_ble_eq_true rfl) rfl ?_
    refine go_aload_n 1 rfl dX5_tear_13 rfl ?_
    refine go_iconst (v := (0 : Int32)) dX5_tear_14 (by decide) ?_
    refine go_putIL clX5 kt_69 2 (Nat.le_of_ble_eq_true rfl) (c := 0) (fun _ => rfl) (by decide) kr_69 (fty := .boolean) (tyX5_ok 2 (Nat.le_of_ble_eq_true rfl)) rfl rfl rfl (fun _ => Nat.le_of_ble_eq_true rfl) gw202 dX5_tear_15 ?_
    refine go_nmU (fun u2 => ?_)
    refine go_iload_n 0 rfl dX5_tear_18 rfl ?_
    exact go_iret rfl dX5_tear_19
def f_X5_count (a1 : Int32) (u : Uw) : Option (Int32 × Uw) :=
  nm a1 fun x1 =>
  if x1 = (0 : Int32) then
  (some ((u.1 0 0), u))
  else
  (if x1 = (1 : Int32) then
  (some ((u.1 7 0), u))
  else
  (if x1 = (2 : Int32) then
  (some ((u.1 0 1), u))
  else
  (if x1 = (3 : Int32) then
  (bd (f_X3_bathedOfAll 0 u) fun r5 u6 =>
  some (r5, u6))
  else
  (bd (f_X5_found (-1000000001 : Int32) u) fun r8 u9 =>
  some (r8, u9)))))
set_option maxHeartbeats 4000000 in
set_option maxRecDepth 100000 in
theorem g_X5_count (a1 : Int32) (u : Uw) : ∀ l, Con l yX5_count mi_X5_count ivI (fun ad => [.ref (ad 69), .int a1]) u (f_X5_count a1 u) := by
  refine con_of (by decide) rfl (fun _ => Nat.le_of_ble_eq_true rfl) (fun X ad => ?_)
  show Go X ad mi_X5_count ivI 0 [(0, .ref (ad 69)), (1, .int a1)] [] u (f_X5_count a1 u)
  unfold f_X5_count
  refine go_iload_n 1 rfl dX5_count_0 rfl ?_
  refine go_nm (fun x1 => ?_)
  refine go_ite (fun hx => ?_) (fun h2 => ?_)
  · subst hx
    refine go_tin (off := 31) (tgt := 32) dX5_count_1 (by decide) (by decide) (by decide) (by decide) ?_
    refine go_aload_n 0 rfl dX5_count_32 rfl ?_
    refine go_getR clX5 kt_69 0 (Nat.le_of_ble_eq_true rfl) (f := 0) (fun _ => rfl) gw113 dX5_count_33 ?_
    refine go_getILN clX3 kt_0 5 (Nat.le_of_ble_eq_true rfl) (c := 0) (fun _ => rfl) kr_0 gn114 dX5_count_36 ?_
    exact go_iret rfl dX5_count_39
  · refine go_ite (fun hx => ?_) (fun h3 => ?_)
    · subst hx
      refine go_tin (off := 39) (tgt := 40) dX5_count_1 (by decide) (by decide) (by decide) (by decide) ?_
      refine go_aload_n 0 rfl dX5_count_40 rfl ?_
      refine go_getR clX5 kt_69 3 (Nat.le_of_ble_eq_true rfl) (f := 70) (fun _ => rfl) gw178 dX5_count_41 ?_
      refine go_getILN clX4 kt_70 1 (Nat.le_of_ble_eq_true rfl) (c := 0) (fun _ => rfl) kr_70 gn179 dX5_count_44 ?_
      exact go_iret rfl dX5_count_47
    · refine go_ite (fun hx => ?_) (fun h4 => ?_)
      · subst hx
        refine go_tin (off := 47) (tgt := 48) dX5_count_1 (by decide) (by decide) (by decide) (by decide) ?_
        refine go_aload_n 0 rfl dX5_count_48 rfl ?_
        refine go_getR clX5 kt_69 0 (Nat.le_of_ble_eq_true rfl) (f := 0) (fun _ => rfl) gw113 dX5_count_49 ?_
        refine go_getILN clX3 kt_0 6 (Nat.le_of_ble_eq_true rfl) (c := 1) (fun _ => rfl) kr_0 gn133 dX5_count_52 ?_
        exact go_iret rfl dX5_count_55
      · refine go_ite (fun hx => ?_) (fun h7 => ?_)
        · subst hx
          refine go_tin (off := 55) (tgt := 56) dX5_count_1 (by decide) (by decide) (by decide) (by decide) ?_
          refine go_aload_n 0 rfl dX5_count_56 rfl ?_
          refine go_getR clX5 kt_69 0 (Nat.le_of_ble_eq_true rfl) (f := 0) (fun _ => rfl) gw113 dX5_count_57 ?_
          refine go_callVI (As := fun ad => []) (g_X3_bathedOfAll 0 u) mv_X3_bathedOfAll clX3 kt_0 gw203 rfl ⟨Nat.le_of_ble_eq_true rfl, Nat.le_of_ble_eq_true rfl⟩ rfl (Nat.le_of_ble_eq_true rfl) dX5_count_60 (fun r5 u6 => ?_)
          exact go_iret rfl dX5_count_63
        · refine go_tout (tgt := 64) dX5_count_1 ?_ (by decide) ?_
          · have a0 : x1.toInt ≠ 0 := int_ne h2; have a1 : x1.toInt ≠ 1 := int_ne h3; have a2 : x1.toInt ≠ 2 := int_ne h4; have a3 : x1.toInt ≠ 3 := int_ne h7; omega
          · refine go_aload_n 0 rfl dX5_count_64 rfl ?_
            refine go_ldc (v := (-1000000001 : Int32)) gw110 dX5_count_65 ?_
            refine go_callVI (As := fun ad => [.int (-1000000001 : Int32)]) (g_X5_found (-1000000001 : Int32) u) mv_X5_found clX5 kt_69 gw117 rfl ⟨Nat.le_of_ble_eq_true rfl, Nat.le_of_ble_eq_true rfl⟩ rfl (Nat.le_of_ble_eq_true rfl) dX5_count_67 (fun r8 u9 => ?_)
            exact go_iret rfl dX5_count_70
def b_X5_status_32 (ih32 : Int32 × Int32 × Uw → Option (Int32 × Uw)) (s : Int32 × Int32 × Uw) : Option (Int32 × Uw) :=
  if (7 : Int32) ≤ s.2.1 then
  (some (s.1, s.2.2))
  else
  (ck (inb s.2.1 7) <|
  nm (s.2.2.1 3 s.2.1.toNatClampNeg) fun x4 =>
  nm (s.1 + x4) fun x5 =>
  ih32 (x5, (s.2.1 + (1 : Int32)), s.2.2))
def f_X5_status (a1 : Int32) (u : Uw) : Option (Int32 × Uw) :=
  bd (f_X5_within a1 (-1 : Int32) (6 : Int32) u) fun r1 u2 =>
  if r1 = true then
  (if a1 < 0 then
  (lp b_X5_status_32 2100 ((0 : Int32), (0 : Int32), u2))
  else
  (ck (inb a1 7) <|
  nm (u2.1 3 a1.toNatClampNeg) fun x7 =>
  some (x7, u2)))
  else
  (bd (f_X5_found (-1000000001 : Int32) u2) fun r8 u9 =>
  some (r8, u9))
set_option maxHeartbeats 4000000 in
set_option maxRecDepth 100000 in
theorem gl_X5_status_32 (X : Cx) (ad : Nat → Nat) : ∀ (n : Nat) (s : Int32 × Int32 × Uw), Go X ad mi_X5_status ivI 32 [(0, .ref (ad 69)), (2, .int s.1), (3, .int s.2.1)] [] s.2.2 (lp b_X5_status_32 n s) := by
  refine go_lp (G := fun (s : Int32 × Int32 × Uw) o => Go X ad mi_X5_status ivI 32 [(0, .ref (ad 69)), (2, .int s.1), (3, .int s.2.1)] [] s.2.2 o) (fun _ => go_none) (fun ih32 hih32 s => ?_)
  show Go X ad mi_X5_status ivI 32 [(0, .ref (ad 69)), (2, .int s.1), (3, .int s.2.1)] [] s.2.2 (b_X5_status_32 ih32 s)
  unfold b_X5_status_32
  refine go_iload_n 2 rfl dX5_status_32 rfl ?_
  refine go_aload_n 0 rfl dX5_status_33 rfl ?_
  refine go_getR clX5 kt_69 5 (Nat.le_of_ble_eq_true rfl) (f := 81) (fun _ => rfl) gw111 dX5_status_34 ?_
  refine go_alen10 (v := (7 : Int32)) kt_81 (by rw [kl_81]; decide) dX5_status_37 ?_
  refine go_icmp_ge (tgt := 56) dX5_status_38 (by decide) ?_ ?_
  · refine go_iload_n 1 rfl dX5_status_56 rfl ?_
    exact go_iret rfl dX5_status_57
  · refine go_iload_n 1 rfl dX5_status_41 rfl ?_
    refine go_aload_n 0 rfl dX5_status_42 rfl ?_
    refine go_getR clX5 kt_69 5 (Nat.le_of_ble_eq_true rfl) (f := 81) (fun _ => rfl) gw111 dX5_status_43 ?_
    refine go_iload_n 2 rfl dX5_status_46 rfl ?_
    refine go_ck (fun h3 => ?_)
    refine go_ialdL kt_81 kr_81 kl_81 h3 dX5_status_47 ?_
    refine go_nm (fun x4 => ?_)
    refine go_iadd dX5_status_48 ?_
    refine go_nm (fun x5 => ?_)
    refine go_istore_n (lv' := [(2, .int x5), (0, .ref (ad 69)), (3, .int s.2.1)]) dX5_status_49 rfl (Nat.le_of_ble_eq_true rfl) rfl ?_
    refine go_iinc (v := (s.2.1 + (1 : Int32))) (lv' := [(3, .int (s.2.1 + (1 : Int32))), (2, .int x5), (0, .ref (ad 69))]) 2 rfl dX5_status_50 rfl (Nat.le_of_ble_eq_true rfl) rfl ?_
    refine go_goto (tgt := 32) dX5_status_53 (by decide) ?_
    exact go_sub [2, 1, 0] rfl (hih32 (x5, (s.2.1 + (1 : Int32)), s.2.2))
set_option maxHeartbeats 4000000 in
set_option maxRecDepth 100000 in
theorem g_X5_status (a1 : Int32) (u : Uw) : ∀ l, Con l yX5_status mi_X5_status ivI (fun ad => [.ref (ad 69), .int a1]) u (f_X5_status a1 u) := by
  refine con_of (by decide) rfl (fun _ => Nat.le_of_ble_eq_true rfl) (fun X ad => ?_)
  show Go X ad mi_X5_status ivI 0 [(0, .ref (ad 69)), (1, .int a1)] [] u (f_X5_status a1 u)
  unfold f_X5_status
  refine go_iload_n 1 rfl dX5_status_0 rfl ?_
  refine go_iconst (v := (-1 : Int32)) dX5_status_1 (by decide) ?_
  refine go_bipush (v := (6 : Int32)) dX5_status_2 (by decide) ?_
  refine go_callSZ (As := fun ad => [.int a1, .int (-1 : Int32), .int (6 : Int32)]) (g_X5_within a1 (-1 : Int32) (6 : Int32) u) mo_X5_within gw85 gw125 rfl ⟨Nat.le_of_ble_eq_true rfl, Nat.le_of_ble_eq_true rfl⟩ rfl (Nat.le_of_ble_eq_true rfl) dX5_status_4 (fun r1 u2 => ?_)
  refine go_ifz_ne (tgt := 17) dX5_status_7 (by decide) ?_ ?_
  · refine go_iload_n 1 rfl dX5_status_17 rfl ?_
    refine go_if_lt (tgt := 28) dX5_status_18 (by decide) ?_ ?_
    · refine go_iconst (v := (0 : Int32)) dX5_status_28 (by decide) ?_
      refine go_istore_n (lv' := [(2, .int (0 : Int32)), (0, .ref (ad 69)), (1, .int a1)]) dX5_status_29 rfl (Nat.le_of_ble_eq_true rfl) rfl ?_
      refine go_iconst (v := (0 : Int32)) dX5_status_30 (by decide) ?_
      refine go_istore_n (lv' := [(3, .int (0 : Int32)), (2, .int (0 : Int32)), (0, .ref (ad 69)), (1, .int a1)]) dX5_status_31 rfl (Nat.le_of_ble_eq_true rfl) rfl ?_
      exact go_sub [2, 1, 0] rfl (gl_X5_status_32 X ad  2100 ((0 : Int32), (0 : Int32), u2))
    · refine go_aload_n 0 rfl dX5_status_21 rfl ?_
      refine go_getR clX5 kt_69 5 (Nat.le_of_ble_eq_true rfl) (f := 81) (fun _ => rfl) gw111 dX5_status_22 ?_
      refine go_iload_n 1 rfl dX5_status_25 rfl ?_
      refine go_ck (fun h6 => ?_)
      refine go_ialdL kt_81 kr_81 kl_81 h6 dX5_status_26 ?_
      refine go_nm (fun x7 => ?_)
      exact go_iret rfl dX5_status_27
  · refine go_aload_n 0 rfl dX5_status_10 rfl ?_
    refine go_ldc (v := (-1000000001 : Int32)) gw110 dX5_status_11 ?_
    refine go_callVI (As := fun ad => [.int (-1000000001 : Int32)]) (g_X5_found (-1000000001 : Int32) u2) mv_X5_found clX5 kt_69 gw117 rfl ⟨Nat.le_of_ble_eq_true rfl, Nat.le_of_ble_eq_true rfl⟩ rfl (Nat.le_of_ble_eq_true rfl) dX5_status_13 (fun r8 u9 => ?_)
    exact go_iret rfl dX5_status_16
def f_X6_in (a0 : Int64) (a2 : Int64) (a4 : Int64) (u : Uw) : Option (Bool × Uw) :=
  if (lg_cmp a0 a2) < 0 then
  (some (false, u))
  else
  (if 0 < (lg_cmp a0 a4) then
  (some (false, u))
  else
  (some (true, u)))
set_option maxHeartbeats 4000000 in
set_option maxRecDepth 100000 in
theorem g_X6_in (a0 : Int64) (a2 : Int64) (a4 : Int64) (u : Uw) : ∀ l, Con l yX6_in mi_X6_in ivZ (fun ad => [.long a0, .long a2, .long a4]) u (f_X6_in a0 a2 a4 u) := by
  refine con_of (by decide) rfl (fun _ => Nat.le_of_ble_eq_true rfl) (fun X ad => ?_)
  show Go X ad mi_X6_in ivZ 0 [(0, .long a0), (2, .long a2), (4, .long a4)] [] u (f_X6_in a0 a2 a4 u)
  unfold f_X6_in
  refine go_lload_n 0 rfl dX6_in_0 rfl ?_
  refine go_lload_n 1 rfl dX6_in_1 rfl ?_
  refine go_lcmp dX6_in_2 ?_
  refine go_if_lt (tgt := 17) dX6_in_3 (by decide) ?_ ?_
  · refine go_iconst (v := (0 : Int32)) dX6_in_17 (by decide) ?_
    exact go_zret (b := false) rfl dX6_in_18
  · refine go_lload_n 0 rfl dX6_in_6 rfl ?_
    refine go_lload 2 rfl dX6_in_7 ?_
    refine go_lcmp dX6_in_9 ?_
    refine go_if_gt (tgt := 17) dX6_in_10 (by decide) ?_ ?_
    · refine go_iconst (v := (0 : Int32)) dX6_in_17 (by decide) ?_
      exact go_zret (b := false) rfl dX6_in_18
    · refine go_iconst (v := (1 : Int32)) dX6_in_13 (by decide) ?_
      refine go_goto (tgt := 18) dX6_in_14 (by decide) ?_
      exact go_zret (b := true) rfl dX6_in_18
def f_X6_finds (a1 : Int32) (u : Uw) : Option (Int32 × Uw) :=
  ck (inb ((-1000000001 : Int32) - a1) 7) <|
  nm (u.1 24 ((-1000000001 : Int32) - a1).toNatClampNeg) fun x2 =>
  nm (w1 u 24 ((-1000000001 : Int32) - a1).toNatClampNeg (x2 + (1 : Int32))) fun u3 =>
  some (a1, u3)
set_option maxHeartbeats 4000000 in
set_option maxRecDepth 100000 in
theorem g_X6_finds (a1 : Int32) (u : Uw) : ∀ l, Con l yX6_finds mi_X6_finds ivI (fun ad => [.ref (ad 86), .int a1]) u (f_X6_finds a1 u) := by
  refine con_of (by decide) rfl (fun _ => Nat.le_of_ble_eq_true rfl) (fun X ad => ?_)
  show Go X ad mi_X6_finds ivI 0 [(0, .ref (ad 86)), (1, .int a1)] [] u (f_X6_finds a1 u)
  unfold f_X6_finds
  refine go_aload_n 0 rfl dX6_finds_0 rfl ?_
  refine go_getR clX6 kt_86 4 (Nat.le_of_ble_eq_true rfl) (f := 91) (fun _ => rfl) gw204 dX6_finds_1 ?_
  refine go_ldc (v := (-1000000001 : Int32)) gw205 dX6_finds_4 ?_
  refine go_iload_n 1 rfl dX6_finds_6 rfl ?_
  refine go_isub dX6_finds_7 ?_
  refine go_dup2 dX6_finds_8 rfl rfl ?_
  refine go_ck (fun h1 => ?_)
  refine go_ialdL kt_91 kr_91 kl_91 h1 dX6_finds_9 ?_
  refine go_nm (fun x2 => ?_)
  refine go_iconst (v := (1 : Int32)) dX6_finds_10 (by decide) ?_
  refine go_iadd dX6_finds_11 ?_
  refine go_iastL kt_91 kr_91 kl_91 h1 dX6_finds_12 ?_
  refine go_nmU (fun u3 => ?_)
  refine go_iload_n 1 rfl dX6_finds_13 rfl ?_
  exact go_iret rfl dX6_finds_14
def b_X6_saves_2 (ih2 : Int32 × Uw → Option (Unit × Uw)) (s : Int32 × Uw) : Option (Unit × Uw) :=
  if (61 : Int32) ≤ s.1 then
  (some ((), s.2))
  else
  (ck (inb s.1 61) <|
  nm (s.2.1 20 s.1.toNatClampNeg) fun x2 =>
  nm (w1 s.2 22 s.1.toNatClampNeg x2) fun u3 =>
  ih2 ((s.1 + (1 : Int32)), u3))
def f_X6_saves (u : Uw) : Option (Unit × Uw) :=
  lp b_X6_saves_2 2100 ((0 : Int32), u)
set_option maxHeartbeats 4000000 in
set_option maxRecDepth 100000 in
theorem gl_X6_saves_2 (X : Cx) (ad : Nat → Nat) : ∀ (n : Nat) (s : Int32 × Uw), Go X ad mi_X6_saves ivV 2 [(0, .ref (ad 86)), (1, .int s.1)] [] s.2 (lp b_X6_saves_2 n s) := by
  refine go_lp (G := fun (s : Int32 × Uw) o => Go X ad mi_X6_saves ivV 2 [(0, .ref (ad 86)), (1, .int s.1)] [] s.2 o) (fun _ => go_none) (fun ih2 hih2 s => ?_)
  show Go X ad mi_X6_saves ivV 2 [(0, .ref (ad 86)), (1, .int s.1)] [] s.2 (b_X6_saves_2 ih2 s)
  unfold b_X6_saves_2
  refine go_iload_n 1 rfl dX6_saves_2 rfl ?_
  refine go_bipush (v := (61 : Int32)) dX6_saves_3 (by decide) ?_
  refine go_icmp_ge (tgt := 26) dX6_saves_5 (by decide) ?_ ?_
  · exact go_vret rfl dX6_saves_26
  · refine go_aload_n 0 rfl dX6_saves_8 rfl ?_
    refine go_getR clX6 kt_86 2 (Nat.le_of_ble_eq_true rfl) (f := 89) (fun _ => rfl) gw206 dX6_saves_9 ?_
    refine go_iload_n 1 rfl dX6_saves_12 rfl ?_
    refine go_aload_n 0 rfl dX6_saves_13 rfl ?_
    refine go_getR clX6 kt_86 0 (Nat.le_of_ble_eq_true rfl) (f := 87) (fun _ => rfl) gw207 dX6_saves_14 ?_
    refine go_iload_n 1 rfl dX6_saves_17 rfl ?_
    refine go_ck (fun h1 => ?_)
    refine go_ialdL kt_87 kr_87 kl_87 h1 dX6_saves_18 ?_
    refine go_nm (fun x2 => ?_)
    refine go_iastL kt_89 kr_89 kl_89 h1 dX6_saves_19 ?_
    refine go_nmU (fun u3 => ?_)
    refine go_iinc (v := (s.1 + (1 : Int32))) (lv' := [(1, .int (s.1 + (1 : Int32))), (0, .ref (ad 86))]) 1 rfl dX6_saves_20 rfl (Nat.le_of_ble_eq_true rfl) rfl ?_
    refine go_goto (tgt := 2) dX6_saves_23 (by decide) ?_
    exact go_sub [1, 0] rfl (hih2 ((s.1 + (1 : Int32)), u3))
set_option maxHeartbeats 4000000 in
set_option maxRecDepth 100000 in
theorem g_X6_saves (u : Uw) : ∀ l, Con l yX6_saves mi_X6_saves ivV (fun ad => [.ref (ad 86)]) u (f_X6_saves u) := by
  refine con_of (by decide) rfl (fun _ => Nat.le_of_ble_eq_true rfl) (fun X ad => ?_)
  show Go X ad mi_X6_saves ivV 0 [(0, .ref (ad 86))] [] u (f_X6_saves u)
  unfold f_X6_saves
  refine go_iconst (v := (0 : Int32)) dX6_saves_0 (by decide) ?_
  refine go_istore_n (lv' := [(1, .int (0 : Int32)), (0, .ref (ad 86))]) dX6_saves_1 rfl (Nat.le_of_ble_eq_true rfl) rfl ?_
  exact go_sub [1, 0] rfl (gl_X6_saves_2 X ad  2100 ((0 : Int32), u))
def b_X6_putsBack_2 (ih2 : Int32 × Uw → Option (Unit × Uw)) (s : Int32 × Uw) : Option (Unit × Uw) :=
  if (61 : Int32) ≤ s.1 then
  (some ((), s.2))
  else
  (ck (inb s.1 61) <|
  nm (s.2.1 22 s.1.toNatClampNeg) fun x2 =>
  nm (w1 s.2 20 s.1.toNatClampNeg x2) fun u3 =>
  ih2 ((s.1 + (1 : Int32)), u3))
def f_X6_putsBack (u : Uw) : Option (Unit × Uw) :=
  lp b_X6_putsBack_2 2100 ((0 : Int32), u)
set_option maxHeartbeats 4000000 in
set_option maxRecDepth 100000 in
theorem gl_X6_putsBack_2 (X : Cx) (ad : Nat → Nat) : ∀ (n : Nat) (s : Int32 × Uw), Go X ad mi_X6_putsBack ivV 2 [(0, .ref (ad 86)), (1, .int s.1)] [] s.2 (lp b_X6_putsBack_2 n s) := by
  refine go_lp (G := fun (s : Int32 × Uw) o => Go X ad mi_X6_putsBack ivV 2 [(0, .ref (ad 86)), (1, .int s.1)] [] s.2 o) (fun _ => go_none) (fun ih2 hih2 s => ?_)
  show Go X ad mi_X6_putsBack ivV 2 [(0, .ref (ad 86)), (1, .int s.1)] [] s.2 (b_X6_putsBack_2 ih2 s)
  unfold b_X6_putsBack_2
  refine go_iload_n 1 rfl dX6_putsBack_2 rfl ?_
  refine go_bipush (v := (61 : Int32)) dX6_putsBack_3 (by decide) ?_
  refine go_icmp_ge (tgt := 26) dX6_putsBack_5 (by decide) ?_ ?_
  · exact go_vret rfl dX6_putsBack_26
  · refine go_aload_n 0 rfl dX6_putsBack_8 rfl ?_
    refine go_getR clX6 kt_86 0 (Nat.le_of_ble_eq_true rfl) (f := 87) (fun _ => rfl) gw207 dX6_putsBack_9 ?_
    refine go_iload_n 1 rfl dX6_putsBack_12 rfl ?_
    refine go_aload_n 0 rfl dX6_putsBack_13 rfl ?_
    refine go_getR clX6 kt_86 2 (Nat.le_of_ble_eq_true rfl) (f := 89) (fun _ => rfl) gw206 dX6_putsBack_14 ?_
    refine go_iload_n 1 rfl dX6_putsBack_17 rfl ?_
    refine go_ck (fun h1 => ?_)
    refine go_ialdL kt_89 kr_89 kl_89 h1 dX6_putsBack_18 ?_
    refine go_nm (fun x2 => ?_)
    refine go_iastL kt_87 kr_87 kl_87 h1 dX6_putsBack_19 ?_
    refine go_nmU (fun u3 => ?_)
    refine go_iinc (v := (s.1 + (1 : Int32))) (lv' := [(1, .int (s.1 + (1 : Int32))), (0, .ref (ad 86))]) 1 rfl dX6_putsBack_20 rfl (Nat.le_of_ble_eq_true rfl) rfl ?_
    refine go_goto (tgt := 2) dX6_putsBack_23 (by decide) ?_
    exact go_sub [1, 0] rfl (hih2 ((s.1 + (1 : Int32)), u3))
set_option maxHeartbeats 4000000 in
set_option maxRecDepth 100000 in
theorem g_X6_putsBack (u : Uw) : ∀ l, Con l yX6_putsBack mi_X6_putsBack ivV (fun ad => [.ref (ad 86)]) u (f_X6_putsBack u) := by
  refine con_of (by decide) rfl (fun _ => Nat.le_of_ble_eq_true rfl) (fun X ad => ?_)
  show Go X ad mi_X6_putsBack ivV 0 [(0, .ref (ad 86))] [] u (f_X6_putsBack u)
  unfold f_X6_putsBack
  refine go_iconst (v := (0 : Int32)) dX6_putsBack_0 (by decide) ?_
  refine go_istore_n (lv' := [(1, .int (0 : Int32)), (0, .ref (ad 86))]) dX6_putsBack_1 rfl (Nat.le_of_ble_eq_true rfl) rfl ?_
  exact go_sub [1, 0] rfl (gl_X6_putsBack_2 X ad  2100 ((0 : Int32), u))
def b_X6_laysAside_2 (ih2 : Int32 × Uw → Option (Unit × Uw)) (s : Int32 × Uw) : Option (Unit × Uw) :=
  if (61 : Int32) ≤ s.1 then
  (some ((), s.2))
  else
  (ck (inb s.1 61) <|
  nm (s.2.1 20 s.1.toNatClampNeg) fun x2 =>
  nm (w1 s.2 23 s.1.toNatClampNeg x2) fun u3 =>
  ih2 ((s.1 + (1 : Int32)), u3))
def f_X6_laysAside (u : Uw) : Option (Unit × Uw) :=
  lp b_X6_laysAside_2 2100 ((0 : Int32), u)
set_option maxHeartbeats 4000000 in
set_option maxRecDepth 100000 in
theorem gl_X6_laysAside_2 (X : Cx) (ad : Nat → Nat) : ∀ (n : Nat) (s : Int32 × Uw), Go X ad mi_X6_laysAside ivV 2 [(0, .ref (ad 86)), (1, .int s.1)] [] s.2 (lp b_X6_laysAside_2 n s) := by
  refine go_lp (G := fun (s : Int32 × Uw) o => Go X ad mi_X6_laysAside ivV 2 [(0, .ref (ad 86)), (1, .int s.1)] [] s.2 o) (fun _ => go_none) (fun ih2 hih2 s => ?_)
  show Go X ad mi_X6_laysAside ivV 2 [(0, .ref (ad 86)), (1, .int s.1)] [] s.2 (b_X6_laysAside_2 ih2 s)
  unfold b_X6_laysAside_2
  refine go_iload_n 1 rfl dX6_laysAside_2 rfl ?_
  refine go_bipush (v := (61 : Int32)) dX6_laysAside_3 (by decide) ?_
  refine go_icmp_ge (tgt := 26) dX6_laysAside_5 (by decide) ?_ ?_
  · exact go_vret rfl dX6_laysAside_26
  · refine go_aload_n 0 rfl dX6_laysAside_8 rfl ?_
    refine go_getR clX6 kt_86 3 (Nat.le_of_ble_eq_true rfl) (f := 90) (fun _ => rfl) gw208 dX6_laysAside_9 ?_
    refine go_iload_n 1 rfl dX6_laysAside_12 rfl ?_
    refine go_aload_n 0 rfl dX6_laysAside_13 rfl ?_
    refine go_getR clX6 kt_86 0 (Nat.le_of_ble_eq_true rfl) (f := 87) (fun _ => rfl) gw207 dX6_laysAside_14 ?_
    refine go_iload_n 1 rfl dX6_laysAside_17 rfl ?_
    refine go_ck (fun h1 => ?_)
    refine go_ialdL kt_87 kr_87 kl_87 h1 dX6_laysAside_18 ?_
    refine go_nm (fun x2 => ?_)
    refine go_iastL kt_90 kr_90 kl_90 h1 dX6_laysAside_19 ?_
    refine go_nmU (fun u3 => ?_)
    refine go_iinc (v := (s.1 + (1 : Int32))) (lv' := [(1, .int (s.1 + (1 : Int32))), (0, .ref (ad 86))]) 1 rfl dX6_laysAside_20 rfl (Nat.le_of_ble_eq_true rfl) rfl ?_
    refine go_goto (tgt := 2) dX6_laysAside_23 (by decide) ?_
    exact go_sub [1, 0] rfl (hih2 ((s.1 + (1 : Int32)), u3))
set_option maxHeartbeats 4000000 in
set_option maxRecDepth 100000 in
theorem g_X6_laysAside (u : Uw) : ∀ l, Con l yX6_laysAside mi_X6_laysAside ivV (fun ad => [.ref (ad 86)]) u (f_X6_laysAside u) := by
  refine con_of (by decide) rfl (fun _ => Nat.le_of_ble_eq_true rfl) (fun X ad => ?_)
  show Go X ad mi_X6_laysAside ivV 0 [(0, .ref (ad 86))] [] u (f_X6_laysAside u)
  unfold f_X6_laysAside
  refine go_iconst (v := (0 : Int32)) dX6_laysAside_0 (by decide) ?_
  refine go_istore_n (lv' := [(1, .int (0 : Int32)), (0, .ref (ad 86))]) dX6_laysAside_1 rfl (Nat.le_of_ble_eq_true rfl) rfl ?_
  exact go_sub [1, 0] rfl (gl_X6_laysAside_2 X ad  2100 ((0 : Int32), u))
def b_X6_takesBack_2 (ih2 : Int32 × Int32 × Uw → Option (Int32 × Uw)) (s : Int32 × Int32 × Uw) : Option (Int32 × Uw) :=
  if (61 : Int32) ≤ s.2.1 then
  (some (s.1, s.2.2))
  else
  (ck (inb s.2.1 61) <|
  nm (s.2.2.1 23 s.2.1.toNatClampNeg) fun x2 =>
  nm (w1 s.2.2 20 s.2.1.toNatClampNeg x2) fun u3 =>
  ih2 (s.1, (s.2.1 + (1 : Int32)), u3))
def f_X6_takesBack (a1 : Int32) (u : Uw) : Option (Int32 × Uw) :=
  lp b_X6_takesBack_2 2100 (a1, (0 : Int32), u)
set_option maxHeartbeats 4000000 in
set_option maxRecDepth 100000 in
theorem gl_X6_takesBack_2 (X : Cx) (ad : Nat → Nat) : ∀ (n : Nat) (s : Int32 × Int32 × Uw), Go X ad mi_X6_takesBack ivI 2 [(0, .ref (ad 86)), (1, .int s.1), (2, .int s.2.1)] [] s.2.2 (lp b_X6_takesBack_2 n s) := by
  refine go_lp (G := fun (s : Int32 × Int32 × Uw) o => Go X ad mi_X6_takesBack ivI 2 [(0, .ref (ad 86)), (1, .int s.1), (2, .int s.2.1)] [] s.2.2 o) (fun _ => go_none) (fun ih2 hih2 s => ?_)
  show Go X ad mi_X6_takesBack ivI 2 [(0, .ref (ad 86)), (1, .int s.1), (2, .int s.2.1)] [] s.2.2 (b_X6_takesBack_2 ih2 s)
  unfold b_X6_takesBack_2
  refine go_iload_n 2 rfl dX6_takesBack_2 rfl ?_
  refine go_bipush (v := (61 : Int32)) dX6_takesBack_3 (by decide) ?_
  refine go_icmp_ge (tgt := 26) dX6_takesBack_5 (by decide) ?_ ?_
  · refine go_iload_n 1 rfl dX6_takesBack_26 rfl ?_
    exact go_iret rfl dX6_takesBack_27
  · refine go_aload_n 0 rfl dX6_takesBack_8 rfl ?_
    refine go_getR clX6 kt_86 0 (Nat.le_of_ble_eq_true rfl) (f := 87) (fun _ => rfl) gw207 dX6_takesBack_9 ?_
    refine go_iload_n 2 rfl dX6_takesBack_12 rfl ?_
    refine go_aload_n 0 rfl dX6_takesBack_13 rfl ?_
    refine go_getR clX6 kt_86 3 (Nat.le_of_ble_eq_true rfl) (f := 90) (fun _ => rfl) gw208 dX6_takesBack_14 ?_
    refine go_iload_n 2 rfl dX6_takesBack_17 rfl ?_
    refine go_ck (fun h1 => ?_)
    refine go_ialdL kt_90 kr_90 kl_90 h1 dX6_takesBack_18 ?_
    refine go_nm (fun x2 => ?_)
    refine go_iastL kt_87 kr_87 kl_87 h1 dX6_takesBack_19 ?_
    refine go_nmU (fun u3 => ?_)
    refine go_iinc (v := (s.2.1 + (1 : Int32))) (lv' := [(2, .int (s.2.1 + (1 : Int32))), (0, .ref (ad 86)), (1, .int s.1)]) 2 rfl dX6_takesBack_20 rfl (Nat.le_of_ble_eq_true rfl) rfl ?_
    refine go_goto (tgt := 2) dX6_takesBack_23 (by decide) ?_
    exact go_sub [1, 2, 0] rfl (hih2 (s.1, (s.2.1 + (1 : Int32)), u3))
set_option maxHeartbeats 4000000 in
set_option maxRecDepth 100000 in
theorem g_X6_takesBack (a1 : Int32) (u : Uw) : ∀ l, Con l yX6_takesBack mi_X6_takesBack ivI (fun ad => [.ref (ad 86), .int a1]) u (f_X6_takesBack a1 u) := by
  refine con_of (by decide) rfl (fun _ => Nat.le_of_ble_eq_true rfl) (fun X ad => ?_)
  show Go X ad mi_X6_takesBack ivI 0 [(0, .ref (ad 86)), (1, .int a1)] [] u (f_X6_takesBack a1 u)
  unfold f_X6_takesBack
  refine go_iconst (v := (0 : Int32)) dX6_takesBack_0 (by decide) ?_
  refine go_istore_n (lv' := [(2, .int (0 : Int32)), (0, .ref (ad 86)), (1, .int a1)]) dX6_takesBack_1 rfl (Nat.le_of_ble_eq_true rfl) rfl ?_
  exact go_sub [1, 2, 0] rfl (gl_X6_takesBack_2 X ad  2100 (a1, (0 : Int32), u))
def f_X6_becomes (a1 : Int32) (a2 : Int32) (u : Uw) : Option (Int32 × Uw) :=
  ck (inb a1 61) <|
  nm (u.1 20 a1.toNatClampNeg) fun x2 =>
  nm (w1 u 20 a1.toNatClampNeg a2) fun u3 =>
  some (x2, u3)
set_option maxHeartbeats 4000000 in
set_option maxRecDepth 100000 in
theorem g_X6_becomes (a1 : Int32) (a2 : Int32) (u : Uw) : ∀ l, Con l yX6_becomes mi_X6_becomes ivI (fun ad => [.ref (ad 86), .int a1, .int a2]) u (f_X6_becomes a1 a2 u) := by
  refine con_of (by decide) rfl (fun _ => Nat.le_of_ble_eq_true rfl) (fun X ad => ?_)
  show Go X ad mi_X6_becomes ivI 0 [(0, .ref (ad 86)), (1, .int a1), (2, .int a2)] [] u (f_X6_becomes a1 a2 u)
  unfold f_X6_becomes
  refine go_aload_n 0 rfl dX6_becomes_0 rfl ?_
  refine go_getR clX6 kt_86 0 (Nat.le_of_ble_eq_true rfl) (f := 87) (fun _ => rfl) gw207 dX6_becomes_1 ?_
  refine go_iload_n 1 rfl dX6_becomes_4 rfl ?_
  refine go_ck (fun h1 => ?_)
  refine go_ialdL kt_87 kr_87 kl_87 h1 dX6_becomes_5 ?_
  refine go_nm (fun x2 => ?_)
  refine go_istore_n (lv' := [(3, .int x2), (0, .ref (ad 86)), (1, .int a1), (2, .int a2)]) dX6_becomes_6 rfl (Nat.le_of_ble_eq_true rfl) rfl ?_
  refine go_aload_n 1 rfl dX6_becomes_7 rfl ?_
  refine go_getR clX6 kt_86 0 (Nat.le_of_ble_eq_true rfl) (f := 87) (fun _ => rfl) gw207 dX6_becomes_8 ?_
  refine go_iload_n 2 rfl dX6_becomes_11 rfl ?_
  refine go_iload_n 3 rfl dX6_becomes_12 rfl ?_
  refine go_iastL kt_87 kr_87 kl_87 h1 dX6_becomes_13 ?_
  refine go_nmU (fun u3 => ?_)
  refine go_iload_n 0 rfl dX6_becomes_14 rfl ?_
  exact go_iret rfl dX6_becomes_15
def f_X6_isCalendar (a1 : Int32) (u : Uw) : Option (Bool × Uw) :=
  nm (u.1 20 (0 : Int32).toNatClampNeg) fun x1 =>
  bd (f_X6_in (a1.toInt64) (0 : Int64) ((x1 - (1 : Int32)).toInt64) u) fun r2 u3 =>
  some (r2, u3)
set_option maxHeartbeats 4000000 in
set_option maxRecDepth 100000 in
theorem g_X6_isCalendar (a1 : Int32) (u : Uw) : ∀ l, Con l yX6_isCalendar mi_X6_isCalendar ivZ (fun ad => [.ref (ad 86), .int a1]) u (f_X6_isCalendar a1 u) := by
  refine con_of (by decide) rfl (fun _ => Nat.le_of_ble_eq_true rfl) (fun X ad => ?_)
  show Go X ad mi_X6_isCalendar ivZ 0 [(0, .ref (ad 86)), (1, .int a1)] [] u (f_X6_isCalendar a1 u)
  unfold f_X6_isCalendar
  refine go_iload_n 1 rfl dX6_isCalendar_0 rfl ?_
  refine go_i2l dX6_isCalendar_1 ?_
  refine go_lconst (v := (0 : Int64)) dX6_isCalendar_2 (by decide) ?_
  refine go_aload_n 0 rfl dX6_isCalendar_3 rfl ?_
  refine go_getR clX6 kt_86 0 (Nat.le_of_ble_eq_true rfl) (f := 87) (fun _ => rfl) gw207 dX6_isCalendar_4 ?_
  refine go_iconst (v := (0 : Int32)) dX6_isCalendar_7 (by decide) ?_
  refine go_ialdL kt_87 kr_87 kl_87 rfl dX6_isCalendar_8 ?_
  refine go_nm (fun x1 => ?_)
  refine go_iconst (v := (1 : Int32)) dX6_isCalendar_9 (by decide) ?_
  refine go_isub dX6_isCalendar_10 ?_
  refine go_i2l dX6_isCalendar_11 ?_
  refine go_callSZ (As := fun ad => [.long (a1.toInt64), .long (0 : Int64), .long ((x1 - (1 : Int32)).toInt64)]) (g_X6_in (a1.toInt64) (0 : Int64) ((x1 - (1 : Int32)).toInt64) u) mo_X6_in gw209 gw210 rfl ⟨Nat.le_of_ble_eq_true rfl, Nat.le_of_ble_eq_true rfl⟩ rfl (Nat.le_of_ble_eq_true rfl) dX6_isCalendar_12 (fun r2 u3 => ?_)
  exact go_zret rfl dX6_isCalendar_15
def f_X6_areTwo (a1 : Int32) (a2 : Int32) (u : Uw) : Option (Bool × Uw) :=
  bd (f_X6_isCalendar a1 u) fun r1 u2 =>
  if r1 = true then
  (bd (f_X6_isCalendar a2 u2) fun r3 u4 =>
  if r3 = true then
  (if a1 = a2 then
  (some (false, u4))
  else
  (some (true, u4)))
  else
  (some (false, u4)))
  else
  (some (false, u2))
set_option maxHeartbeats 4000000 in
set_option maxRecDepth 100000 in
theorem g_X6_areTwo (a1 : Int32) (a2 : Int32) (u : Uw) : ∀ l, Con l yX6_areTwo mi_X6_areTwo ivZ (fun ad => [.ref (ad 86), .int a1, .int a2]) u (f_X6_areTwo a1 a2 u) := by
  refine con_of (by decide) rfl (fun _ => Nat.le_of_ble_eq_true rfl) (fun X ad => ?_)
  show Go X ad mi_X6_areTwo ivZ 0 [(0, .ref (ad 86)), (1, .int a1), (2, .int a2)] [] u (f_X6_areTwo a1 a2 u)
  unfold f_X6_areTwo
  refine go_aload_n 0 rfl dX6_areTwo_0 rfl ?_
  refine go_iload_n 1 rfl dX6_areTwo_1 rfl ?_
  refine go_callVZ (As := fun ad => [.int a1]) (g_X6_isCalendar a1 u) mv_X6_isCalendar clX6 kt_86 gw211 rfl ⟨Nat.le_of_ble_eq_true rfl, Nat.le_of_ble_eq_true rfl⟩ rfl (Nat.le_of_ble_eq_true rfl) dX6_areTwo_2 (fun r1 u2 => ?_)
  refine go_ifz_eq (tgt := 25) dX6_areTwo_5 (by decide) ?_ ?_
  · refine go_iconst (v := (0 : Int32)) dX6_areTwo_25 (by decide) ?_
    exact go_zret (b := false) rfl dX6_areTwo_26
  · refine go_aload_n 0 rfl dX6_areTwo_8 rfl ?_
    refine go_iload_n 2 rfl dX6_areTwo_9 rfl ?_
    refine go_callVZ (As := fun ad => [.int a2]) (g_X6_isCalendar a2 u2) mv_X6_isCalendar clX6 kt_86 gw211 rfl ⟨Nat.le_of_ble_eq_true rfl, Nat.le_of_ble_eq_true rfl⟩ rfl (Nat.le_of_ble_eq_true rfl) dX6_areTwo_10 (fun r3 u4 => ?_)
    refine go_ifz_eq (tgt := 25) dX6_areTwo_13 (by decide) ?_ ?_
    · refine go_iconst (v := (0 : Int32)) dX6_areTwo_25 (by decide) ?_
      exact go_zret (b := false) rfl dX6_areTwo_26
    · refine go_iload_n 1 rfl dX6_areTwo_16 rfl ?_
      refine go_iload_n 2 rfl dX6_areTwo_17 rfl ?_
      refine go_icmp_eq (tgt := 25) dX6_areTwo_18 (by decide) ?_ ?_
      · refine go_iconst (v := (0 : Int32)) dX6_areTwo_25 (by decide) ?_
        exact go_zret (b := false) rfl dX6_areTwo_26
      · refine go_iconst (v := (1 : Int32)) dX6_areTwo_21 (by decide) ?_
        refine go_goto (tgt := 26) dX6_areTwo_22 (by decide) ?_
        exact go_zret (b := true) rfl dX6_areTwo_26
def f_X6_isPilgrim (a1 : Int32) (u : Uw) : Option (Bool × Uw) :=
  nm (u.1 20 (1 : Int32).toNatClampNeg) fun x1 =>
  bd (f_X6_in (a1.toInt64) (0 : Int64) ((x1 - (1 : Int32)).toInt64) u) fun r2 u3 =>
  some (r2, u3)
set_option maxHeartbeats 4000000 in
set_option maxRecDepth 100000 in
theorem g_X6_isPilgrim (a1 : Int32) (u : Uw) : ∀ l, Con l yX6_isPilgrim mi_X6_isPilgrim ivZ (fun ad => [.ref (ad 86), .int a1]) u (f_X6_isPilgrim a1 u) := by
  refine con_of (by decide) rfl (fun _ => Nat.le_of_ble_eq_true rfl) (fun X ad => ?_)
  show Go X ad mi_X6_isPilgrim ivZ 0 [(0, .ref (ad 86)), (1, .int a1)] [] u (f_X6_isPilgrim a1 u)
  unfold f_X6_isPilgrim
  refine go_iload_n 1 rfl dX6_isPilgrim_0 rfl ?_
  refine go_i2l dX6_isPilgrim_1 ?_
  refine go_lconst (v := (0 : Int64)) dX6_isPilgrim_2 (by decide) ?_
  refine go_aload_n 0 rfl dX6_isPilgrim_3 rfl ?_
  refine go_getR clX6 kt_86 0 (Nat.le_of_ble_eq_true rfl) (f := 87) (fun _ => rfl) gw207 dX6_isPilgrim_4 ?_
  refine go_iconst (v := (1 : Int32)) dX6_isPilgrim_7 (by decide) ?_
  refine go_ialdL kt_87 kr_87 kl_87 rfl dX6_isPilgrim_8 ?_
  refine go_nm (fun x1 => ?_)
  refine go_iconst (v := (1 : Int32)) dX6_isPilgrim_9 (by decide) ?_
  refine go_isub dX6_isPilgrim_10 ?_
  refine go_i2l dX6_isPilgrim_11 ?_
  refine go_callSZ (As := fun ad => [.long (a1.toInt64), .long (0 : Int64), .long ((x1 - (1 : Int32)).toInt64)]) (g_X6_in (a1.toInt64) (0 : Int64) ((x1 - (1 : Int32)).toInt64) u) mo_X6_in gw209 gw210 rfl ⟨Nat.le_of_ble_eq_true rfl, Nat.le_of_ble_eq_true rfl⟩ rfl (Nat.le_of_ble_eq_true rfl) dX6_isPilgrim_12 (fun r2 u3 => ?_)
  exact go_zret rfl dX6_isPilgrim_15
def f_X6_isKind (a0 : Int32) (u : Uw) : Option (Bool × Uw) :=
  bd (f_X6_in (a0.toInt64) (0 : Int64) (5 : Int64) u) fun r1 u2 =>
  some (r1, u2)
set_option maxHeartbeats 4000000 in
set_option maxRecDepth 100000 in
theorem g_X6_isKind (a0 : Int32) (u : Uw) : ∀ l, Con l yX6_isKind mi_X6_isKind ivZ (fun ad => [.int a0]) u (f_X6_isKind a0 u) := by
  refine con_of (by decide) rfl (fun _ => Nat.le_of_ble_eq_true rfl) (fun X ad => ?_)
  show Go X ad mi_X6_isKind ivZ 0 [(0, .int a0)] [] u (f_X6_isKind a0 u)
  unfold f_X6_isKind
  refine go_iload_n 0 rfl dX6_isKind_0 rfl ?_
  refine go_i2l dX6_isKind_1 ?_
  refine go_lconst (v := (0 : Int64)) dX6_isKind_2 (by decide) ?_
  refine go_ldc2 (v := (5 : Int64)) gw212 dX6_isKind_3 ?_
  refine go_callSZ (As := fun ad => [.long (a0.toInt64), .long (0 : Int64), .long (5 : Int64)]) (g_X6_in (a0.toInt64) (0 : Int64) (5 : Int64) u) mo_X6_in gw209 gw210 rfl ⟨Nat.le_of_ble_eq_true rfl, Nat.le_of_ble_eq_true rfl⟩ rfl (Nat.le_of_ble_eq_true rfl) dX6_isKind_6 (fun r1 u2 => ?_)
  exact go_zret rfl dX6_isKind_9
def f_X6_its (a1 : Int32) (a2 : Int32) (u : Uw) : Option (Int32 × Uw) :=
  ck (inb (((7 : Int32) + ((5 : Int32) * a1)) + a2) 61) <|
  nm (u.1 20 (((7 : Int32) + ((5 : Int32) * a1)) + a2).toNatClampNeg) fun x2 =>
  some (x2, u)
set_option maxHeartbeats 4000000 in
set_option maxRecDepth 100000 in
theorem g_X6_its (a1 : Int32) (a2 : Int32) (u : Uw) : ∀ l, Con l yX6_its mi_X6_its ivI (fun ad => [.ref (ad 86), .int a1, .int a2]) u (f_X6_its a1 a2 u) := by
  refine con_of (by decide) rfl (fun _ => Nat.le_of_ble_eq_true rfl) (fun X ad => ?_)
  show Go X ad mi_X6_its ivI 0 [(0, .ref (ad 86)), (1, .int a1), (2, .int a2)] [] u (f_X6_its a1 a2 u)
  unfold f_X6_its
  refine go_aload_n 0 rfl dX6_its_0 rfl ?_
  refine go_getR clX6 kt_86 0 (Nat.le_of_ble_eq_true rfl) (f := 87) (fun _ => rfl) gw207 dX6_its_1 ?_
  refine go_bipush (v := (7 : Int32)) dX6_its_4 (by decide) ?_
  refine go_iconst (v := (5 : Int32)) dX6_its_6 (by decide) ?_
  refine go_iload_n 1 rfl dX6_its_7 rfl ?_
  refine go_imul dX6_its_8 ?_
  refine go_iadd dX6_its_9 ?_
  refine go_iload_n 2 rfl dX6_its_10 rfl ?_
  refine go_iadd dX6_its_11 ?_
  refine go_ck (fun h1 => ?_)
  refine go_ialdL kt_87 kr_87 kl_87 h1 dX6_its_12 ?_
  refine go_nm (fun x2 => ?_)
  exact go_iret rfl dX6_its_13
def f_X6_spot (a0 : Int32) (a1 : Int32) (u : Uw) : Option (Int32 × Uw) :=
  some ((((37 : Int32) + ((3 : Int32) * a0)) + a1), u)
set_option maxHeartbeats 4000000 in
set_option maxRecDepth 100000 in
theorem g_X6_spot (a0 : Int32) (a1 : Int32) (u : Uw) : ∀ l, Con l yX6_spot mi_X6_spot ivI (fun ad => [.int a0, .int a1]) u (f_X6_spot a0 a1 u) := by
  refine con_of (by decide) rfl (fun _ => Nat.le_of_ble_eq_true rfl) (fun X ad => ?_)
  show Go X ad mi_X6_spot ivI 0 [(0, .int a0), (1, .int a1)] [] u (f_X6_spot a0 a1 u)
  unfold f_X6_spot
  refine go_bipush (v := (37 : Int32)) dX6_spot_0 (by decide) ?_
  refine go_iconst (v := (3 : Int32)) dX6_spot_2 (by decide) ?_
  refine go_iload_n 0 rfl dX6_spot_3 rfl ?_
  refine go_imul dX6_spot_4 ?_
  refine go_iadd dX6_spot_5 ?_
  refine go_iload_n 1 rfl dX6_spot_6 rfl ?_
  refine go_iadd dX6_spot_7 ?_
  exact go_iret rfl dX6_spot_8
def f_X6_isOf (a1 : Int32) (a2 : Int32) (u : Uw) : Option (Int32 × Uw) :=
  bd (f_X6_spot a1 a2 u) fun r1 u2 =>
  ck (inb r1 61) <|
  nm (u2.1 20 r1.toNatClampNeg) fun x4 =>
  some (x4, u2)
set_option maxHeartbeats 4000000 in
set_option maxRecDepth 100000 in
theorem g_X6_isOf (a1 : Int32) (a2 : Int32) (u : Uw) : ∀ l, Con l yX6_isOf mi_X6_isOf ivI (fun ad => [.ref (ad 86), .int a1, .int a2]) u (f_X6_isOf a1 a2 u) := by
  refine con_of (by decide) rfl (fun _ => Nat.le_of_ble_eq_true rfl) (fun X ad => ?_)
  show Go X ad mi_X6_isOf ivI 0 [(0, .ref (ad 86)), (1, .int a1), (2, .int a2)] [] u (f_X6_isOf a1 a2 u)
  unfold f_X6_isOf
  refine go_aload_n 0 rfl dX6_isOf_0 rfl ?_
  refine go_getR clX6 kt_86 0 (Nat.le_of_ble_eq_true rfl) (f := 87) (fun _ => rfl) gw207 dX6_isOf_1 ?_
  refine go_iload_n 1 rfl dX6_isOf_4 rfl ?_
  refine go_iload_n 2 rfl dX6_isOf_5 rfl ?_
  refine go_callSI (As := fun ad => [.int a1, .int a2]) (g_X6_spot a1 a2 u) mo_X6_spot gw213 gw214 rfl ⟨Nat.le_of_ble_eq_true rfl, Nat.le_of_ble_eq_true rfl⟩ rfl (Nat.le_of_ble_eq_true rfl) dX6_isOf_6 (fun r1 u2 => ?_)
  refine go_ck (fun h3 => ?_)
  refine go_ialdL kt_87 kr_87 kl_87 h3 dX6_isOf_9 ?_
  refine go_nm (fun x4 => ?_)
  exact go_iret rfl dX6_isOf_10
def f_X6_adds (a1 : Int32) (u : Uw) : Option (Int32 × Uw) :=
  nm (u.1 20 (0 : Int32).toNatClampNeg) fun x1 =>
  nm ((7 : Int32) + ((5 : Int32) * x1)) fun x2 =>
  ck (inb (x2 + (0 : Int32)) 61) <|
  nm (w1 u 20 (x2 + (0 : Int32)).toNatClampNeg a1) fun u4 =>
  ck (inb (x2 + (1 : Int32)) 61) <|
  nm (w1 u4 20 (x2 + (1 : Int32)).toNatClampNeg (0 : Int32)) fun u6 =>
  ck (inb (x2 + (2 : Int32)) 61) <|
  nm (w1 u6 20 (x2 + (2 : Int32)).toNatClampNeg (30 : Int32)) fun u8 =>
  ck (inb (x2 + (3 : Int32)) 61) <|
  nm (w1 u8 20 (x2 + (3 : Int32)).toNatClampNeg (11 : Int32)) fun u10 =>
  ck (inb (x2 + (4 : Int32)) 61) <|
  nm (w1 u10 20 (x2 + (4 : Int32)).toNatClampNeg (50 : Int32)) fun u12 =>
  nm (u12.1 20 (0 : Int32).toNatClampNeg) fun x13 =>
  nm (w1 u12 20 (0 : Int32).toNatClampNeg (x13 + (1 : Int32))) fun u14 =>
  nm (u14.1 20 (0 : Int32).toNatClampNeg) fun x15 =>
  some ((x15 - (1 : Int32)), u14)
set_option maxHeartbeats 4000000 in
set_option maxRecDepth 100000 in
theorem g_X6_adds (a1 : Int32) (u : Uw) : ∀ l, Con l yX6_adds mi_X6_adds ivI (fun ad => [.ref (ad 86), .int a1]) u (f_X6_adds a1 u) := by
  refine con_of (by decide) rfl (fun _ => Nat.le_of_ble_eq_true rfl) (fun X ad => ?_)
  show Go X ad mi_X6_adds ivI 0 [(0, .ref (ad 86)), (1, .int a1)] [] u (f_X6_adds a1 u)
  unfold f_X6_adds
  refine go_bipush (v := (7 : Int32)) dX6_adds_0 (by decide) ?_
  refine go_iconst (v := (5 : Int32)) dX6_adds_2 (by decide) ?_
  refine go_aload_n 0 rfl dX6_adds_3 rfl ?_
  refine go_getR clX6 kt_86 0 (Nat.le_of_ble_eq_true rfl) (f := 87) (fun _ => rfl) gw207 dX6_adds_4 ?_
  refine go_iconst (v := (0 : Int32)) dX6_adds_7 (by decide) ?_
  refine go_ialdL kt_87 kr_87 kl_87 rfl dX6_adds_8 ?_
  refine go_nm (fun x1 => ?_)
  refine go_imul dX6_adds_9 ?_
  refine go_iadd dX6_adds_10 ?_
  refine go_nm (fun x2 => ?_)
  refine go_istore_n (lv' := [(2, .int x2), (0, .ref (ad 86)), (1, .int a1)]) dX6_adds_11 rfl (Nat.le_of_ble_eq_true rfl) rfl ?_
  refine go_aload_n 1 rfl dX6_adds_12 rfl ?_
  refine go_getR clX6 kt_86 0 (Nat.le_of_ble_eq_true rfl) (f := 87) (fun _ => rfl) gw207 dX6_adds_13 ?_
  refine go_iload_n 0 rfl dX6_adds_16 rfl ?_
  refine go_iconst (v := (0 : Int32)) dX6_adds_17 (by decide) ?_
  refine go_iadd dX6_adds_18 ?_
  refine go_iload_n 2 rfl dX6_adds_19 rfl ?_
  refine go_ck (fun h3 => ?_)
  refine go_iastL kt_87 kr_87 kl_87 h3 dX6_adds_20 ?_
  refine go_nmU (fun u4 => ?_)
  refine go_aload_n 1 rfl dX6_adds_21 rfl ?_
  refine go_getR clX6 kt_86 0 (Nat.le_of_ble_eq_true rfl) (f := 87) (fun _ => rfl) gw207 dX6_adds_22 ?_
  refine go_iload_n 0 rfl dX6_adds_25 rfl ?_
  refine go_iconst (v := (1 : Int32)) dX6_adds_26 (by decide) ?_
  refine go_iadd dX6_adds_27 ?_
  refine go_iconst (v := (0 : Int32)) dX6_adds_28 (by decide) ?_
  refine go_ck (fun h5 => ?_)
  refine go_iastL kt_87 kr_87 kl_87 h5 dX6_adds_29 ?_
  refine go_nmU (fun u6 => ?_)
  refine go_aload_n 1 rfl dX6_adds_30 rfl ?_
  refine go_getR clX6 kt_86 0 (Nat.le_of_ble_eq_true rfl) (f := 87) (fun _ => rfl) gw207 dX6_adds_31 ?_
  refine go_iload_n 0 rfl dX6_adds_34 rfl ?_
  refine go_iconst (v := (2 : Int32)) dX6_adds_35 (by decide) ?_
  refine go_iadd dX6_adds_36 ?_
  refine go_bipush (v := (30 : Int32)) dX6_adds_37 (by decide) ?_
  refine go_ck (fun h7 => ?_)
  refine go_iastL kt_87 kr_87 kl_87 h7 dX6_adds_39 ?_
  refine go_nmU (fun u8 => ?_)
  refine go_aload_n 1 rfl dX6_adds_40 rfl ?_
  refine go_getR clX6 kt_86 0 (Nat.le_of_ble_eq_true rfl) (f := 87) (fun _ => rfl) gw207 dX6_adds_41 ?_
  refine go_iload_n 0 rfl dX6_adds_44 rfl ?_
  refine go_iconst (v := (3 : Int32)) dX6_adds_45 (by decide) ?_
  refine go_iadd dX6_adds_46 ?_
  refine go_bipush (v := (11 : Int32)) dX6_adds_47 (by decide) ?_
  refine go_ck (fun h9 => ?_)
  refine go_iastL kt_87 kr_87 kl_87 h9 dX6_adds_49 ?_
  refine go_nmU (fun u10 => ?_)
  refine go_aload_n 1 rfl dX6_adds_50 rfl ?_
  refine go_getR clX6 kt_86 0 (Nat.le_of_ble_eq_true rfl) (f := 87) (fun _ => rfl) gw207 dX6_adds_51 ?_
  refine go_iload_n 0 rfl dX6_adds_54 rfl ?_
  refine go_iconst (v := (4 : Int32)) dX6_adds_55 (by decide) ?_
  refine go_iadd dX6_adds_56 ?_
  refine go_bipush (v := (50 : Int32)) dX6_adds_57 (by decide) ?_
  refine go_ck (fun h11 => ?_)
  refine go_iastL kt_87 kr_87 kl_87 h11 dX6_adds_59 ?_
  refine go_nmU (fun u12 => ?_)
  refine go_aload_n 1 rfl dX6_adds_60 rfl ?_
  refine go_getR clX6 kt_86 0 (Nat.le_of_ble_eq_true rfl) (f := 87) (fun _ => rfl) gw207 dX6_adds_61 ?_
  refine go_iconst (v := (0 : Int32)) dX6_adds_64 (by decide) ?_
  refine go_dup2 dX6_adds_65 rfl rfl ?_
  refine go_ialdL kt_87 kr_87 kl_87 rfl dX6_adds_66 ?_
  refine go_nm (fun x13 => ?_)
  refine go_iconst (v := (1 : Int32)) dX6_adds_67 (by decide) ?_
  refine go_iadd dX6_adds_68 ?_
  refine go_iastL kt_87 kr_87 kl_87 rfl dX6_adds_69 ?_
  refine go_nmU (fun u14 => ?_)
  refine go_aload_n 1 rfl dX6_adds_70 rfl ?_
  refine go_getR clX6 kt_86 0 (Nat.le_of_ble_eq_true rfl) (f := 87) (fun _ => rfl) gw207 dX6_adds_71 ?_
  refine go_iconst (v := (0 : Int32)) dX6_adds_74 (by decide) ?_
  refine go_ialdL kt_87 kr_87 kl_87 rfl dX6_adds_75 ?_
  refine go_nm (fun x15 => ?_)
  refine go_iconst (v := (1 : Int32)) dX6_adds_76 (by decide) ?_
  refine go_isub dX6_adds_77 ?_
  exact go_iret rfl dX6_adds_78
def f_X6_calendar (a1 : Int32) (u : Uw) : Option (Int32 × Uw) :=
  bd (f_X6_isKind a1 u) fun r1 u2 =>
  if r1 = true then
  (nm (u2.1 20 (0 : Int32).toNatClampNeg) fun x3 =>
  if x3 = (6 : Int32) then
  (bd (f_X6_finds (-1000000002 : Int32) u2) fun r6 u7 =>
  some (r6, u7))
  else
  (bd (f_X6_adds a1 u2) fun r4 u5 =>
  some (r4, u5)))
  else
  (bd (f_X6_finds (-1000000001 : Int32) u2) fun r8 u9 =>
  some (r8, u9))
set_option maxHeartbeats 4000000 in
set_option maxRecDepth 100000 in
theorem g_X6_calendar (a1 : Int32) (u : Uw) : ∀ l, Con l yX6_calendar mi_X6_calendar ivI (fun ad => [.ref (ad 86), .int a1]) u (f_X6_calendar a1 u) := by
  refine con_of (by decide) rfl (fun _ => Nat.le_of_ble_eq_true rfl) (fun X ad => ?_)
  show Go X ad mi_X6_calendar ivI 0 [(0, .ref (ad 86)), (1, .int a1)] [] u (f_X6_calendar a1 u)
  unfold f_X6_calendar
  refine go_iload_n 1 rfl dX6_calendar_0 rfl ?_
  refine go_callSZ (As := fun ad => [.int a1]) (g_X6_isKind a1 u) mo_X6_isKind gw215 gw216 rfl ⟨Nat.le_of_ble_eq_true rfl, Nat.le_of_ble_eq_true rfl⟩ rfl (Nat.le_of_ble_eq_true rfl) dX6_calendar_1 (fun r1 u2 => ?_)
  refine go_ifz_ne (tgt := 14) dX6_calendar_4 (by decide) ?_ ?_
  · refine go_aload_n 0 rfl dX6_calendar_14 rfl ?_
    refine go_getR clX6 kt_86 0 (Nat.le_of_ble_eq_true rfl) (f := 87) (fun _ => rfl) gw207 dX6_calendar_15 ?_
    refine go_iconst (v := (0 : Int32)) dX6_calendar_18 (by decide) ?_
    refine go_ialdL kt_87 kr_87 kl_87 rfl dX6_calendar_19 ?_
    refine go_nm (fun x3 => ?_)
    refine go_bipush (v := (6 : Int32)) dX6_calendar_20 (by decide) ?_
    refine go_icmp_ne (tgt := 34) dX6_calendar_22 (by decide) ?_ ?_
    · refine go_aload_n 0 rfl dX6_calendar_34 rfl ?_
      refine go_iload_n 1 rfl dX6_calendar_35 rfl ?_
      refine go_callVI (As := fun ad => [.int a1]) (g_X6_adds a1 u2) mv_X6_adds clX6 kt_86 gw217 rfl ⟨Nat.le_of_ble_eq_true rfl, Nat.le_of_ble_eq_true rfl⟩ rfl (Nat.le_of_ble_eq_true rfl) dX6_calendar_36 (fun r4 u5 => ?_)
      exact go_iret rfl dX6_calendar_39
    · refine go_aload_n 0 rfl dX6_calendar_25 rfl ?_
      refine go_ldc (v := (-1000000002 : Int32)) gw218 dX6_calendar_26 ?_
      refine go_callVI (As := fun ad => [.int (-1000000002 : Int32)]) (g_X6_finds (-1000000002 : Int32) u2) mv_X6_finds clX6 kt_86 gw219 rfl ⟨Nat.le_of_ble_eq_true rfl, Nat.le_of_ble_eq_true rfl⟩ rfl (Nat.le_of_ble_eq_true rfl) dX6_calendar_28 (fun r6 u7 => ?_)
      refine go_goto (tgt := 39) dX6_calendar_31 (by decide) ?_
      exact go_iret rfl dX6_calendar_39
  · refine go_aload_n 0 rfl dX6_calendar_7 rfl ?_
    refine go_ldc (v := (-1000000001 : Int32)) gw205 dX6_calendar_8 ?_
    refine go_callVI (As := fun ad => [.int (-1000000001 : Int32)]) (g_X6_finds (-1000000001 : Int32) u2) mv_X6_finds clX6 kt_86 gw219 rfl ⟨Nat.le_of_ble_eq_true rfl, Nat.le_of_ble_eq_true rfl⟩ rfl (Nat.le_of_ble_eq_true rfl) dX6_calendar_10 (fun r8 u9 => ?_)
    exact go_iret rfl dX6_calendar_13
