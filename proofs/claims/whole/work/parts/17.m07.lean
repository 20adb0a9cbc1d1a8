/-! methods: what each does to the world, and that its bytecode does so (laid by wip/whole/gen) -/
def f_X6_drink (a1 : Int32) (a2 : Int32) (u : Uw) : Option (Int32 × Uw) :=
  bd (f_X6_isPilgrim a1 u) fun r1 u2 =>
  if r1 = true then
  (bd (f_X6_in (a2.toInt64) (0 : Int64) (1 : Int64) u2) fun r5 u6 =>
  if r5 = true then
  (if a2 = (1 : Int32) then
  (nm (u6.1 20 (5 : Int32).toNatClampNeg) fun x20 =>
  if x20 = 0 then
  (bd (f_X6_finds (-1000000005 : Int32) u6) fun r31 u32 =>
  some (r31, u32))
  else
  (nm (u6.1 20 (5 : Int32).toNatClampNeg) fun x21 =>
  nm (w1 u6 20 (5 : Int32).toNatClampNeg (x21 - (1 : Int32))) fun u22 =>
  if a2 = (1 : Int32) then
  (bd (f_X6_helps a1 (1 : Int32) u22) fun r27 u28 =>
  bd (f_X6_isOf a1 (0 : Int32) u28) fun r29 u30 =>
  some (r29, u30))
  else
  (bd (f_X6_helps a1 (0 : Int32) u22) fun r23 u24 =>
  bd (f_X6_isOf a1 (0 : Int32) u24) fun r25 u26 =>
  some (r25, u26))))
  else
  (nm (u6.1 20 (6 : Int32).toNatClampNeg) fun x7 =>
  if x7 = 0 then
  (bd (f_X6_finds (-1000000005 : Int32) u6) fun r18 u19 =>
  some (r18, u19))
  else
  (nm (u6.1 20 (6 : Int32).toNatClampNeg) fun x8 =>
  nm (w1 u6 20 (6 : Int32).toNatClampNeg (x8 - (1 : Int32))) fun u9 =>
  if a2 = (1 : Int32) then
  (bd (f_X6_helps a1 (1 : Int32) u9) fun r14 u15 =>
  bd (f_X6_isOf a1 (0 : Int32) u15) fun r16 u17 =>
  some (r16, u17))
  else
  (bd (f_X6_helps a1 (0 : Int32) u9) fun r10 u11 =>
  bd (f_X6_isOf a1 (0 : Int32) u11) fun r12 u13 =>
  some (r12, u13)))))
  else
  (bd (f_X6_finds (-1000000001 : Int32) u6) fun r33 u34 =>
  some (r33, u34)))
  else
  (bd (f_X6_finds (-1000000001 : Int32) u2) fun r3 u4 =>
  some (r3, u4))
set_option maxHeartbeats 4000000 in
set_option maxRecDepth 100000 in
theorem g_X6_drink (a1 : Int32) (a2 : Int32) (u : Uw) : ∀ l, Con l yX6_drink mi_X6_drink ivI (fun ad => [.ref (ad 86), .int a1, .int a2]) u (f_X6_drink a1 a2 u) := by
  refine con_of (by decide) rfl (fun _ => Nat.le_of_ble_eq_true rfl) (fun X ad => ?_)
  show Go X ad mi_X6_drink ivI 0 [(0, .ref (ad 86)), (1, .int a1), (2, .int a2)] [] u (f_X6_drink a1 a2 u)
  unfold f_X6_drink
  refine go_aload_n 0 rfl dX6_drink_0 rfl ?_
  refine go_iload_n 1 rfl dX6_drink_1 rfl ?_
  refine go_callVZ (As := fun ad => [.int a1]) (g_X6_isPilgrim a1 u) mv_X6_isPilgrim clX6 kt_86 gw240 rfl ⟨Nat.le_of_ble_eq_true rfl, Nat.le_of_ble_eq_true rfl⟩ rfl (Nat.le_of_ble_eq_true rfl) dX6_drink_2 (fun r1 u2 => ?_)
  refine go_ifz_eq (tgt := 18) dX6_drink_5 (by decide) ?_ ?_
  · refine go_aload_n 0 rfl dX6_drink_18 rfl ?_
    refine go_ldc (v := (-1000000001 : Int32)) gw205 dX6_drink_19 ?_
    refine go_callVI (As := fun ad => [.int (-1000000001 : Int32)]) (g_X6_finds (-1000000001 : Int32) u2) mv_X6_finds clX6 kt_86 gw219 rfl ⟨Nat.le_of_ble_eq_true rfl, Nat.le_of_ble_eq_true rfl⟩ rfl (Nat.le_of_ble_eq_true rfl) dX6_drink_21 (fun r3 u4 => ?_)
    exact go_iret rfl dX6_drink_24
  · refine go_iload_n 2 rfl dX6_drink_8 rfl ?_
    refine go_i2l dX6_drink_9 ?_
    refine go_lconst (v := (0 : Int64)) dX6_drink_10 (by decide) ?_
    refine go_lconst (v := (1 : Int64)) dX6_drink_11 (by decide) ?_
    refine go_callSZ (As := fun ad => [.long (a2.toInt64), .long (0 : Int64), .long (1 : Int64)]) (g_X6_in (a2.toInt64) (0 : Int64) (1 : Int64) u2) mo_X6_in gw209 gw210 rfl ⟨Nat.le_of_ble_eq_true rfl, Nat.le_of_ble_eq_true rfl⟩ rfl (Nat.le_of_ble_eq_true rfl) dX6_drink_12 (fun r5 u6 => ?_)
    refine go_ifz_ne (tgt := 25) dX6_drink_15 (by decide) ?_ ?_
    · refine go_iload_n 2 rfl dX6_drink_25 rfl ?_
      refine go_iconst (v := (1 : Int32)) dX6_drink_26 (by decide) ?_
      refine go_icmp_ne (tgt := 34) dX6_drink_27 (by decide) ?_ ?_
      · refine go_bipush (v := (6 : Int32)) dX6_drink_34 (by decide) ?_
        refine go_istore_n (lv' := [(3, .int (6 : Int32)), (0, .ref (ad 86)), (1, .int a1), (2, .int a2)]) dX6_drink_36 rfl (Nat.le_of_ble_eq_true rfl) rfl ?_
        refine go_aload_n 1 rfl dX6_drink_37 rfl ?_
        refine go_getR clX6 kt_86 0 (Nat.le_of_ble_eq_true rfl) (f := 87) (fun _ => rfl) gw207 dX6_drink_38 ?_
        refine go_iload_n 0 rfl dX6_drink_41 rfl ?_
        refine go_ialdL kt_87 kr_87 kl_87 rfl dX6_drink_42 ?_
        refine go_nm (fun x7 => ?_)
        refine go_if_ne (tgt := 53) dX6_drink_43 (by decide) ?_ ?_
        · refine go_aload_n 1 rfl dX6_drink_53 rfl ?_
          refine go_getR clX6 kt_86 0 (Nat.le_of_ble_eq_true rfl) (f := 87) (fun _ => rfl) gw207 dX6_drink_54 ?_
          refine go_iload_n 0 rfl dX6_drink_57 rfl ?_
          refine go_dup2 dX6_drink_58 rfl rfl ?_
          refine go_ialdL kt_87 kr_87 kl_87 rfl dX6_drink_59 ?_
          refine go_nm (fun x8 => ?_)
          refine go_iconst (v := (1 : Int32)) dX6_drink_60 (by decide) ?_
          refine go_isub dX6_drink_61 ?_
          refine go_iastL kt_87 kr_87 kl_87 rfl dX6_drink_62 ?_
          refine go_nmU (fun u9 => ?_)
          refine go_aload_n 1 rfl dX6_drink_63 rfl ?_
          refine go_iload_n 2 rfl dX6_drink_64 rfl ?_
          refine go_iload_n 3 rfl dX6_drink_65 rfl ?_
          refine go_iconst (v := (1 : Int32)) dX6_drink_66 (by decide) ?_
          refine go_icmp_ne (tgt := 74) dX6_drink_67 (by decide) ?_ ?_
          · refine go_iconst (v := (0 : Int32)) dX6_drink_74 (by decide) ?_
            refine go_callVV (As := fun ad => [.int a1, .int (0 : Int32)]) (g_X6_helps a1 (0 : Int32) u9) mv_X6_helps clX6 kt_86 gw243 rfl ⟨Nat.le_of_ble_eq_true rfl, Nat.le_of_ble_eq_true rfl⟩ rfl (Nat.le_of_ble_eq_true rfl) dX6_drink_75 (fun r10 u11 => ?_)
            refine go_aload_n 1 rfl dX6_drink_78 rfl ?_
            refine go_iload_n 2 rfl dX6_drink_79 rfl ?_
            refine go_iconst (v := (0 : Int32)) dX6_drink_80 (by decide) ?_
            refine go_callVI (As := fun ad => [.int a1, .int (0 : Int32)]) (g_X6_isOf a1 (0 : Int32) u11) mv_X6_isOf clX6 kt_86 gw242 rfl ⟨Nat.le_of_ble_eq_true rfl, Nat.le_of_ble_eq_true rfl⟩ rfl (Nat.le_of_ble_eq_true rfl) dX6_drink_81 (fun r12 u13 => ?_)
            exact go_iret rfl dX6_drink_84
          · refine go_iconst (v := (1 : Int32)) dX6_drink_70 (by decide) ?_
            refine go_goto (tgt := 75) dX6_drink_71 (by decide) ?_
            refine go_callVV (As := fun ad => [.int a1, .int (1 : Int32)]) (g_X6_helps a1 (1 : Int32) u9) mv_X6_helps clX6 kt_86 gw243 rfl ⟨Nat.le_of_ble_eq_true rfl, Nat.le_of_ble_eq_true rfl⟩ rfl (Nat.le_of_ble_eq_true rfl) dX6_drink_75 (fun r14 u15 => ?_)
            refine go_aload_n 1 rfl dX6_drink_78 rfl ?_
            refine go_iload_n 2 rfl dX6_drink_79 rfl ?_
            refine go_iconst (v := (0 : Int32)) dX6_drink_80 (by decide) ?_
            refine go_callVI (As := fun ad => [.int a1, .int (0 : Int32)]) (g_X6_isOf a1 (0 : Int32) u15) mv_X6_isOf clX6 kt_86 gw242 rfl ⟨Nat.le_of_ble_eq_true rfl, Nat.le_of_ble_eq_true rfl⟩ rfl (Nat.le_of_ble_eq_true rfl) dX6_drink_81 (fun r16 u17 => ?_)
            exact go_iret rfl dX6_drink_84
        · refine go_aload_n 1 rfl dX6_drink_46 rfl ?_
          refine go_ldc (v := (-1000000005 : Int32)) gw244 dX6_drink_47 ?_
          refine go_callVI (As := fun ad => [.int (-1000000005 : Int32)]) (g_X6_finds (-1000000005 : Int32) u6) mv_X6_finds clX6 kt_86 gw219 rfl ⟨Nat.le_of_ble_eq_true rfl, Nat.le_of_ble_eq_true rfl⟩ rfl (Nat.le_of_ble_eq_true rfl) dX6_drink_49 (fun r18 u19 => ?_)
          exact go_iret rfl dX6_drink_52
      · refine go_iconst (v := (5 : Int32)) dX6_drink_30 (by decide) ?_
        refine go_goto (tgt := 36) dX6_drink_31 (by decide) ?_
        refine go_istore_n (lv' := [(3, .int (5 : Int32)), (0, .ref (ad 86)), (1, .int a1), (2, .int a2)]) dX6_drink_36 rfl (Nat.le_of_ble_eq_true rfl) rfl ?_
        refine go_aload_n 1 rfl dX6_drink_37 rfl ?_
        refine go_getR clX6 kt_86 0 (Nat.le_of_ble_eq_true rfl) (f := 87) (fun _ => rfl) gw207 dX6_drink_38 ?_
        refine go_iload_n 0 rfl dX6_drink_41 rfl ?_
        refine go_ialdL kt_87 kr_87 kl_87 rfl dX6_drink_42 ?_
        refine go_nm (fun x20 => ?_)
        refine go_if_ne (tgt := 53) dX6_drink_43 (by decide) ?_ ?_
        · refine go_aload_n 1 rfl dX6_drink_53 rfl ?_
          refine go_getR clX6 kt_86 0 (Nat.le_of_ble_eq_true rfl) (f := 87) (fun _ => rfl) gw207 dX6_drink_54 ?_
          refine go_iload_n 0 rfl dX6_drink_57 rfl ?_
          refine go_dup2 dX6_drink_58 rfl rfl ?_
          refine go_ialdL kt_87 kr_87 kl_87 rfl dX6_drink_59 ?_
          refine go_nm (fun x21 => ?_)
          refine go_iconst (v := (1 : Int32)) dX6_drink_60 (by decide) ?_
          refine go_isub dX6_drink_61 ?_
          refine go_iastL kt_87 kr_87 kl_87 rfl dX6_drink_62 ?_
          refine go_nmU (fun u22 => ?_)
          refine go_aload_n 1 rfl dX6_drink_63 rfl ?_
          refine go_iload_n 2 rfl dX6_drink_64 rfl ?_
          refine go_iload_n 3 rfl dX6_drink_65 rfl ?_
          refine go_iconst (v := (1 : Int32)) dX6_drink_66 (by decide) ?_
          refine go_icmp_ne (tgt := 74) dX6_drink_67 (by decide) ?_ ?_
          · refine go_iconst (v := (0 : Int32)) dX6_drink_74 (by decide) ?_
            refine go_callVV (As := fun ad => [.int a1, .int (0 : Int32)]) (g_X6_helps a1 (0 : Int32) u22) mv_X6_helps clX6 kt_86 gw243 rfl ⟨Nat.le_of_ble_eq_true rfl, Nat.le_of_ble_eq_true rfl⟩ rfl (Nat.le_of_ble_eq_true rfl) dX6_drink_75 (fun r23 u24 => ?_)
            refine go_aload_n 1 rfl dX6_drink_78 rfl ?_
            refine go_iload_n 2 rfl dX6_drink_79 rfl ?_
            refine go_iconst (v := (0 : Int32)) dX6_drink_80 (by decide) ?_
            refine go_callVI (As := fun ad => [.int a1, .int (0 : Int32)]) (g_X6_isOf a1 (0 : Int32) u24) mv_X6_isOf clX6 kt_86 gw242 rfl ⟨Nat.le_of_ble_eq_true rfl, Nat.le_of_ble_eq_true rfl⟩ rfl (Nat.le_of_ble_eq_true rfl) dX6_drink_81 (fun r25 u26 => ?_)
            exact go_iret rfl dX6_drink_84
          · refine go_iconst (v := (1 : Int32)) dX6_drink_70 (by decide) ?_
            refine go_goto (tgt := 75) dX6_drink_71 (by decide) ?_
            refine go_callVV (As := fun ad => [.int a1, .int (1 : Int32)]) (g_X6_helps a1 (1 : Int32) u22) mv_X6_helps clX6 kt_86 gw243 rfl ⟨Nat.le_of_ble_eq_true rfl, Nat.le_of_ble_eq_true rfl⟩ rfl (Nat.le_of_ble_eq_true rfl) dX6_drink_75 (fun r27 u28 => ?_)
            refine go_aload_n 1 rfl dX6_drink_78 rfl ?_
            refine go_iload_n 2 rfl dX6_drink_79 rfl ?_
            refine go_iconst (v := (0 : Int32)) dX6_drink_80 (by decide) ?_
            refine go_callVI (As := fun ad => [.int a1, .int (0 : Int32)]) (g_X6_isOf a1 (0 : Int32) u28) mv_X6_isOf clX6 kt_86 gw242 rfl ⟨Nat.le_of_ble_eq_true rfl, Nat.le_of_ble_eq_true rfl⟩ rfl (Nat.le_of_ble_eq_true rfl) dX6_drink_81 (fun r29 u30 => ?_)
            exact go_iret rfl dX6_drink_84
        · refine go_aload_n 1 rfl dX6_drink_46 rfl ?_
          refine go_ldc (v := (-1000000005 : Int32)) gw244 dX6_drink_47 ?_
          refine go_callVI (As := fun ad => [.int (-1000000005 : Int32)]) (g_X6_finds (-1000000005 : Int32) u6) mv_X6_finds clX6 kt_86 gw219 rfl ⟨Nat.le_of_ble_eq_true rfl, Nat.le_of_ble_eq_true rfl⟩ rfl (Nat.le_of_ble_eq_true rfl) dX6_drink_49 (fun r31 u32 => ?_)
          exact go_iret rfl dX6_drink_52
    · refine go_aload_n 0 rfl dX6_drink_18 rfl ?_
      refine go_ldc (v := (-1000000001 : Int32)) gw205 dX6_drink_19 ?_
      refine go_callVI (As := fun ad => [.int (-1000000001 : Int32)]) (g_X6_finds (-1000000001 : Int32) u6) mv_X6_finds clX6 kt_86 gw219 rfl ⟨Nat.le_of_ble_eq_true rfl, Nat.le_of_ble_eq_true rfl⟩ rfl (Nat.le_of_ble_eq_true rfl) dX6_drink_21 (fun r33 u34 => ?_)
      exact go_iret rfl dX6_drink_24
def f_X6_bathes (a1 : Int32) (u : Uw) : Option (Unit × Uw) :=
  nm (u.1 20 (4 : Int32).toNatClampNeg) fun x1 =>
  nm (u.1 20 (2 : Int32).toNatClampNeg) fun x2 =>
  bd (f_X6_isHoly x1 x2 u) fun r3 u4 =>
  bd (f_X6_helps a1 (bI r3) u4) fun r5 u6 =>
  bd (f_X6_spot a1 (2 : Int32) u6) fun r7 u8 =>
  ck (inb r7 61) <|
  nm (u8.1 20 r7.toNatClampNeg) fun x10 =>
  bd (f_X6_isOf a1 (2 : Int32) u8) fun r11 u12 =>
  if (9999 : Int32) ≤ r11 then
  (nm (w1 u12 20 r7.toNatClampNeg (x10 + (0 : Int32))) fun u13 =>
  some ((), u13))
  else
  (nm (w1 u12 20 r7.toNatClampNeg (x10 + (1 : Int32))) fun u14 =>
  some ((), u14))
set_option maxHeartbeats 4000000 in
set_option maxRecDepth 100000 in
theorem g_X6_bathes (a1 : Int32) (u : Uw) : ∀ l, Con l yX6_bathes mi_X6_bathes ivV (fun ad => [.ref (ad 86), .int a1]) u (f_X6_bathes a1 u) := by
  refine con_of (by decide) rfl (fun _ => Nat.le_of_ble_eq_true rfl) (fun X ad => ?_)
  show Go X ad mi_X6_bathes ivV 0 [(0, .ref (ad 86)), (1, .int a1)] [] u (f_X6_bathes a1 u)
  unfold f_X6_bathes
  refine go_aload_n 0 rfl dX6_bathes_0 rfl ?_
  refine go_iload_n 1 rfl dX6_bathes_1 rfl ?_
  refine go_aload_n 0 rfl dX6_bathes_2 rfl ?_
  refine go_aload_n 0 rfl dX6_bathes_3 rfl ?_
  refine go_getR clX6 kt_86 0 (Nat.le_of_ble_eq_true rfl) (f := 87) (fun _ => rfl) gw207 dX6_bathes_4 ?_
  refine go_iconst (v := (4 : Int32)) dX6_bathes_7 (by decide) ?_
  refine go_ialdL kt_87 kr_87 kl_87 rfl dX6_bathes_8 ?_
  refine go_nm (fun x1 => ?_)
  refine go_aload_n 0 rfl dX6_bathes_9 rfl ?_
  refine go_getR clX6 kt_86 0 (Nat.le_of_ble_eq_true rfl) (f := 87) (fun _ => rfl) gw207 dX6_bathes_10 ?_
  refine go_iconst (v := (2 : Int32)) dX6_bathes_13 (by decide) ?_
  refine go_ialdL kt_87 kr_87 kl_87 rfl dX6_bathes_14 ?_
  refine go_nm (fun x2 => ?_)
  refine go_callVZ (As := fun ad => [.int x1, .int x2]) (g_X6_isHoly x1 x2 u) mv_X6_isHoly clX6 kt_86 gw236 rfl ⟨Nat.le_of_ble_eq_true rfl, Nat.le_of_ble_eq_true rfl⟩ rfl (Nat.le_of_ble_eq_true rfl) dX6_bathes_15 (fun r3 u4 => ?_)
  refine go_callVV (As := fun ad => [.int a1, .int (bI r3)]) (g_X6_helps a1 (bI r3) u4) mv_X6_helps clX6 kt_86 gw243 rfl ⟨Nat.le_of_ble_eq_true rfl, Nat.le_of_ble_eq_true rfl⟩ rfl (Nat.le_of_ble_eq_true rfl) dX6_bathes_18 (fun r5 u6 => ?_)
  refine go_aload_n 0 rfl dX6_bathes_21 rfl ?_
  refine go_getR clX6 kt_86 0 (Nat.le_of_ble_eq_true rfl) (f := 87) (fun _ => rfl) gw207 dX6_bathes_22 ?_
  refine go_iload_n 1 rfl dX6_bathes_25 rfl ?_
  refine go_iconst (v := (2 : Int32)) dX6_bathes_26 (by decide) ?_
  refine go_callSI (As := fun ad => [.int a1, .int (2 : Int32)]) (g_X6_spot a1 (2 : Int32) u6) mo_X6_spot gw213 gw214 rfl ⟨Nat.le_of_ble_eq_true rfl, Nat.le_of_ble_eq_true rfl⟩ rfl (Nat.le_of_ble_eq_true rfl) dX6_bathes_27 (fun r7 u8 => ?_)
  refine go_dup2 dX6_bathes_30 rfl rfl ?_
  refine go_ck (fun h9 => ?_)
  refine go_ialdL kt_87 kr_87 kl_87 h9 dX6_bathes_31 ?_
  refine go_nm (fun x10 => ?_)
  refine go_aload_n 0 rfl dX6_bathes_32 rfl ?_
  refine go_iload_n 1 rfl dX6_bathes_33 rfl ?_
  refine go_iconst (v := (2 : Int32)) dX6_bathes_34 (by decide) ?_
  refine go_callVI (As := fun ad => [.int a1, .int (2 : Int32)]) (g_X6_isOf a1 (2 : Int32) u8) mv_X6_isOf clX6 kt_86 gw242 rfl ⟨Nat.le_of_ble_eq_true rfl, Nat.le_of_ble_eq_true rfl⟩ rfl (Nat.le_of_ble_eq_true rfl) dX6_bathes_35 (fun r11 u12 => ?_)
  refine go_sipush (v := (9999 : Int32)) dX6_bathes_38 (by decide) ?_
  refine go_icmp_ge (tgt := 48) dX6_bathes_41 (by decide) ?_ ?_
  · refine go_iconst (v := (0 : Int32)) dX6_bathes_48 (by decide) ?_
    refine go_iadd dX6_bathes_49 ?_
    refine go_iastL kt_87 kr_87 kl_87 h9 dX6_bathes_50 ?_
    refine go_nmU (fun u13 => ?_)
    exact go_vret rfl dX6_bathes_51
  · refine go_iconst (v := (1 : Int32)) dX6_bathes_44 (by decide) ?_
    refine go_goto (tgt := 49) dX6_bathes_45 (by decide) ?_
    refine go_iadd dX6_bathes_49 ?_
    refine go_iastL kt_87 kr_87 kl_87 h9 dX6_bathes_50 ?_
    refine go_nmU (fun u14 => ?_)
    exact go_vret rfl dX6_bathes_51
def f_X6_bathe (a1 : Int32) (u : Uw) : Option (Int32 × Uw) :=
  bd (f_X6_isPilgrim a1 u) fun r1 u2 =>
  if r1 = true then
  (bd (f_X6_bathes a1 u2) fun r3 u4 =>
  bd (f_X6_isOf a1 (0 : Int32) u4) fun r5 u6 =>
  some (r5, u6))
  else
  (bd (f_X6_finds (-1000000001 : Int32) u2) fun r7 u8 =>
  some (r7, u8))
set_option maxHeartbeats 4000000 in
set_option maxRecDepth 100000 in
theorem g_X6_bathe (a1 : Int32) (u : Uw) : ∀ l, Con l yX6_bathe mi_X6_bathe ivI (fun ad => [.ref (ad 86), .int a1]) u (f_X6_bathe a1 u) := by
  refine con_of (by decide) rfl (fun _ => Nat.le_of_ble_eq_true rfl) (fun X ad => ?_)
  show Go X ad mi_X6_bathe ivI 0 [(0, .ref (ad 86)), (1, .int a1)] [] u (f_X6_bathe a1 u)
  unfold f_X6_bathe
  refine go_aload_n 0 rfl dX6_bathe_0 rfl ?_
  refine go_iload_n 1 rfl dX6_bathe_1 rfl ?_
  refine go_callVZ (As := fun ad => [.int a1]) (g_X6_isPilgrim a1 u) mv_X6_isPilgrim clX6 kt_86 gw240 rfl ⟨Nat.le_of_ble_eq_true rfl, Nat.le_of_ble_eq_true rfl⟩ rfl (Nat.le_of_ble_eq_true rfl) dX6_bathe_2 (fun r1 u2 => ?_)
  refine go_ifz_ne (tgt := 15) dX6_bathe_5 (by decide) ?_ ?_
  · refine go_aload_n 0 rfl dX6_bathe_15 rfl ?_
    refine go_iload_n 1 rfl dX6_bathe_16 rfl ?_
    refine go_callVV (As := fun ad => [.int a1]) (g_X6_bathes a1 u2) mv_X6_bathes clX6 kt_86 gw245 rfl ⟨Nat.le_of_ble_eq_true rfl, Nat.le_of_ble_eq_true rfl⟩ rfl (Nat.le_of_ble_eq_true rfl) dX6_bathe_17 (fun r3 u4 => ?_)
    refine go_aload_n 0 rfl dX6_bathe_20 rfl ?_
    refine go_iload_n 1 rfl dX6_bathe_21 rfl ?_
    refine go_iconst (v := (0 : Int32)) dX6_bathe_22 (by decide) ?_
    refine go_callVI (As := fun ad => [.int a1, .int (0 : Int32)]) (g_X6_isOf a1 (0 : Int32) u4) mv_X6_isOf clX6 kt_86 gw242 rfl ⟨Nat.le_of_ble_eq_true rfl, Nat.le_of_ble_eq_true rfl⟩ rfl (Nat.le_of_ble_eq_true rfl) dX6_bathe_23 (fun r5 u6 => ?_)
    exact go_iret rfl dX6_bathe_26
  · refine go_aload_n 0 rfl dX6_bathe_8 rfl ?_
    refine go_ldc (v := (-1000000001 : Int32)) gw205 dX6_bathe_9 ?_
    refine go_callVI (As := fun ad => [.int (-1000000001 : Int32)]) (g_X6_finds (-1000000001 : Int32) u2) mv_X6_finds clX6 kt_86 gw219 rfl ⟨Nat.le_of_ble_eq_true rfl, Nat.le_of_ble_eq_true rfl⟩ rfl (Nat.le_of_ble_eq_true rfl) dX6_bathe_11 (fun r7 u8 => ?_)
    exact go_iret rfl dX6_bathe_14
def b_X6_day_2 (ih2 : Int32 × Uw → Option (Unit × Uw)) (s : Int32 × Uw) : Option (Unit × Uw) :=
  nm (s.2.1 20 (1 : Int32).toNatClampNeg) fun x1 =>
  if x1 ≤ s.1 then
  (nm (s.2.1 20 (2 : Int32).toNatClampNeg) fun x2 =>
  if (x2 - x2 / (7 : Int32) * (7 : Int32)) = (2 : Int32) then
  (nm (s.2.1 20 (4 : Int32).toNatClampNeg) fun x5 =>
  nm (s.2.1 20 (2 : Int32).toNatClampNeg) fun x6 =>
  bd (f_X6_isHoly x5 x6 s.2) fun r7 u8 =>
  if r7 = true then
  (nm (u8.1 20 (5 : Int32).toNatClampNeg) fun x17 =>
  nm (u8.1 20 (5 : Int32).toNatClampNeg) fun x18 =>
  if (99 : Int32) ≤ x18 then
  (nm (w1 u8 20 (5 : Int32).toNatClampNeg (x17 + (0 : Int32))) fun u19 =>
  nm (u19.1 20 (2 : Int32).toNatClampNeg) fun x20 =>
  nm (w1 u19 20 (2 : Int32).toNatClampNeg (x20 + (1 : Int32))) fun u21 =>
  some ((), u21))
  else
  (nm (w1 u8 20 (5 : Int32).toNatClampNeg (x17 + (1 : Int32))) fun u22 =>
  nm (u22.1 20 (2 : Int32).toNatClampNeg) fun x23 =>
  nm (w1 u22 20 (2 : Int32).toNatClampNeg (x23 + (1 : Int32))) fun u24 =>
  some ((), u24)))
  else
  (nm (u8.1 20 (6 : Int32).toNatClampNeg) fun x9 =>
  nm (u8.1 20 (6 : Int32).toNatClampNeg) fun x10 =>
  if (99 : Int32) ≤ x10 then
  (nm (w1 u8 20 (6 : Int32).toNatClampNeg (x9 + (0 : Int32))) fun u11 =>
  nm (u11.1 20 (2 : Int32).toNatClampNeg) fun x12 =>
  nm (w1 u11 20 (2 : Int32).toNatClampNeg (x12 + (1 : Int32))) fun u13 =>
  some ((), u13))
  else
  (nm (w1 u8 20 (6 : Int32).toNatClampNeg (x9 + (1 : Int32))) fun u14 =>
  nm (u14.1 20 (2 : Int32).toNatClampNeg) fun x15 =>
  nm (w1 u14 20 (2 : Int32).toNatClampNeg (x15 + (1 : Int32))) fun u16 =>
  some ((), u16))))
  else
  (nm (s.2.1 20 (2 : Int32).toNatClampNeg) fun x3 =>
  nm (w1 s.2 20 (2 : Int32).toNatClampNeg (x3 + (1 : Int32))) fun u4 =>
  some ((), u4)))
  else
  (bd (f_X6_isOf s.1 (1 : Int32) s.2) fun r25 u26 =>
  bd (f_X6_isOf s.1 (0 : Int32) u26) fun r27 u28 =>
  if r27 ≤ 0 then
  (ih2 ((s.1 + (1 : Int32)), u28))
  else
  (if r25 < 0 then
  (bd (f_X6_bathes s.1 u28) fun r29 u30 =>
  ih2 ((s.1 + (1 : Int32)), u30))
  else
  (nm (u28.1 20 (2 : Int32).toNatClampNeg) fun x31 =>
  bd (f_X6_isHoly r25 x31 u28) fun r32 u33 =>
  if r32 = true then
  (bd (f_X6_bathes s.1 u33) fun r34 u35 =>
  ih2 ((s.1 + (1 : Int32)), u35))
  else
  (ih2 ((s.1 + (1 : Int32)), u33)))))
def f_X6_day (u : Uw) : Option (Unit × Uw) :=
  lp b_X6_day_2 2100 ((0 : Int32), u)
set_option maxHeartbeats 4000000 in
set_option maxRecDepth 100000 in
theorem gl_X6_day_2 (X : Cx) (ad : Nat → Nat) : ∀ (n : Nat) (s : Int32 × Uw), Go X ad mi_X6_day ivV 2 [(0, .ref (ad 86)), (1, .int s.1)] [] s.2 (lp b_X6_day_2 n s) := by
  refine go_lp (G := fun (s : Int32 × Uw) o => Go X ad mi_X6_day ivV 2 [(0, .ref (ad 86)), (1, .int s.1)] [] s.2 o) (fun _ => go_none) (fun ih2 hih2 s => ?_)
  show Go X ad mi_X6_day ivV 2 [(0, .ref (ad 86)), (1, .int s.1)] [] s.2 (b_X6_day_2 ih2 s)
  unfold b_X6_day_2
  refine go_iload_n 1 rfl dX6_day_2 rfl ?_
  refine go_aload_n 0 rfl dX6_day_3 rfl ?_
  refine go_getR clX6 kt_86 0 (Nat.le_of_ble_eq_true rfl) (f := 87) (fun _ => rfl) gw207 dX6_day_4 ?_
  refine go_iconst (v := (1 : Int32)) dX6_day_7 (by decide) ?_
  refine go_ialdL kt_87 kr_87 kl_87 rfl dX6_day_8 ?_
  refine go_nm (fun x1 => ?_)
  refine go_icmp_ge (tgt := 57) dX6_day_9 (by decide) ?_ ?_
  · refine go_aload_n 0 rfl dX6_day_57 rfl ?_
    refine go_getR clX6 kt_86 0 (Nat.le_of_ble_eq_true rfl) (f := 87) (fun _ => rfl) gw207 dX6_day_58 ?_
    refine go_iconst (v := (2 : Int32)) dX6_day_61 (by decide) ?_
    refine go_ialdL kt_87 kr_87 kl_87 rfl dX6_day_62 ?_
    refine go_nm (fun x2 => ?_)
    refine go_bipush (v := (7 : Int32)) dX6_day_63 (by decide) ?_
    refine go_irem (by decide) dX6_day_65 ?_
    refine go_iconst (v := (2 : Int32)) dX6_day_66 (by decide) ?_
    refine go_icmp_ne (tgt := 121) dX6_day_67 (by decide) ?_ ?_
    · refine go_aload_n 0 rfl dX6_day_121 rfl ?_
      refine go_getR clX6 kt_86 0 (Nat.le_of_ble_eq_true rfl) (f := 87) (fun _ => rfl) gw207 dX6_day_122 ?_
      refine go_iconst (v := (2 : Int32)) dX6_day_125 (by decide) ?_
      refine go_dup2 dX6_day_126 rfl rfl ?_
      refine go_ialdL kt_87 kr_87 kl_87 rfl dX6_day_127 ?_
      refine go_nm (fun x3 => ?_)
      refine go_iconst (v := (1 : Int32)) dX6_day_128 (by decide) ?_
      refine go_iadd dX6_day_129 ?_
      refine go_iastL kt_87 kr_87 kl_87 rfl dX6_day_130 ?_
      refine go_nmU (fun u4 => ?_)
      exact go_vret rfl dX6_day_131
    · refine go_aload_n 0 rfl dX6_day_70 rfl ?_
      refine go_aload_n 0 rfl dX6_day_71 rfl ?_
      refine go_getR clX6 kt_86 0 (Nat.le_of_ble_eq_true rfl) (f := 87) (fun _ => rfl) gw207 dX6_day_72 ?_
      refine go_iconst (v := (4 : Int32)) dX6_day_75 (by decide) ?_
      refine go_ialdL kt_87 kr_87 kl_87 rfl dX6_day_76 ?_
      refine go_nm (fun x5 => ?_)
      refine go_aload_n 0 rfl dX6_day_77 rfl ?_
      refine go_getR clX6 kt_86 0 (Nat.le_of_ble_eq_true rfl) (f := 87) (fun _ => rfl) gw207 dX6_day_78 ?_
      refine go_iconst (v := (2 : Int32)) dX6_day_81 (by decide) ?_
      refine go_ialdL kt_87 kr_87 kl_87 rfl dX6_day_82 ?_
      refine go_nm (fun x6 => ?_)
      refine go_callVZ (As := fun ad => [.int x5, .int x6]) (g_X6_isHoly x5 x6 s.2) mv_X6_isHoly clX6 kt_86 gw236 rfl ⟨Nat.le_of_ble_eq_true rfl, Nat.le_of_ble_eq_true rfl⟩ rfl (Nat.le_of_ble_eq_true rfl) dX6_day_83 (fun r7 u8 => ?_)
      refine go_ifz_eq (tgt := 93) dX6_day_86 (by decide) ?_ ?_
      · refine go_bipush (v := (6 : Int32)) dX6_day_93 (by decide) ?_
        refine go_istore_n (lv' := [(1, .int (6 : Int32)), (0, .ref (ad 86))]) dX6_day_95 rfl (Nat.le_of_ble_eq_true rfl) rfl ?_
        refine go_aload_n 1 rfl dX6_day_96 rfl ?_
        refine go_getR clX6 kt_86 0 (Nat.le_of_ble_eq_true rfl) (f := 87) (fun _ => rfl) gw207 dX6_day_97 ?_
        refine go_iload_n 0 rfl dX6_day_100 rfl ?_
        refine go_dup2 dX6_day_101 rfl rfl ?_
        refine go_ialdL kt_87 kr_87 kl_87 rfl dX6_day_102 ?_
        refine go_nm (fun x9 => ?_)
        refine go_aload_n 1 rfl dX6_day_103 rfl ?_
        refine go_getR clX6 kt_86 0 (Nat.le_of_ble_eq_true rfl) (f := 87) (fun _ => rfl) gw207 dX6_day_104 ?_
        refine go_iload_n 0 rfl dX6_day_107 rfl ?_
        refine go_ialdL kt_87 kr_87 kl_87 rfl dX6_day_108 ?_
        refine go_nm (fun x10 => ?_)
        refine go_bipush (v := (99 : Int32)) dX6_day_109 (by decide) ?_
        refine go_icmp_ge (tgt := 118) dX6_day_111 (by decide) ?_ ?_
        · refine go_iconst (v := (0 : Int32)) dX6_day_118 (by decide) ?_
          refine go_iadd dX6_day_119 ?_
          refine go_iastL kt_87 kr_87 kl_87 rfl dX6_day_120 ?_
          refine go_nmU (fun u11 => ?_)
          refine go_aload_n 1 rfl dX6_day_121 rfl ?_
          refine go_getR clX6 kt_86 0 (Nat.le_of_ble_eq_true rfl) (f := 87) (fun _ => rfl) gw207 dX6_day_122 ?_
          refine go_iconst (v := (2 : Int32)) dX6_day_125 (by decide) ?_
          refine go_dup2 dX6_day_126 rfl rfl ?_
          refine go_ialdL kt_87 kr_87 kl_87 rfl dX6_day_127 ?_
          refine go_nm (fun x12 => ?_)
          refine go_iconst (v := (1 : Int32)) dX6_day_128 (by decide) ?_
          refine go_iadd dX6_day_129 ?_
          refine go_iastL kt_87 kr_87 kl_87 rfl dX6_day_130 ?_
          refine go_nmU (fun u13 => ?_)
          exact go_vret rfl dX6_day_131
        · refine go_iconst (v := (1 : Int32)) dX6_day_114 (by decide) ?_
          refine go_goto (tgt := 119) dX6_day_115 (by decide) ?_
          refine go_iadd dX6_day_119 ?_
          refine go_iastL kt_87 kr_87 kl_87 rfl dX6_day_120 ?_
          refine go_nmU (fun u14 => ?_)
          refine go_aload_n 1 rfl dX6_day_121 rfl ?_
          refine go_getR clX6 kt_86 0 (Nat.le_of_ble_eq_true rfl) (f := 87) (fun _ => rfl) gw207 dX6_day_122 ?_
          refine go_iconst (v := (2 : Int32)) dX6_day_125 (by decide) ?_
          refine go_dup2 dX6_day_126 rfl rfl ?_
          refine go_ialdL kt_87 kr_87 kl_87 rfl dX6_day_127 ?_
          refine go_nm (fun x15 => ?_)
          refine go_iconst (v := (1 : Int32)) dX6_day_128 (by decide) ?_
          refine go_iadd dX6_day_129 ?_
          refine go_iastL kt_87 kr_87 kl_87 rfl dX6_day_130 ?_
          refine go_nmU (fun u16 => ?_)
          exact go_vret rfl dX6_day_131
      · refine go_iconst (v := (5 : Int32)) dX6_day_89 (by decide) ?_
        refine go_goto (tgt := 95) dX6_day_90 (by decide) ?_
        refine go_istore_n (lv' := [(1, .int (5 : Int32)), (0, .ref (ad 86))]) dX6_day_95 rfl (Nat.le_of_ble_eq_true rfl) rfl ?_
        refine go_aload_n 1 rfl dX6_day_96 rfl ?_
        refine go_getR clX6 kt_86 0 (Nat.le_of_ble_eq_true rfl) (f := 87) (fun _ => rfl) gw207 dX6_day_97 ?_
        refine go_iload_n 0 rfl dX6_day_100 rfl ?_
        refine go_dup2 dX6_day_101 rfl rfl ?_
        refine go_ialdL kt_87 kr_87 kl_87 rfl dX6_day_102 ?_
        refine go_nm (fun x17 => ?_)
        refine go_aload_n 1 rfl dX6_day_103 rfl ?_
        refine go_getR clX6 kt_86 0 (Nat.le_of_ble_eq_true rfl) (f := 87) (fun _ => rfl) gw207 dX6_day_104 ?_
        refine go_iload_n 0 rfl dX6_day_107 rfl ?_
        refine go_ialdL kt_87 kr_87 kl_87 rfl dX6_day_108 ?_
        refine go_nm (fun x18 => ?_)
        refine go_bipush (v := (99 : Int32)) dX6_day_109 (by decide) ?_
        refine go_icmp_ge (tgt := 118) dX6_day_111 (by decide) ?_ ?_
        · refine go_iconst (v := (0 : Int32)) dX6_day_118 (by decide) ?_
          refine go_iadd dX6_day_119 ?_
          refine go_iastL kt_87 kr_87 kl_87 rfl dX6_day_120 ?_
          refine go_nmU (fun u19 => ?_)
          refine go_aload_n 1 rfl dX6_day_121 rfl ?_
          refine go_getR clX6 kt_86 0 (Nat.le_of_ble_eq_true rfl) (f := 87) (fun _ => rfl) gw207 dX6_day_122 ?_
          refine go_iconst (v := (2 : Int32)) dX6_day_125 (by decide) ?_
          refine go_dup2 dX6_day_126 rfl rfl ?_
          refine go_ialdL kt_87 kr_87 kl_87 rfl dX6_day_127 ?_
          refine go_nm (fun x20 => ?_)
          refine go_iconst (v := (1 : Int32)) dX6_day_128 (by decide) ?_
          refine go_iadd dX6_day_129 ?_
          refine go_iastL kt_87 kr_87 kl_87 rfl dX6_day_130 ?_
          refine go_nmU (fun u21 => ?_)
          exact go_vret rfl dX6_day_131
        · refine go_iconst (v := (1 : Int32)) dX6_day_114 (by decide) ?_
          refine go_goto (tgt := 119) dX6_day_115 (by decide) ?_
          refine go_iadd dX6_day_119 ?_
          refine go_iastL kt_87 kr_87 kl_87 rfl dX6_day_120 ?_
          refine go_nmU (fun u22 => ?_)
          refine go_aload_n 1 rfl dX6_day_121 rfl ?_
          refine go_getR clX6 kt_86 0 (Nat.le_of_ble_eq_true rfl) (f := 87) (fun _ => rfl) gw207 dX6_day_122 ?_
          refine go_iconst (v := (2 : Int32)) dX6_day_125 (by decide) ?_
          refine go_dup2 dX6_day_126 rfl rfl ?_
          refine go_ialdL kt_87 kr_87 kl_87 rfl dX6_day_127 ?_
          refine go_nm (fun x23 => ?_)
          refine go_iconst (v := (1 : Int32)) dX6_day_128 (by decide) ?_
          refine go_iadd dX6_day_129 ?_
          refine go_iastL kt_87 kr_87 kl_87 rfl dX6_day_130 ?_
          refine go_nmU (fun u24 => ?_)
          exact go_vret rfl dX6_day_131
  · refine go_aload_n 0 rfl dX6_day_12 rfl ?_
    refine go_iload_n 1 rfl dX6_day_13 rfl ?_
    refine go_iconst (v := (1 : Int32)) dX6_day_14 (by decide) ?_
    refine go_callVI (As := fun ad => [.int s.1, .int (1 : Int32)]) (g_X6_isOf s.1 (1 : Int32) s.2) mv_X6_isOf clX6 kt_86 gw242 rfl ⟨Nat.le_of_ble_eq_true rfl, Nat.le_of_ble_eq_true rfl⟩ rfl (Nat.le_of_ble_eq_true rfl) dX6_day_15 (fun r25 u26 => ?_)
    refine go_istore_n (lv' := [(2, .int r25), (0, .ref (ad 86)), (1, .int s.1)]) dX6_day_18 rfl (Nat.le_of_ble_eq_true rfl) rfl ?_
    refine go_aload_n 1 rfl dX6_day_19 rfl ?_
    refine go_iload_n 2 rfl dX6_day_20 rfl ?_
    refine go_iconst (v := (0 : Int32)) dX6_day_21 (by decide) ?_
    refine go_callVI (As := fun ad => [.int s.1, .int (0 : Int32)]) (g_X6_isOf s.1 (0 : Int32) u26) mv_X6_isOf clX6 kt_86 gw242 rfl ⟨Nat.le_of_ble_eq_true rfl, Nat.le_of_ble_eq_true rfl⟩ rfl (Nat.le_of_ble_eq_true rfl) dX6_day_22 (fun r27 u28 => ?_)
    refine go_if_le (tgt := 51) dX6_day_25 (by decide) ?_ ?_
    · refine go_iinc (v := (s.1 + (1 : Int32))) (lv' := [(1, .int (s.1 + (1 : Int32))), (2, .int r25), (0, .ref (ad 86))]) 2 rfl dX6_day_51 rfl (Nat.le_of_ble_eq_true rfl) rfl ?_
      refine go_goto (tgt := 2) dX6_day_54 (by decide) ?_
      exact go_sub [2, 0] rfl (hih2 ((s.1 + (1 : Int32)), u28))
    · refine go_iload_n 0 rfl dX6_day_28 rfl ?_
      refine go_if_lt (tgt := 46) dX6_day_29 (by decide) ?_ ?_
      · refine go_aload_n 1 rfl dX6_day_46 rfl ?_
        refine go_iload_n 2 rfl dX6_day_47 rfl ?_
        refine go_callVV (As := fun ad => [.int s.1]) (g_X6_bathes s.1 u28) mv_X6_bathes clX6 kt_86 gw245 rfl ⟨Nat.le_of_ble_eq_true rfl, Nat.le_of_ble_eq_true rfl⟩ rfl (Nat.le_of_ble_eq_true rfl) dX6_day_48 (fun r29 u30 => ?_)
        refine go_iinc (v := (s.1 + (1 : Int32))) (lv' := [(1, .int (s.1 + (1 : Int32))), (2, .int r25), (0, .ref (ad 86))]) 2 rfl dX6_day_51 rfl (Nat.le_of_ble_eq_true rfl) rfl ?_
        refine go_goto (tgt := 2) dX6_day_54 (by decide) ?_
        exact go_sub [2, 0] rfl (hih2 ((s.1 + (1 : Int32)), u30))
      · refine go_aload_n 1 rfl dX6_day_32 rfl ?_
        refine go_iload_n 0 rfl dX6_day_33 rfl ?_
        refine go_aload_n 1 rfl dX6_day_34 rfl ?_
        refine go_getR clX6 kt_86 0 (Nat.le_of_ble_eq_true rfl) (f := 87) (fun _ => rfl) gw207 dX6_day_35 ?_
        refine go_iconst (v := (2 : Int32)) dX6_day_38 (by decide) ?_
        refine go_ialdL kt_87 kr_87 kl_87 rfl dX6_day_39 ?_
        refine go_nm (fun x31 => ?_)
        refine go_callVZ (As := fun ad => [.int r25, .int x31]) (g_X6_isHoly r25 x31 u28) mv_X6_isHoly clX6 kt_86 gw236 rfl ⟨Nat.le_of_ble_eq_true rfl, Nat.le_of_ble_eq_true rfl⟩ rfl (Nat.le_of_ble_eq_true rfl) dX6_day_40 (fun r32 u33 => ?_)
        refine go_ifz_eq (tgt := 51) dX6_day_43 (by decide) ?_ ?_
        · refine go_iinc (v := (s.1 + (1 : Int32))) (lv' := [(1, .int (s.1 + (1 : Int32))), (2, .int r25), (0, .ref (ad 86))]) 2 rfl dX6_day_51 rfl (Nat.le_of_ble_eq_true rfl) rfl ?_
          refine go_goto (tgt := 2) dX6_day_54 (by decide) ?_
          exact go_sub [2, 0] rfl (hih2 ((s.1 + (1 : Int32)), u33))
        · refine go_aload_n 1 rfl dX6_day_46 rfl ?_
          refine go_iload_n 2 rfl dX6_day_47 rfl ?_
          refine go_callVV (As := fun ad => [.int s.1]) (g_X6_bathes s.1 u33) mv_X6_bathes clX6 kt_86 gw245 rfl ⟨Nat.le_of_ble_eq_true rfl, Nat.le_of_ble_eq_true rfl⟩ rfl (Nat.le_of_ble_eq_true rfl) dX6_day_48 (fun r34 u35 => ?_)
          refine go_iinc (v := (s.1 + (1 : Int32))) (lv' := [(1, .int (s.1 + (1 : Int32))), (2, .int r25), (0, .ref (ad 86))]) 2 rfl dX6_day_51 rfl (Nat.le_of_ble_eq_true rfl) rfl ?_
          refine go_goto (tgt := 2) dX6_day_54 (by decide) ?_
          exact go_sub [2, 0] rfl (hih2 ((s.1 + (1 : Int32)), u35))
set_option maxHeartbeats 4000000 in
set_option maxRecDepth 100000 in
theorem g_X6_day (u : Uw) : ∀ l, Con l yX6_day mi_X6_day ivV (fun ad => [.ref (ad 86)]) u (f_X6_day u) := by
  refine con_of (by decide) rfl (fun _ => Nat.le_of_ble_eq_true rfl) (fun X ad => ?_)
  show Go X ad mi_X6_day ivV 0 [(0, .ref (ad 86))] [] u (f_X6_day u)
  unfold f_X6_day
  refine go_iconst (v := (0 : Int32)) dX6_day_0 (by decide) ?_
  refine go_istore_n (lv' := [(1, .int (0 : Int32)), (0, .ref (ad 86))]) dX6_day_1 rfl (Nat.le_of_ble_eq_true rfl) rfl ?_
  exact go_sub [1, 0] rfl (gl_X6_day_2 X ad  2100 ((0 : Int32), u))
def b_X6_goesOn_2 (ih2 : Int32 × Int32 × Uw → Option (Unit × Uw)) (s : Int32 × Int32 × Uw) : Option (Unit × Uw) :=
  if s.1 ≤ s.2.1 then
  (some ((), s.2.2))
  else
  (bd (f_X6_day  s.2.2) fun r1 u2 =>
  ih2 (s.1, (s.2.1 + (1 : Int32)), u2))
def f_X6_goesOn (a1 : Int32) (u : Uw) : Option (Unit × Uw) :=
  lp b_X6_goesOn_2 2100 (a1, (0 : Int32), u)
set_option maxHeartbeats 4000000 in
set_option maxRecDepth 100000 in
theorem gl_X6_goesOn_2 (X : Cx) (ad : Nat → Nat) : ∀ (n : Nat) (s : Int32 × Int32 × Uw), Go X ad mi_X6_goesOn ivV 2 [(0, .ref (ad 86)), (1, .int s.1), (2, .int s.2.1)] [] s.2.2 (lp b_X6_goesOn_2 n s) := by
  refine go_lp (G := fun (s : Int32 × Int32 × Uw) o => Go X ad mi_X6_goesOn ivV 2 [(0, .ref (ad 86)), (1, .int s.1), (2, .int s.2.1)] [] s.2.2 o) (fun _ => go_none) (fun ih2 hih2 s => ?_)
  show Go X ad mi_X6_goesOn ivV 2 [(0, .ref (ad 86)), (1, .int s.1), (2, .int s.2.1)] [] s.2.2 (b_X6_goesOn_2 ih2 s)
  unfold b_X6_goesOn_2
  refine go_iload_n 2 rfl dX6_goesOn_2 rfl ?_
  refine go_iload_n 1 rfl dX6_goesOn_3 rfl ?_
  refine go_icmp_ge (tgt := 17) dX6_goesOn_4 (by decide) ?_ ?_
  · exact go_vret rfl dX6_goesOn_17
  · refine go_aload_n 0 rfl dX6_goesOn_7 rfl ?_
    refine go_callVV (As := fun ad => []) (g_X6_day  s.2.2) mv_X6_day clX6 kt_86 gw246 rfl ⟨Nat.le_of_ble_eq_true rfl, Nat.le_of_ble_eq_true rfl⟩ rfl (Nat.le_of_ble_eq_true rfl) dX6_goesOn_8 (fun r1 u2 => ?_)
    refine go_iinc (v := (s.2.1 + (1 : Int32))) (lv' := [(2, .int (s.2.1 + (1 : Int32))), (0, .ref (ad 86)), (1, .int s.1)]) 2 rfl dX6_goesOn_11 rfl (Nat.le_of_ble_eq_true rfl) rfl ?_
    refine go_goto (tgt := 2) dX6_goesOn_14 (by decide) ?_
    exact go_sub [1, 2, 0] rfl (hih2 (s.1, (s.2.1 + (1 : Int32)), u2))
set_option maxHeartbeats 4000000 in
set_option maxRecDepth 100000 in
theorem g_X6_goesOn (a1 : Int32) (u : Uw) : ∀ l, Con l yX6_goesOn mi_X6_goesOn ivV (fun ad => [.ref (ad 86), .int a1]) u (f_X6_goesOn a1 u) := by
  refine con_of (by decide) rfl (fun _ => Nat.le_of_ble_eq_true rfl) (fun X ad => ?_)
  show Go X ad mi_X6_goesOn ivV 0 [(0, .ref (ad 86)), (1, .int a1)] [] u (f_X6_goesOn a1 u)
  unfold f_X6_goesOn
  refine go_iconst (v := (0 : Int32)) dX6_goesOn_0 (by decide) ?_
  refine go_istore_n (lv' := [(2, .int (0 : Int32)), (0, .ref (ad 86)), (1, .int a1)]) dX6_goesOn_1 rfl (Nat.le_of_ble_eq_true rfl) rfl ?_
  exact go_sub [1, 2, 0] rfl (gl_X6_goesOn_2 X ad  2100 (a1, (0 : Int32), u))
def b_X6_wellOnes_4 (ih4 : Int32 × Int32 × Uw → Option (Int32 × Uw)) (s : Int32 × Int32 × Uw) : Option (Int32 × Uw) :=
  nm (s.2.2.1 20 (1 : Int32).toNatClampNeg) fun x1 =>
  if x1 ≤ s.2.1 then
  (some (s.1, s.2.2))
  else
  (bd (f_X6_isOf s.2.1 (0 : Int32) s.2.2) fun r2 u3 =>
  if r2 = 0 then
  (nm (s.1 ||| ((1 : Int32) <<< (s.2.1 &&& 31))) fun x5 =>
  ih4 (x5, (s.2.1 + (1 : Int32)), u3))
  else
  (nm (s.1 ||| (0 : Int32)) fun x4 =>
  ih4 (x4, (s.2.1 + (1 : Int32)), u3)))
def f_X6_wellOnes (u : Uw) : Option (Int32 × Uw) :=
  lp b_X6_wellOnes_4 2100 ((0 : Int32), (0 : Int32), u)
set_option maxHeartbeats 4000000 in
set_option maxRecDepth 100000 in
theorem gl_X6_wellOnes_4 (X : Cx) (ad : Nat → Nat) : ∀ (n : Nat) (s : Int32 × Int32 × Uw), Go X ad mi_X6_wellOnes ivI 4 [(0, .ref (ad 86)), (1, .int s.1), (2, .int s.2.1)] [] s.2.2 (lp b_X6_wellOnes_4 n s) := by
  refine go_lp (G := fun (s : Int32 × Int32 × Uw) o => Go X ad mi_X6_wellOnes ivI 4 [(0, .ref (ad 86)), (1, .int s.1), (2, .int s.2.1)] [] s.2.2 o) (fun _ => go_none) (fun ih4 hih4 s => ?_)
  show Go X ad mi_X6_wellOnes ivI 4 [(0, .ref (ad 86)), (1, .int s.1), (2, .int s.2.1)] [] s.2.2 (b_X6_wellOnes_4 ih4 s)
  unfold b_X6_wellOnes_4
  refine go_iload_n 2 rfl dX6_wellOnes_4 rfl ?_
  refine go_aload_n 0 rfl dX6_wellOnes_5 rfl ?_
  refine go_getR clX6 kt_86 0 (Nat.le_of_ble_eq_true rfl) (f := 87) (fun _ => rfl) gw207 dX6_wellOnes_6 ?_
  refine go_iconst (v := (1 : Int32)) dX6_wellOnes_9 (by decide) ?_
  refine go_ialdL kt_87 kr_87 kl_87 rfl dX6_wellOnes_10 ?_
  refine go_nm (fun x1 => ?_)
  refine go_icmp_ge (tgt := 39) dX6_wellOnes_11 (by decide) ?_ ?_
  · refine go_iload_n 1 rfl dX6_wellOnes_39 rfl ?_
    exact go_iret rfl dX6_wellOnes_40
  · refine go_iload_n 1 rfl dX6_wellOnes_14 rfl ?_
    refine go_aload_n 0 rfl dX6_wellOnes_15 rfl ?_
    refine go_iload_n 2 rfl dX6_wellOnes_16 rfl ?_
    refine go_iconst (v := (0 : Int32)) dX6_wellOnes_17 (by decide) ?_
    refine go_callVI (As := fun ad => [.int s.2.1, .int (0 : Int32)]) (g_X6_isOf s.2.1 (0 : Int32) s.2.2) mv_X6_isOf clX6 kt_86 gw242 rfl ⟨Nat.le_of_ble_eq_true rfl, Nat.le_of_ble_eq_true rfl⟩ rfl (Nat.le_of_ble_eq_true rfl) dX6_wellOnes_18 (fun r2 u3 => ?_)
    refine go_if_ne (tgt := 30) dX6_wellOnes_21 (by decide) ?_ ?_
    · refine go_iconst (v := (0 : Int32)) dX6_wellOnes_30 (by decide) ?_
      refine go_ior dX6_wellOnes_31 ?_
      refine go_nm (fun x4 => ?_)
      refine go_istore_n (lv' := [(1, .int x4), (0, .ref (ad 86)), (2, .int s.2.1)]) dX6_wellOnes_32 rfl (Nat.le_of_ble_eq_true rfl) rfl ?_
      refine go_iinc (v := (s.2.1 + (1 : Int32))) (lv' := [(2, .int (s.2.1 + (1 : Int32))), (1, .int x4), (0, .ref (ad 86))]) 2 rfl dX6_wellOnes_33 rfl (Nat.le_of_ble_eq_true rfl) rfl ?_
      refine go_goto (tgt := 4) dX6_wellOnes_36 (by decide) ?_
      exact go_sub [2, 1, 0] rfl (hih4 (x4, (s.2.1 + (1 : Int32)), u3))
    · refine go_iconst (v := (1 : Int32)) dX6_wellOnes_24 (by decide) ?_
      refine go_iload_n 2 rfl dX6_wellOnes_25 rfl ?_
      refine go_ishl dX6_wellOnes_26 ?_
      refine go_goto (tgt := 31) dX6_wellOnes_27 (by decide) ?_
      refine go_ior dX6_wellOnes_31 ?_
      refine go_nm (fun x5 => ?_)
      refine go_istore_n (lv' := [(1, .int x5), (0, .ref (ad 86)), (2, .int s.2.1)]) dX6_wellOnes_32 rfl (Nat.le_of_ble_eq_true rfl) rfl ?_
      refine go_iinc (v := (s.2.1 + (1 : Int32))) (lv' := [(2, .int (s.2.1 + (1 : Int32))), (1, .int x5), (0, .ref (ad 86))]) 2 rfl dX6_wellOnes_33 rfl (Nat.le_of_ble_eq_true rfl) rfl ?_
      refine go_goto (tgt := 4) dX6_wellOnes_36 (by decide) ?_
      exact go_sub [2, 1, 0] rfl (hih4 (x5, (s.2.1 + (1 : Int32)), u3))
set_option maxHeartbeats 4000000 in
set_option maxRecDepth 100000 in
theorem g_X6_wellOnes (u : Uw) : ∀ l, Con l yX6_wellOnes mi_X6_wellOnes ivI (fun ad => [.ref (ad 86)]) u (f_X6_wellOnes u) := by
  refine con_of (by decide) rfl (fun _ => Nat.le_of_ble_eq_true rfl) (fun X ad => ?_)
  show Go X ad mi_X6_wellOnes ivI 0 [(0, .ref (ad 86))] [] u (f_X6_wellOnes u)
  unfold f_X6_wellOnes
  refine go_iconst (v := (0 : Int32)) dX6_wellOnes_0 (by decide) ?_
  refine go_istore_n (lv' := [(1, .int (0 : Int32)), (0, .ref (ad 86))]) dX6_wellOnes_1 rfl (Nat.le_of_ble_eq_true rfl) rfl ?_
  refine go_iconst (v := (0 : Int32)) dX6_wellOnes_2 (by decide) ?_
  refine go_istore_n (lv' := [(2, .int (0 : Int32)), (1, .int (0 : Int32)), (0, .ref (ad 86))]) dX6_wellOnes_3 rfl (Nat.le_of_ble_eq_true rfl) rfl ?_
  exact go_sub [2, 1, 0] rfl (gl_X6_wellOnes_4 X ad  2100 ((0 : Int32), (0 : Int32), u))
def b_X6_ones_4 (ih4 : Int32 × Int32 × Uw → Option (Int32 × Uw)) (s : Int32 × Int32 × Uw) : Option (Int32 × Uw) :=
  if s.2.1 = 0 then
  (some (s.1, s.2.2))
  else
  (nm (s.2.1 &&& (s.2.1 - (1 : Int32))) fun x1 =>
  ih4 ((s.1 + (1 : Int32)), x1, s.2.2))
def f_X6_ones (a0 : Int32) (u : Uw) : Option (Int32 × Uw) :=
  lp b_X6_ones_4 2100 ((0 : Int32), a0, u)
set_option maxHeartbeats 4000000 in
set_option maxRecDepth 100000 in
theorem gl_X6_ones_4 (X : Cx) (ad : Nat → Nat) : ∀ (n : Nat) (s : Int32 × Int32 × Uw), Go X ad mi_X6_ones ivI 4 [(1, .int s.1), (2, .int s.2.1)] [] s.2.2 (lp b_X6_ones_4 n s) := by
  refine go_lp (G := fun (s : Int32 × Int32 × Uw) o => Go X ad mi_X6_ones ivI 4 [(1, .int s.1), (2, .int s.2.1)] [] s.2.2 o) (fun _ => go_none) (fun ih4 hih4 s => ?_)
  show Go X ad mi_X6_ones ivI 4 [(1, .int s.1), (2, .int s.2.1)] [] s.2.2 (b_X6_ones_4 ih4 s)
  unfold b_X6_ones_4
  refine go_iload_n 1 rfl dX6_ones_4 rfl ?_
  refine go_if_eq (tgt := 20) dX6_ones_5 (by decide) ?_ ?_
  · refine go_iload_n 0 rfl dX6_ones_20 rfl ?_
    exact go_iret rfl dX6_ones_21
  · refine go_iinc (v := (s.1 + (1 : Int32))) (lv' := [(1, .int (s.1 + (1 : Int32))), (2, .int s.2.1)]) 0 rfl dX6_ones_8 rfl (Nat.le_of_ble_eq_true rfl) rfl ?_
    refine go_iload_n 1 rfl dX6_ones_11 rfl ?_
    refine go_iload_n 1 rfl dX6_ones_12 rfl ?_
    refine go_iconst (v := (1 : Int32)) dX6_ones_13 (by decide) ?_
    refine go_isub dX6_ones_14 ?_
    refine go_iand dX6_ones_15 ?_
    refine go_nm (fun x1 => ?_)
    refine go_istore_n (lv' := [(2, .int x1), (1, .int (s.1 + (1 : Int32)))]) dX6_ones_16 rfl (Nat.le_of_ble_eq_true rfl) rfl ?_
    refine go_goto (tgt := 4) dX6_ones_17 (by decide) ?_
    exact go_sub [1, 0] rfl (hih4 ((s.1 + (1 : Int32)), x1, s.2.2))
set_option maxHeartbeats 4000000 in
set_option maxRecDepth 100000 in
theorem g_X6_ones (a0 : Int32) (u : Uw) : ∀ l, Con l yX6_ones mi_X6_ones ivI (fun ad => [.int a0]) u (f_X6_ones a0 u) := by
  refine con_of (by decide) rfl (fun _ => Nat.le_of_ble_eq_true rfl) (fun X ad => ?_)
  show Go X ad mi_X6_ones ivI 0 [(0, .int a0)] [] u (f_X6_ones a0 u)
  unfold f_X6_ones
  refine go_iconst (v := (0 : Int32)) dX6_ones_0 (by decide) ?_
  refine go_istore_n (lv' := [(1, .int (0 : Int32)), (0, .int a0)]) dX6_ones_1 rfl (Nat.le_of_ble_eq_true rfl) rfl ?_
  refine go_iload_n 1 rfl dX6_ones_2 rfl ?_
  refine go_istore_n (lv' := [(2, .int a0), (1, .int (0 : Int32)), (0, .int a0)]) dX6_ones_3 rfl (Nat.le_of_ble_eq_true rfl) rfl ?_
  exact go_sub [1, 0] rfl (gl_X6_ones_4 X ad  2100 ((0 : Int32), a0, u))
def f_X6_days (a1 : Int32) (u : Uw) : Option (Int32 × Uw) :=
  bd (f_X6_in (a1.toInt64) (1 : Int64) (400 : Int64) u) fun r1 u2 =>
  if r1 = true then
  (nm (u2.1 20 (2 : Int32).toNatClampNeg) fun x3 =>
  if (x3 + a1) ≤ (99999 : Int32) then
  (bd (f_X6_goesOn a1 u2) fun r4 u5 =>
  bd (f_X6_wellOnes  u5) fun r6 u7 =>
  bd (f_X6_ones r6 u7) fun r8 u9 =>
  some (r8, u9))
  else
  (bd (f_X6_finds (-1000000005 : Int32) u2) fun r10 u11 =>
  some (r10, u11)))
  else
  (bd (f_X6_finds (-1000000001 : Int32) u2) fun r12 u13 =>
  some (r12, u13))
set_option maxHeartbeats 4000000 in
set_option maxRecDepth 100000 in
theorem g_X6_days (a1 : Int32) (u : Uw) : ∀ l, Con l yX6_days mi_X6_days ivI (fun ad => [.ref (ad 86), .int a1]) u (f_X6_days a1 u) := by
  refine con_of (by decide) rfl (fun _ => Nat.le_of_ble_eq_true rfl) (fun X ad => ?_)
  show Go X ad mi_X6_days ivI 0 [(0, .ref (ad 86)), (1, .int a1)] [] u (f_X6_days a1 u)
  unfold f_X6_days
  refine go_iload_n 1 rfl dX6_days_0 rfl ?_
  refine go_i2l dX6_days_1 ?_
  refine go_lconst (v := (1 : Int64)) dX6_days_2 (by decide) ?_
  refine go_ldc2 (v := (400 : Int64)) gw247 dX6_days_3 ?_
  refine go_callSZ (As := fun ad => [.long (a1.toInt64), .long (1 : Int64), .long (400 : Int64)]) (g_X6_in (a1.toInt64) (1 : Int64) (400 : Int64) u) mo_X6_in gw209 gw210 rfl ⟨Nat.le_of_ble_eq_true rfl, Nat.le_of_ble_eq_true rfl⟩ rfl (Nat.le_of_ble_eq_true rfl) dX6_days_6 (fun r1 u2 => ?_)
  refine go_ifz_ne (tgt := 19) dX6_days_9 (by decide) ?_ ?_
  · refine go_aload_n 0 rfl dX6_days_19 rfl ?_
    refine go_getR clX6 kt_86 0 (Nat.le_of_ble_eq_true rfl) (f := 87) (fun _ => rfl) gw207 dX6_days_20 ?_
    refine go_iconst (v := (2 : Int32)) dX6_days_23 (by decide) ?_
    refine go_ialdL kt_87 kr_87 kl_87 rfl dX6_days_24 ?_
    refine go_nm (fun x3 => ?_)
    refine go_iload_n 1 rfl dX6_days_25 rfl ?_
    refine go_iadd dX6_days_26 ?_
    refine go_ldc (v := (99999 : Int32)) gw248 dX6_days_27 ?_
    refine go_icmp_le (tgt := 39) dX6_days_29 (by decide) ?_ ?_
    · refine go_aload_n 0 rfl dX6_days_39 rfl ?_
      refine go_iload_n 1 rfl dX6_days_40 rfl ?_
      refine go_callVV (As := fun ad => [.int a1]) (g_X6_goesOn a1 u2) mv_X6_goesOn clX6 kt_86 gw249 rfl ⟨Nat.le_of_ble_eq_true rfl, Nat.le_of_ble_eq_true rfl⟩ rfl (Nat.le_of_ble_eq_true rfl) dX6_days_41 (fun r4 u5 => ?_)
      refine go_aload_n 0 rfl dX6_days_44 rfl ?_
      refine go_callVI (As := fun ad => []) (g_X6_wellOnes  u5) mv_X6_wellOnes clX6 kt_86 gw250 rfl ⟨Nat.le_of_ble_eq_true rfl, Nat.le_of_ble_eq_true rfl⟩ rfl (Nat.le_of_ble_eq_true rfl) dX6_days_45 (fun r6 u7 => ?_)
      refine go_callSI (As := fun ad => [.int r6]) (g_X6_ones r6 u7) mo_X6_ones gw251 gw252 rfl ⟨Nat.le_of_ble_eq_true rfl, Nat.le_of_ble_eq_true rfl⟩ rfl (Nat.le_of_ble_eq_true rfl) dX6_days_48 (fun r8 u9 => ?_)
      exact go_iret rfl dX6_days_51
    · refine go_aload_n 0 rfl dX6_days_32 rfl ?_
      refine go_ldc (v := (-1000000005 : Int32)) gw244 dX6_days_33 ?_
      refine go_callVI (As := fun ad => [.int (-1000000005 : Int32)]) (g_X6_finds (-1000000005 : Int32) u2) mv_X6_finds clX6 kt_86 gw219 rfl ⟨Nat.le_of_ble_eq_true rfl, Nat.le_of_ble_eq_true rfl⟩ rfl (Nat.le_of_ble_eq_true rfl) dX6_days_35 (fun r10 u11 => ?_)
      exact go_iret rfl dX6_days_38
  · refine go_aload_n 0 rfl dX6_days_12 rfl ?_
    refine go_ldc (v := (-1000000001 : Int32)) gw205 dX6_days_13 ?_
    refine go_callVI (As := fun ad => [.int (-1000000001 : Int32)]) (g_X6_finds (-1000000001 : Int32) u2) mv_X6_finds clX6 kt_86 gw219 rfl ⟨Nat.le_of_ble_eq_true rfl, Nat.le_of_ble_eq_true rfl⟩ rfl (Nat.le_of_ble_eq_true rfl) dX6_days_15 (fun r12 u13 => ?_)
    exact go_iret rfl dX6_days_18
def b_X6_together_4 (ih4 : Int32 × Int32 × Int32 × Uw → Option (Int32 × Uw)) (s : Int32 × Int32 × Int32 × Uw) : Option (Int32 × Uw) :=
  nm (s.2.2.2.1 20 (1 : Int32).toNatClampNeg) fun x1 =>
  if x1 ≤ s.2.2.1 then
  (some (s.2.1, s.2.2.2))
  else
  (bd (f_X6_isOf s.2.2.1 s.1 s.2.2.2) fun r2 u3 =>
  nm (s.2.1 + r2) fun x4 =>
  ih4 (s.1, x4, (s.2.2.1 + (1 : Int32)), u3))
def f_X6_together (a1 : Int32) (u : Uw) : Option (Int32 × Uw) :=
  lp b_X6_together_4 2100 (a1, (0 : Int32), (0 : Int32), u)
set_option maxHeartbeats 4000000 in
set_option maxRecDepth 100000 in
theorem gl_X6_together_4 (X : Cx) (ad : Nat → Nat) : ∀ (n : Nat) (s : Int32 × Int32 × Int32 × Uw), Go X ad mi_X6_together ivI 4 [(0, .ref (ad 86)), (1, .int s.1), (2, .int s.2.1), (3, .int s.2.2.1)] [] s.2.2.2 (lp b_X6_together_4 n s) := by
  refine go_lp (G := fun (s : Int32 × Int32 × Int32 × Uw) o => Go X ad mi_X6_together ivI 4 [(0, .ref (ad 86)), (1, .int s.1), (2, .int s.2.1), (3, .int s.2.2.1)] [] s.2.2.2 o) (fun _ => go_none) (fun ih4 hih4 s => ?_)
  show Go X ad mi_X6_together ivI 4 [(0, .ref (ad 86)), (1, .int s.1), (2, .int s.2.1), (3, .int s.2.2.1)] [] s.2.2.2 (b_X6_together_4 ih4 s)
  unfold b_X6_together_4
  refine go_iload_n 3 rfl dX6_together_4 rfl ?_
  refine go_aload_n 0 rfl dX6_together_5 rfl ?_
  refine go_getR clX6 kt_86 0 (Nat.le_of_ble_eq_true rfl) (f := 87) (fun _ => rfl) gw207 dX6_together_6 ?_
  refine go_iconst (v := (1 : Int32)) dX6_together_9 (by decide) ?_
  refine go_ialdL kt_87 kr_87 kl_87 rfl dX6_together_10 ?_
  refine go_nm (fun x1 => ?_)
  refine go_icmp_ge (tgt := 29) dX6_together_11 (by decide) ?_ ?_
  · refine go_iload_n 2 rfl dX6_together_29 rfl ?_
    exact go_iret rfl dX6_together_30
  · refine go_iload_n 2 rfl dX6_together_14 rfl ?_
    refine go_aload_n 0 rfl dX6_together_15 rfl ?_
    refine go_iload_n 3 rfl dX6_together_16 rfl ?_
    refine go_iload_n 1 rfl dX6_together_17 rfl ?_
    refine go_callVI (As := fun ad => [.int s.2.2.1, .int s.1]) (g_X6_isOf s.2.2.1 s.1 s.2.2.2) mv_X6_isOf clX6 kt_86 gw242 rfl ⟨Nat.le_of_ble_eq_true rfl, Nat.le_of_ble_eq_true rfl⟩ rfl (Nat.le_of_ble_eq_true rfl) dX6_together_18 (fun r2 u3 => ?_)
    refine go_iadd dX6_together_21 ?_
    refine go_nm (fun x4 => ?_)
    refine go_istore_n (lv' := [(2, .int x4), (0, .ref (ad 86)), (1, .int s.1), (3, .int s.2.2.1)]) dX6_together_22 rfl (Nat.le_of_ble_eq_true rfl) rfl ?_
    refine go_iinc (v := (s.2.2.1 + (1 : Int32))) (lv' := [(3, .int (s.2.2.1 + (1 : Int32))), (2, .int x4), (0, .ref (ad 86)), (1, .int s.1)]) 3 rfl dX6_together_23 rfl (Nat.le_of_ble_eq_true rfl) rfl ?_
    refine go_goto (tgt := 4) dX6_together_26 (by decide) ?_
    exact go_sub [2, 3, 1, 0] rfl (hih4 (s.1, x4, (s.2.2.1 + (1 : Int32)), u3))
set_option maxHeartbeats 4000000 in
set_option maxRecDepth 100000 in
theorem g_X6_together (a1 : Int32) (u : Uw) : ∀ l, Con l yX6_together mi_X6_together ivI (fun ad => [.ref (ad 86), .int a1]) u (f_X6_together a1 u) := by
  refine con_of (by decide) rfl (fun _ => Nat.le_of_ble_eq_true rfl) (fun X ad => ?_)
  show Go X ad mi_X6_together ivI 0 [(0, .ref (ad 86)), (1, .int a1)] [] u (f_X6_together a1 u)
  unfold f_X6_together
  refine go_iconst (v := (0 : Int32)) dX6_together_0 (by decide) ?_
  refine go_istore_n (lv' := [(2, .int (0 : Int32)), (0, .ref (ad 86)), (1, .int a1)]) dX6_together_1 rfl (Nat.le_of_ble_eq_true rfl) rfl ?_
  refine go_iconst (v := (0 : Int32)) dX6_together_2 (by decide) ?_
  refine go_istore_n (lv' := [(3, .int (0 : Int32)), (2, .int (0 : Int32)), (0, .ref (ad 86)), (1, .int a1)]) dX6_together_3 rfl (Nat.le_of_ble_eq_true rfl) rfl ?_
  exact go_sub [2, 3, 1, 0] rfl (gl_X6_together_4 X ad  2100 (a1, (0 : Int32), (0 : Int32), u))
def f_X6_now (a1 : Int32) (u : Uw) : Option (Int32 × Uw) :=
  nm a1 fun x1 =>
  if x1 = (0 : Int32) then
  (ck (inb ((2 : Int32) + a1) 61) <|
  nm (u.1 20 ((2 : Int32) + a1).toNatClampNeg) fun x3 =>
  some (x3, u))
  else
  (if x1 = (1 : Int32) then
  (ck (inb ((2 : Int32) + a1) 61) <|
  nm (u.1 20 ((2 : Int32) + a1).toNatClampNeg) fun x6 =>
  some (x6, u))
  else
  (if x1 = (2 : Int32) then
  (ck (inb ((2 : Int32) + a1) 61) <|
  nm (u.1 20 ((2 : Int32) + a1).toNatClampNeg) fun x9 =>
  some (x9, u))
  else
  (if x1 = (3 : Int32) then
  (ck (inb ((2 : Int32) + a1) 61) <|
  nm (u.1 20 ((2 : Int32) + a1).toNatClampNeg) fun x12 =>
  some (x12, u))
  else
  (if x1 = (4 : Int32) then
  (ck (inb ((2 : Int32) + a1) 61) <|
  nm (u.1 20 ((2 : Int32) + a1).toNatClampNeg) fun x15 =>
  some (x15, u))
  else
  (if x1 = (5 : Int32) then
  (bd (f_X6_together (0 : Int32) u) fun r17 u18 =>
  some (r17, u18))
  else
  (if x1 = (6 : Int32) then
  (bd (f_X6_wellOnes  u) fun r20 u21 =>
  some (r20, u21))
  else
  (bd (f_X6_finds (-1000000001 : Int32) u) fun r23 u24 =>
  some (r23, u24))))))))
set_option maxHeartbeats 4000000 in
set_option maxRecDepth 100000 in
theorem g_X6_now (a1 : Int32) (u : Uw) : ∀ l, Con l yX6_now mi_X6_now ivI (fun ad => [.ref (ad 86), .int a1]) u (f_X6_now a1 u) := by
  refine con_of (by decide) rfl (fun _ => Nat.le_of_ble_eq_true rfl) (fun X ad => ?_)
  show Go X ad mi_X6_now ivI 0 [(0, .ref (ad 86)), (1, .int a1)] [] u (f_X6_now a1 u)
  unfold f_X6_now
  refine go_iload_n 1 rfl dX6_now_0 rfl ?_
  refine go_nm (fun x1 => ?_)
  refine go_ite (fun hx => ?_) (fun h4 => ?_)
  · subst hx
    refine go_tin (off := 43) (tgt := 44) dX6_now_1 (by decide) (by decide) (by decide) (by decide) ?_
    refine go_aload_n 0 rfl dX6_now_44 rfl ?_
    refine go_getR clX6 kt_86 0 (Nat.le_of_ble_eq_true rfl) (f := 87) (fun _ => rfl) gw207 dX6_now_45 ?_
    refine go_iconst (v := (2 : Int32)) dX6_now_48 (by decide) ?_
    refine go_iload_n 1 rfl dX6_now_49 rfl ?_
    refine go_iadd dX6_now_50 ?_
    refine go_ck (fun h2 => ?_)
    refine go_ialdL kt_87 kr_87 kl_87 h2 dX6_now_51 ?_
    refine go_nm (fun x3 => ?_)
    exact go_iret rfl dX6_now_52
  · refine go_ite (fun hx => ?_) (fun h7 => ?_)
    · subst hx
      refine go_tin (off := 43) (tgt := 44) dX6_now_1 (by decide) (by decide) (by decide) (by decide) ?_
      refine go_aload_n 0 rfl dX6_now_44 rfl ?_
      refine go_getR clX6 kt_86 0 (Nat.le_of_ble_eq_true rfl) (f := 87) (fun _ => rfl) gw207 dX6_now_45 ?_
      refine go_iconst (v := (2 : Int32)) dX6_now_48 (by decide) ?_
      refine go_iload_n 1 rfl dX6_now_49 rfl ?_
      refine go_iadd dX6_now_50 ?_
      refine go_ck (fun h5 => ?_)
      refine go_ialdL kt_87 kr_87 kl_87 h5 dX6_now_51 ?_
      refine go_nm (fun x6 => ?_)
      exact go_iret rfl dX6_now_52
    · refine go_ite (fun hx => ?_) (fun h10 => ?_)
      · subst hx
        refine go_tin (off := 43) (tgt := 44) dX6_now_1 (by decide) (by decide) (by decide) (by decide) ?_
        refine go_aload_n 0 rfl dX6_now_44 rfl ?_
        refine go_getR clX6 kt_86 0 (Nat.le_of_ble_eq_true rfl) (f := 87) (fun _ => rfl) gw207 dX6_now_45 ?_
        refine go_iconst (v := (2 : Int32)) dX6_now_48 (by decide) ?_
        refine go_iload_n 1 rfl dX6_now_49 rfl ?_
        refine go_iadd dX6_now_50 ?_
        refine go_ck (fun h8 => ?_)
        refine go_ialdL kt_87 kr_87 kl_87 h8 dX6_now_51 ?_
        refine go_nm (fun x9 => ?_)
        exact go_iret rfl dX6_now_52
      · refine go_ite (fun hx => ?_) (fun h13 => ?_)
        · subst hx
          refine go_tin (off := 43) (tgt := 44) dX6_now_1 (by decide) (by decide) (by decide) (by decide) ?_
          refine go_aload_n 0 rfl dX6_now_44 rfl ?_
          refine go_getR clX6 kt_86 0 (Nat.le_of_ble_eq_true rfl) (f := 87) (fun _ => rfl) gw207 dX6_now_45 ?_
          refine go_iconst (v := (2 : Int32)) dX6_now_48 (by decide) ?_
          refine go_iload_n 1 rfl dX6_now_49 rfl ?_
          refine go_iadd dX6_now_50 ?_
          refine go_ck (fun h11 => ?_)
          refine go_ialdL kt_87 kr_87 kl_87 h11 dX6_now_51 ?_
          refine go_nm (fun x12 => ?_)
          exact go_iret rfl dX6_now_52
        · refine go_ite (fun hx => ?_) (fun h16 => ?_)
          · subst hx
            refine go_tin (off := 43) (tgt := 44) dX6_now_1 (by decide) (by decide) (by decide) (by decide) ?_
            refine go_aload_n 0 rfl dX6_now_44 rfl ?_
            refine go_getR clX6 kt_86 0 (Nat.le_of_ble_eq_true rfl) (f := 87) (fun _ => rfl) gw207 dX6_now_45 ?_
            refine go_iconst (v := (2 : Int32)) dX6_now_48 (by decide) ?_
            refine go_iload_n 1 rfl dX6_now_49 rfl ?_
            refine go_iadd dX6_now_50 ?_
            refine go_ck (fun h14 => ?_)
            refine go_ialdL kt_87 kr_87 kl_87 h14 dX6_now_51 ?_
            refine go_nm (fun x15 => ?_)
            exact go_iret rfl dX6_now_52
          · refine go_ite (fun hx => ?_) (fun h19 => ?_)
            · subst hx
              refine go_tin (off := 52) (tgt := 53) dX6_now_1 (by decide) (by decide) (by decide) (by decide) ?_
              refine go_aload_n 0 rfl dX6_now_53 rfl ?_
              refine go_iconst (v := (0 : Int32)) dX6_now_54 (by decide) ?_
              refine go_callVI (As := fun ad => [.int (0 : Int32)]) (g_X6_together (0 : Int32) u) mv_X6_together clX6 kt_86 gw253 rfl ⟨Nat.le_of_ble_eq_true rfl, Nat.le_of_ble_eq_true rfl⟩ rfl (Nat.le_of_ble_eq_true rfl) dX6_now_55 (fun r17 u18 => ?_)
              exact go_iret rfl dX6_now_58
            · refine go_ite (fun hx => ?_) (fun h22 => ?_)
              · subst hx
                refine go_tin (off := 58) (tgt := 59) dX6_now_1 (by decide) (by decide) (by decide) (by decide) ?_
                refine go_aload_n 0 rfl dX6_now_59 rfl ?_
                refine go_callVI (As := fun ad => []) (g_X6_wellOnes  u) mv_X6_wellOnes clX6 kt_86 gw250 rfl ⟨Nat.le_of_ble_eq_true rfl, Nat.le_of_ble_eq_true rfl⟩ rfl (Nat.le_of_ble_eq_true rfl) dX6_now_60 (fun r20 u21 => ?_)
                exact go_iret rfl dX6_now_63
              · refine go_tout (tgt := 64) dX6_now_1 ?_ (by decide) ?_
                · have a0 : x1.toInt ≠ 0 := int_ne h4; have a1 : x1.toInt ≠ 1 := int_ne h7; have a2 : x1.toInt ≠ 2 := int_ne h10; have a3 : x1.toInt ≠ 3 := int_ne h13; have a4 : x1.toInt ≠ 4 := int_ne h16; have a5 : x1.toInt ≠ 5 := int_ne h19; have a6 : x1.toInt ≠ 6 := int_ne h22; omega
                · refine go_aload_n 0 rfl dX6_now_64 rfl ?_
                  refine go_ldc (v := (-1000000001 : Int32)) gw205 dX6_now_65 ?_
                  refine go_callVI (As := fun ad => [.int (-1000000001 : Int32)]) (g_X6_finds (-1000000001 : Int32) u) mv_X6_finds clX6 kt_86 gw219 rfl ⟨Nat.le_of_ble_eq_true rfl, Nat.le_of_ble_eq_true rfl⟩ rfl (Nat.le_of_ble_eq_true rfl) dX6_now_67 (fun r23 u24 => ?_)
                  exact go_iret rfl dX6_now_70
def f_X6_on (a1 : Int32) (a2 : Int32) (a3 : Int32) (u : Uw) : Option (Int32 × Uw) :=
  bd (f_X6_isPilgrim a1 u) fun r1 u2 =>
  if r1 = true then
  (bd (f_X6_in (a2.toInt64) (0 : Int64) (400 : Int64) u2) fun r5 u6 =>
  if r5 = true then
  (bd (f_X6_in (a3.toInt64) (0 : Int64) (1 : Int64) u6) fun r9 u10 =>
  if r9 = true then
  (bd (f_X6_laysAside  u10) fun r11 u12 =>
  bd (f_X6_goesOn a2 u12) fun r13 u14 =>
  if a3 = 0 then
  (bd (f_X6_isOf a1 (0 : Int32) u14) fun r19 u20 =>
  bd (f_X6_takesBack r19 u20) fun r21 u22 =>
  some (r21, u22))
  else
  (bd (f_X6_isOf a1 (2 : Int32) u14) fun r15 u16 =>
  bd (f_X6_takesBack r15 u16) fun r17 u18 =>
  some (r17, u18)))
  else
  (bd (f_X6_finds (-1000000001 : Int32) u10) fun r23 u24 =>
  some (r23, u24)))
  else
  (bd (f_X6_finds (-1000000001 : Int32) u6) fun r7 u8 =>
  some (r7, u8)))
  else
  (bd (f_X6_finds (-1000000001 : Int32) u2) fun r3 u4 =>
  some (r3, u4))
set_option maxHeartbeats 4000000 in
set_option maxRecDepth 100000 in
theorem g_X6_on (a1 : Int32) (a2 : Int32) (a3 : Int32) (u : Uw) : ∀ l, Con l yX6_on mi_X6_on ivI (fun ad => [.ref (ad 86), .int a1, .int a2, .int a3]) u (f_X6_on a1 a2 a3 u) := by
  refine con_of (by decide) rfl (fun _ => Nat.le_of_ble_eq_true rfl) (fun X ad => ?_)
  show Go X ad mi_X6_on ivI 0 [(0, .ref (ad 86)), (1, .int a1), (2, .int a2), (3, .int a3)] [] u (f_X6_on a1 a2 a3 u)
  unfold f_X6_on
  refine go_aload_n 0 rfl dX6_on_0 rfl ?_
  refine go_iload_n 1 rfl dX6_on_1 rfl ?_
  refine go_callVZ (As := fun ad => [.int a1]) (g_X6_isPilgrim a1 u) mv_X6_isPilgrim clX6 kt_86 gw240 rfl ⟨Nat.le_of_ble_eq_true rfl, Nat.le_of_ble_eq_true rfl⟩ rfl (Nat.le_of_ble_eq_true rfl) dX6_on_2 (fun r1 u2 => ?_)
  refine go_ifz_eq (tgt := 30) dX6_on_5 (by decide) ?_ ?_
  · refine go_aload_n 0 rfl dX6_on_30 rfl ?_
    refine go_ldc (v := (-1000000001 : Int32)) gw205 dX6_on_31 ?_
    refine go_callVI (As := fun ad => [.int (-1000000001 : Int32)]) (g_X6_finds (-1000000001 : Int32) u2) mv_X6_finds clX6 kt_86 gw219 rfl ⟨Nat.le_of_ble_eq_true rfl, Nat.le_of_ble_eq_true rfl⟩ rfl (Nat.le_of_ble_eq_true rfl) dX6_on_33 (fun r3 u4 => ?_)
    exact go_iret rfl dX6_on_36
  · refine go_iload_n 2 rfl dX6_on_8 rfl ?_
    refine go_i2l dX6_on_9 ?_
    refine go_lconst (v := (0 : Int64)) dX6_on_10 (by decide) ?_
    refine go_ldc2 (v := (400 : Int64)) gw247 dX6_on_11 ?_
    refine go_callSZ (As := fun ad => [.long (a2.toInt64), .long (0 : Int64), .long (400 : Int64)]) (g_X6_in (a2.toInt64) (0 : Int64) (400 : Int64) u2) mo_X6_in gw209 gw210 rfl ⟨Nat.le_of_ble_eq_true rfl, Nat.le_of_ble_eq_true rfl⟩ rfl (Nat.le_of_ble_eq_true rfl) dX6_on_14 (fun r5 u6 => ?_)
    refine go_ifz_eq (tgt := 30) dX6_on_17 (by decide) ?_ ?_
    · refine go_aload_n 0 rfl dX6_on_30 rfl ?_
      refine go_ldc (v := (-1000000001 : Int32)) gw205 dX6_on_31 ?_
      refine go_callVI (As := fun ad => [.int (-1000000001 : Int32)]) (g_X6_finds (-1000000001 : Int32) u6) mv_X6_finds clX6 kt_86 gw219 rfl ⟨Nat.le_of_ble_eq_true rfl, Nat.le_of_ble_eq_true rfl⟩ rfl (Nat.le_of_ble_eq_true rfl) dX6_on_33 (fun r7 u8 => ?_)
      exact go_iret rfl dX6_on_36
    · refine go_iload_n 3 rfl dX6_on_20 rfl ?_
      refine go_i2l dX6_on_21 ?_
      refine go_lconst (v := (0 : Int64)) dX6_on_22 (by decide) ?_
      refine go_lconst (v := (1 : Int64)) dX6_on_23 (by decide) ?_
      refine go_callSZ (As := fun ad => [.long (a3.toInt64), .long (0 : Int64), .long (1 : Int64)]) (g_X6_in (a3.toInt64) (0 : Int64) (1 : Int64) u6) mo_X6_in gw209 gw210 rfl ⟨Nat.le_of_ble_eq_true rfl, Nat.le_of_ble_eq_true rfl⟩ rfl (Nat.le_of_ble_eq_true rfl) dX6_on_24 (fun r9 u10 => ?_)
      refine go_ifz_ne (tgt := 37) dX6_on_27 (by decide) ?_ ?_
      · refine go_aload_n 0 rfl dX6_on_37 rfl ?_
        refine go_callVV (As := fun ad => []) (g_X6_laysAside  u10) mv_X6_laysAside clX6 kt_86 gw254 rfl ⟨Nat.le_of_ble_eq_true rfl, Nat.le_of_ble_eq_true rfl⟩ rfl (Nat.le_of_ble_eq_true rfl) dX6_on_38 (fun r11 u12 => ?_)
        refine go_aload_n 0 rfl dX6_on_41 rfl ?_
        refine go_iload_n 2 rfl dX6_on_42 rfl ?_
        refine go_callVV (As := fun ad => [.int a2]) (g_X6_goesOn a2 u12) mv_X6_goesOn clX6 kt_86 gw249 rfl ⟨Nat.le_of_ble_eq_true rfl, Nat.le_of_ble_eq_true rfl⟩ rfl (Nat.le_of_ble_eq_true rfl) dX6_on_43 (fun r13 u14 => ?_)
        refine go_aload_n 0 rfl dX6_on_46 rfl ?_
        refine go_aload_n 0 rfl dX6_on_47 rfl ?_
        refine go_iload_n 1 rfl dX6_on_48 rfl ?_
        refine go_iload_n 3 rfl dX6_on_49 rfl ?_
        refine go_if_ne (tgt := 57) dX6_on_50 (by decide) ?_ ?_
        · refine go_iconst (v := (2 : Int32)) dX6_on_57 (by decide) ?_
          refine go_callVI (As := fun ad => [.int a1, .int (2 : Int32)]) (g_X6_isOf a1 (2 : Int32) u14) mv_X6_isOf clX6 kt_86 gw242 rfl ⟨Nat.le_of_ble_eq_true rfl, Nat.le_of_ble_eq_true rfl⟩ rfl (Nat.le_of_ble_eq_true rfl) dX6_on_58 (fun r15 u16 => ?_)
          refine go_callVI (As := fun ad => [.int r15]) (g_X6_takesBack r15 u16) mv_X6_takesBack clX6 kt_86 gw255 rfl ⟨Nat.le_of_ble_eq_true rfl, Nat.le_of_ble_eq_true rfl⟩ rfl (Nat.le_of_ble_eq_true rfl) dX6_on_61 (fun r17 u18 => ?_)
          exact go_iret rfl dX6_on_64
        · refine go_iconst (v := (0 : Int32)) dX6_on_53 (by decide) ?_
          refine go_goto (tgt := 58) dX6_on_54 (by decide) ?_
          refine go_callVI (As := fun ad => [.int a1, .int (0 : Int32)]) (g_X6_isOf a1 (0 : Int32) u14) mv_X6_isOf clX6 kt_86 gw242 rfl ⟨Nat.le_of_ble_eq_true rfl, Nat.le_of_ble_eq_true rfl⟩ rfl (Nat.le_of_ble_eq_true rfl) dX6_on_58 (fun r19 u20 => ?_)
          refine go_callVI (As := fun ad => [.int r19]) (g_X6_takesBack r19 u20) mv_X6_takesBack clX6 kt_86 gw255 rfl ⟨Nat.le_of_ble_eq_true rfl, Nat.le_of_ble_eq_true rfl⟩ rfl (Nat.le_of_ble_eq_true rfl) dX6_on_61 (fun r21 u22 => ?_)
          exact go_iret rfl dX6_on_64
      · refine go_aload_n 0 rfl dX6_on_30 rfl ?_
        refine go_ldc (v := (-1000000001 : Int32)) gw205 dX6_on_31 ?_
        refine go_callVI (As := fun ad => [.int (-1000000001 : Int32)]) (g_X6_finds (-1000000001 : Int32) u10) mv_X6_finds clX6 kt_86 gw219 rfl ⟨Nat.le_of_ble_eq_true rfl, Nat.le_of_ble_eq_true rfl⟩ rfl (Nat.le_of_ble_eq_true rfl) dX6_on_33 (fun r23 u24 => ?_)
        exact go_iret rfl dX6_on_36
def b_X6_wellIn_6 (ih6 : Int32 × Int32 × Uw → Option (Int32 × Uw)) (s : Int32 × Int32 × Uw) : Option (Int32 × Uw) :=
  if (400 : Int32) < s.2.1 then
  (bd (f_X6_takesBack s.2.1 s.2.2) fun r3 u4 =>
  some (r3, u4))
  else
  (bd (f_X6_isOf s.1 (0 : Int32) s.2.2) fun r5 u6 =>
  if r5 ≤ 0 then
  (bd (f_X6_takesBack s.2.1 u6) fun r7 u8 =>
  some (r7, u8))
  else
  (bd (f_X6_day  u6) fun r9 u10 =>
  ih6 (s.1, (s.2.1 + (1 : Int32)), u10)))
def f_X6_wellIn (a1 : Int32) (u : Uw) : Option (Int32 × Uw) :=
  bd (f_X6_laysAside  u) fun r1 u2 =>
  lp b_X6_wellIn_6 2100 (a1, (0 : Int32), u2)
set_option maxHeartbeats 4000000 in
set_option maxRecDepth 100000 in
theorem gl_X6_wellIn_6 (X : Cx) (ad : Nat → Nat) : ∀ (n : Nat) (s : Int32 × Int32 × Uw), Go X ad mi_X6_wellIn ivI 6 [(0, .ref (ad 86)), (1, .int s.1), (2, .int s.2.1)] [] s.2.2 (lp b_X6_wellIn_6 n s) := by
  refine go_lp (G := fun (s : Int32 × Int32 × Uw) o => Go X ad mi_X6_wellIn ivI 6 [(0, .ref (ad 86)), (1, .int s.1), (2, .int s.2.1)] [] s.2.2 o) (fun _ => go_none) (fun ih6 hih6 s => ?_)
  show Go X ad mi_X6_wellIn ivI 6 [(0, .ref (ad 86)), (1, .int s.1), (2, .int s.2.1)] [] s.2.2 (b_X6_wellIn_6 ih6 s)
  unfold b_X6_wellIn_6
  refine go_iload_n 2 rfl dX6_wellIn_6 rfl ?_
  refine go_sipush (v := (400 : Int32)) dX6_wellIn_7 (by decide) ?_
  refine go_icmp_gt (tgt := 32) dX6_wellIn_10 (by decide) ?_ ?_
  · refine go_aload_n 0 rfl dX6_wellIn_32 rfl ?_
    refine go_iload_n 2 rfl dX6_wellIn_33 rfl ?_
    refine go_callVI (As := fun ad => [.int s.2.1]) (g_X6_takesBack s.2.1 s.2.2) mv_X6_takesBack clX6 kt_86 gw255 rfl ⟨Nat.le_of_ble_eq_true rfl, Nat.le_of_ble_eq_true rfl⟩ rfl (Nat.le_of_ble_eq_true rfl) dX6_wellIn_34 (fun r3 u4 => ?_)
    exact go_iret rfl dX6_wellIn_37
  · refine go_aload_n 0 rfl dX6_wellIn_13 rfl ?_
    refine go_iload_n 1 rfl dX6_wellIn_14 rfl ?_
    refine go_iconst (v := (0 : Int32)) dX6_wellIn_15 (by decide) ?_
    refine go_callVI (As := fun ad => [.int s.1, .int (0 : Int32)]) (g_X6_isOf s.1 (0 : Int32) s.2.2) mv_X6_isOf clX6 kt_86 gw242 rfl ⟨Nat.le_of_ble_eq_true rfl, Nat.le_of_ble_eq_true rfl⟩ rfl (Nat.le_of_ble_eq_true rfl) dX6_wellIn_16 (fun r5 u6 => ?_)
    refine go_if_le (tgt := 32) dX6_wellIn_19 (by decide) ?_ ?_
    · refine go_aload_n 0 rfl dX6_wellIn_32 rfl ?_
      refine go_iload_n 2 rfl dX6_wellIn_33 rfl ?_
      refine go_callVI (As := fun ad => [.int s.2.1]) (g_X6_takesBack s.2.1 u6) mv_X6_takesBack clX6 kt_86 gw255 rfl ⟨Nat.le_of_ble_eq_true rfl, Nat.le_of_ble_eq_true rfl⟩ rfl (Nat.le_of_ble_eq_true rfl) dX6_wellIn_34 (fun r7 u8 => ?_)
      exact go_iret rfl dX6_wellIn_37
    · refine go_aload_n 0 rfl dX6_wellIn_22 rfl ?_
      refine go_callVV (As := fun ad => []) (g_X6_day  u6) mv_X6_day clX6 kt_86 gw246 rfl ⟨Nat.le_of_ble_eq_true rfl, Nat.le_of_ble_eq_true rfl⟩ rfl (Nat.le_of_ble_eq_true rfl) dX6_wellIn_23 (fun r9 u10 => ?_)
      refine go_iinc (v := (s.2.1 + (1 : Int32))) (lv' := [(2, .int (s.2.1 + (1 : Int32))), (0, .ref (ad 86)), (1, .int s.1)]) 2 rfl dX6_wellIn_26 rfl (Nat.le_of_ble_eq_true rfl) rfl ?_
      refine go_goto (tgt := 6) dX6_wellIn_29 (by decide) ?_
      exact go_sub [1, 2, 0] rfl (hih6 (s.1, (s.2.1 + (1 : Int32)), u10))
set_option maxHeartbeats 4000000 in
set_option maxRecDepth 100000 in
theorem g_X6_wellIn (a1 : Int32) (u : Uw) : ∀ l, Con l yX6_wellIn mi_X6_wellIn ivI (fun ad => [.ref (ad 86), .int a1]) u (f_X6_wellIn a1 u) := by
  refine con_of (by decide) rfl (fun _ => Nat.le_of_ble_eq_true rfl) (fun X ad => ?_)
  show Go X ad mi_X6_wellIn ivI 0 [(0, .ref (ad 86)), (1, .int a1)] [] u (f_X6_wellIn a1 u)
  unfold f_X6_wellIn
  refine go_aload_n 0 rfl dX6_wellIn_0 rfl ?_
  refine go_callVV (As := fun ad => []) (g_X6_laysAside  u) mv_X6_laysAside clX6 kt_86 gw254 rfl ⟨Nat.le_of_ble_eq_true rfl, Nat.le_of_ble_eq_true rfl⟩ rfl (Nat.le_of_ble_eq_true rfl) dX6_wellIn_1 (fun r1 u2 => ?_)
  refine go_iconst (v := (0 : Int32)) dX6_wellIn_4 (by decide) ?_
  refine go_istore_n (lv' := [(2, .int (0 : Int32)), (0, .ref (ad 86)), (1, .int a1)]) dX6_wellIn_5 rfl (Nat.le_of_ble_eq_true rfl) rfl ?_
  exact go_sub [1, 2, 0] rfl (gl_X6_wellIn_6 X ad  2100 (a1, (0 : Int32), u2))
def f_X6_well (a1 : Int32) (u : Uw) : Option (Int32 × Uw) :=
  bd (f_X6_isPilgrim a1 u) fun r1 u2 =>
  if r1 = true then
  (bd (f_X6_wellIn a1 u2) fun r3 u4 =>
  if r3 ≤ (400 : Int32) then
  (some (r3, u4))
  else
  (bd (f_X6_finds (-1000000004 : Int32) u4) fun r5 u6 =>
  some (r5, u6)))
  else
  (bd (f_X6_finds (-1000000001 : Int32) u2) fun r7 u8 =>
  some (r7, u8))
set_option maxHeartbeats 4000000 in
set_option maxRecDepth 100000 in
theorem g_X6_well (a1 : Int32) (u : Uw) : ∀ l, Con l yX6_well mi_X6_well ivI (fun ad => [.ref (ad 86), .int a1]) u (f_X6_well a1 u) := by
  refine con_of (by decide) rfl (fun _ => Nat.le_of_ble_eq_true rfl) (fun X ad => ?_)
  show Go X ad mi_X6_well ivI 0 [(0, .ref (ad 86)), (1, .int a1)] [] u (f_X6_well a1 u)
  unfold f_X6_well
  refine go_aload_n 0 rfl dX6_well_0 rfl ?_
  refine go_iload_n 1 rfl dX6_well_1 rfl ?_
  refine go_callVZ (As := fun ad => [.int a1]) (g_X6_isPilgrim a1 u) mv_X6_isPilgrim clX6 kt_86 gw240 rfl ⟨Nat.le_of_ble_eq_true rfl, Nat.le_of_ble_eq_true rfl⟩ rfl (Nat.le_of_ble_eq_true rfl) dX6_well_2 (fun r1 u2 => ?_)
  refine go_ifz_ne (tgt := 15) dX6_well_5 (by decide) ?_ ?_
  · refine go_aload_n 0 rfl dX6_well_15 rfl ?_
    refine go_iload_n 1 rfl dX6_well_16 rfl ?_
    refine go_callVI (As := fun ad => [.int a1]) (g_X6_wellIn a1 u2) mv_X6_wellIn clX6 kt_86 gw256 rfl ⟨Nat.le_of_ble_eq_true rfl, Nat.le_of_ble_eq_true rfl⟩ rfl (Nat.le_of_ble_eq_true rfl) dX6_well_17 (fun r3 u4 => ?_)
    refine go_istore_n (lv' := [(2, .int r3), (0, .ref (ad 86)), (1, .int a1)]) dX6_well_20 rfl (Nat.le_of_ble_eq_true rfl) rfl ?_
    refine go_iload_n 0 rfl dX6_well_21 rfl ?_
    refine go_sipush (v := (400 : Int32)) dX6_well_22 (by decide) ?_
    refine go_icmp_le (tgt := 37) dX6_well_25 (by decide) ?_ ?_
    · refine go_iload_n 0 rfl dX6_well_37 rfl ?_
      exact go_iret rfl dX6_well_38
    · refine go_aload_n 1 rfl dX6_well_28 rfl ?_
      refine go_ldc (v := (-1000000004 : Int32)) gw257 dX6_well_29 ?_
      refine go_callVI (As := fun ad => [.int (-1000000004 : Int32)]) (g_X6_finds (-1000000004 : Int32) u4) mv_X6_finds clX6 kt_86 gw219 rfl ⟨Nat.le_of_ble_eq_true rfl, Nat.le_of_ble_eq_true rfl⟩ rfl (Nat.le_of_ble_eq_true rfl) dX6_well_31 (fun r5 u6 => ?_)
      refine go_goto (tgt := 38) dX6_well_34 (by decide) ?_
      exact go_iret rfl dX6_well_38
  · refine go_aload_n 0 rfl dX6_well_8 rfl ?_
    refine go_ldc (v := (-1000000001 : Int32)) gw205 dX6_well_9 ?_
    refine go_callVI (As := fun ad => [.int (-1000000001 : Int32)]) (g_X6_finds (-1000000001 : Int32) u2) mv_X6_finds clX6 kt_86 gw219 rfl ⟨Nat.le_of_ble_eq_true rfl, Nat.le_of_ble_eq_true rfl⟩ rfl (Nat.le_of_ble_eq_true rfl) dX6_well_11 (fun r7 u8 => ?_)
    exact go_iret rfl dX6_well_14
def b_X6_next_22 (ih22 : Int32 × Int32 × Uw → Option (Int32 × Uw)) (s : Int32 × Int32 × Uw) : Option (Int32 × Uw) :=
  nm (s.2.2.1 20 (2 : Int32).toNatClampNeg) fun x4 =>
  if (x4 + (400 : Int32)) < s.2.1 then
  (bd (f_X6_finds (-1000000004 : Int32) s.2.2) fun r5 u6 =>
  some (r5, u6))
  else
  (bd (f_X6_isHoly s.1 s.2.1 s.2.2) fun r7 u8 =>
  if r7 = true then
  (some (s.2.1, u8))
  else
  (ih22 (s.1, (s.2.1 + (1 : Int32)), u8)))
def f_X6_next (a1 : Int32) (u : Uw) : Option (Int32 × Uw) :=
  bd (f_X6_isCalendar a1 u) fun r1 u2 =>
  if r1 = true then
  (nm (u2.1 20 (2 : Int32).toNatClampNeg) fun x3 =>
  lp b_X6_next_22 2100 (a1, x3, u2))
  else
  (bd (f_X6_finds (-1000000001 : Int32) u2) fun r9 u10 =>
  some (r9, u10))
set_option maxHeartbeats 4000000 in
set_option maxRecDepth 100000 in
theorem gl_X6_next_22 (X : Cx) (ad : Nat → Nat) : ∀ (n : Nat) (s : Int32 × Int32 × Uw), Go X ad mi_X6_next ivI 22 [(0, .ref (ad 86)), (1, .int s.1), (2, .int s.2.1)] [] s.2.2 (lp b_X6_next_22 n s) := by
  refine go_lp (G := fun (s : Int32 × Int32 × Uw) o => Go X ad mi_X6_next ivI 22 [(0, .ref (ad 86)), (1, .int s.1), (2, .int s.2.1)] [] s.2.2 o) (fun _ => go_none) (fun ih22 hih22 s => ?_)
  show Go X ad mi_X6_next ivI 22 [(0, .ref (ad 86)), (1, .int s.1), (2, .int s.2.1)] [] s.2.2 (b_X6_next_22 ih22 s)
  unfold b_X6_next_22
  refine go_iload_n 2 rfl dX6_next_22 rfl ?_
  refine go_aload_n 0 rfl dX6_next_23 rfl ?_
  refine go_getR clX6 kt_86 0 (Nat.le_of_ble_eq_true rfl) (f := 87) (fun _ => rfl) gw207 dX6_next_24 ?_
  refine go_iconst (v := (2 : Int32)) dX6_next_27 (by decide) ?_
  refine go_ialdL kt_87 kr_87 kl_87 rfl dX6_next_28 ?_
  refine go_nm (fun x4 => ?_)
  refine go_sipush (v := (400 : Int32)) dX6_next_29 (by decide) ?_
  refine go_iadd dX6_next_32 ?_
  refine go_icmp_gt (tgt := 53) dX6_next_33 (by decide) ?_ ?_
  · refine go_aload_n 0 rfl dX6_next_53 rfl ?_
    refine go_ldc (v := (-1000000004 : Int32)) gw257 dX6_next_54 ?_
    refine go_callVI (As := fun ad => [.int (-1000000004 : Int32)]) (g_X6_finds (-1000000004 : Int32) s.2.2) mv_X6_finds clX6 kt_86 gw219 rfl ⟨Nat.le_of_ble_eq_true rfl, Nat.le_of_ble_eq_true rfl⟩ rfl (Nat.le_of_ble_eq_true rfl) dX6_next_56 (fun r5 u6 => ?_)
    exact go_iret rfl dX6_next_59
  · refine go_aload_n 0 rfl dX6_next_36 rfl ?_
    refine go_iload_n 1 rfl dX6_next_37 rfl ?_
    refine go_iload_n 2 rfl dX6_next_38 rfl ?_
    refine go_callVZ (As := fun ad => [.int s.1, .int s.2.1]) (g_X6_isHoly s.1 s.2.1 s.2.2) mv_X6_isHoly clX6 kt_86 gw236 rfl ⟨Nat.le_of_ble_eq_true rfl, Nat.le_of_ble_eq_true rfl⟩ rfl (Nat.le_of_ble_eq_true rfl) dX6_next_39 (fun r7 u8 => ?_)
    refine go_ifz_eq (tgt := 47) dX6_next_42 (by decide) ?_ ?_
    · refine go_iinc (v := (s.2.1 + (1 : Int32))) (lv' := [(2, .int (s.2.1 + (1 : Int32))), (0, .ref (ad 86)), (1, .int s.1)]) 2 rfl dX6_next_47 rfl (Nat.le_of_ble_eq_true rfl) rfl ?_
      refine go_goto (tgt := 22) dX6_next_50 (by decide) ?_
      exact go_sub [1, 2, 0] rfl (hih22 (s.1, (s.2.1 + (1 : Int32)), u8))
    · refine go_iload_n 2 rfl dX6_next_45 rfl ?_
      exact go_iret rfl dX6_next_46
set_option maxHeartbeats 4000000 in
set_option maxRecDepth 100000 in
theorem g_X6_next (a1 : Int32) (u : Uw) : ∀ l, Con l yX6_next mi_X6_next ivI (fun ad => [.ref (ad 86), .int a1]) u (f_X6_next a1 u) := by
  refine con_of (by decide) rfl (fun _ => Nat.le_of_ble_eq_true rfl) (fun X ad => ?_)
  show Go X ad mi_X6_next ivI 0 [(0, .ref (ad 86)), (1, .int a1)] [] u (f_X6_next a1 u)
  unfold f_X6_next
  refine go_aload_n 0 rfl dX6_next_0 rfl ?_
  refine go_iload_n 1 rfl dX6_next_1 rfl ?_
  refine go_callVZ (As := fun ad => [.int a1]) (g_X6_isCalendar a1 u) mv_X6_isCalendar clX6 kt_86 gw211 rfl ⟨Nat.le_of_ble_eq_true rfl, Nat.le_of_ble_eq_true rfl⟩ rfl (Nat.le_of_ble_eq_true rfl) dX6_next_2 (fun r1 u2 => ?_)
  refine go_ifz_ne (tgt := 15) dX6_next_5 (by decide) ?_ ?_
  · refine go_aload_n 0 rfl dX6_next_15 rfl ?_
    refine go_getR clX6 kt_86 0 (Nat.le_of_ble_eq_true rfl) (f := 87) (fun _ => rfl) gw207 dX6_next_16 ?_
    refine go_iconst (v := (2 : Int32)) dX6_next_19 (by decide) ?_
    refine go_ialdL kt_87 kr_87 kl_87 rfl dX6_next_20 ?_
    refine go_nm (fun x3 => ?_)
    refine go_istore_n (lv' := [(2, .int x3), (0, .ref (ad 86)), (1, .int a1)]) dX6_next_21 rfl (Nat.le_of_ble_eq_true rfl) rfl ?_
    exact go_sub [1, 2, 0] rfl (gl_X6_next_22 X ad  2100 (a1, x3, u2))
  · refine go_aload_n 0 rfl dX6_next_8 rfl ?_
    refine go_ldc (v := (-1000000001 : Int32)) gw205 dX6_next_9 ?_
    refine go_callVI (As := fun ad => [.int (-1000000001 : Int32)]) (g_X6_finds (-1000000001 : Int32) u2) mv_X6_finds clX6 kt_86 gw219 rfl ⟨Nat.le_of_ble_eq_true rfl, Nat.le_of_ble_eq_true rfl⟩ rfl (Nat.le_of_ble_eq_true rfl) dX6_next_11 (fun r9 u10 => ?_)
    exact go_iret rfl dX6_next_14
def f_X6_isAgreed (a1 : Int32) (a2 : Int32) (a3 : Int32) (u : Uw) : Option (Bool × Uw) :=
  bd (f_X6_isHoly a1 a3 u) fun r1 u2 =>
  bd (f_X6_isHoly a2 a3 u2) fun r3 u4 =>
  if (bI r1) = (bI r3) then
  (some (true, u4))
  else
  (some (false, u4))
set_option maxHeartbeats 4000000 in
set_option maxRecDepth 100000 in
theorem g_X6_isAgreed (a1 : Int32) (a2 : Int32) (a3 : Int32) (u : Uw) : ∀ l, Con l yX6_isAgreed mi_X6_isAgreed ivZ (fun ad => [.ref (ad 86), .int a1, .int a2, .int a3]) u (f_X6_isAgreed a1 a2 a3 u) := by
  refine con_of (by decide) rfl (fun _ => Nat.le_of_ble_eq_true rfl) (fun X ad => ?_)
  show Go X ad mi_X6_isAgreed ivZ 0 [(0, .ref (ad 86)), (1, .int a1), (2, .int a2), (3, .int a3)] [] u (f_X6_isAgreed a1 a2 a3 u)
  unfold f_X6_isAgreed
  refine go_aload_n 0 rfl dX6_isAgreed_0 rfl ?_
  refine go_iload_n 1 rfl dX6_isAgreed_1 rfl ?_
  refine go_iload_n 3 rfl dX6_isAgreed_2 rfl ?_
  refine go_callVZ (As := fun ad => [.int a1, .int a3]) (g_X6_isHoly a1 a3 u) mv_X6_isHoly clX6 kt_86 gw236 rfl ⟨Nat.le_of_ble_eq_true rfl, Nat.le_of_ble_eq_true rfl⟩ rfl (Nat.le_of_ble_eq_true rfl) dX6_isAgreed_3 (fun r1 u2 => ?_)
  refine go_aload_n 0 rfl dX6_isAgreed_6 rfl ?_
  refine go_iload_n 2 rfl dX6_isAgreed_7 rfl ?_
  refine go_iload_n 3 rfl dX6_isAgreed_8 rfl ?_
  refine go_callVZ (As := fun ad => [.int a2, .int a3]) (g_X6_isHoly a2 a3 u2) mv_X6_isHoly clX6 kt_86 gw236 rfl ⟨Nat.le_of_ble_eq_true rfl, Nat.le_of_ble_eq_true rfl⟩ rfl (Nat.le_of_ble_eq_true rfl) dX6_isAgreed_9 (fun r3 u4 => ?_)
  refine go_icmp_ne (tgt := 19) dX6_isAgreed_12 (by decide) ?_ ?_
  · refine go_iconst (v := (0 : Int32)) dX6_isAgreed_19 (by decide) ?_
    exact go_zret (b := false) rfl dX6_isAgreed_20
  · refine go_iconst (v := (1 : Int32)) dX6_isAgreed_15 (by decide) ?_
    refine go_goto (tgt := 20) dX6_isAgreed_16 (by decide) ?_
    exact go_zret (b := true) rfl dX6_isAgreed_20
def b_X6_agreed_11 (ih11 : Int32 × Int32 × Int32 × Int32 × Int32 × Uw → Option (Int32 × Uw)) (s : Int32 × Int32 × Int32 × Int32 × Int32 × Uw) : Option (Int32 × Uw) :=
  nm (s.2.2.2.2.2.1 20 (2 : Int32).toNatClampNeg) fun x2 =>
  if (x2 + s.2.2.1) ≤ s.2.2.2.2.1 then
  (some (s.2.2.2.1, s.2.2.2.2.2))
  else
  (bd (f_X6_isAgreed s.1 s.2.1 s.2.2.2.2.1 s.2.2.2.2.2) fun r3 u4 =>
  if r3 = true then
  (nm (s.2.2.2.1 + (1 : Int32)) fun x6 =>
  ih11 (s.1, s.2.1, s.2.2.1, x6, (s.2.2.2.2.1 + (1 : Int32)), u4))
  else
  (nm (s.2.2.2.1 + (0 : Int32)) fun x5 =>
  ih11 (s.1, s.2.1, s.2.2.1, x5, (s.2.2.2.2.1 + (1 : Int32)), u4)))
def f_X6_agreed (a1 : Int32) (a2 : Int32) (a3 : Int32) (u : Uw) : Option (Int32 × Uw) :=
  nm (u.1 20 (2 : Int32).toNatClampNeg) fun x1 =>
  lp b_X6_agreed_11 2100 (a1, a2, a3, (0 : Int32), x1, u)
set_option maxHeartbeats 4000000 in
set_option maxRecDepth 100000 in
theorem gl_X6_agreed_11 (X : Cx) (ad : Nat → Nat) : ∀ (n : Nat) (s : Int32 × Int32 × Int32 × Int32 × Int32 × Uw), Go X ad mi_X6_agreed ivI 11 [(0, .ref (ad 86)), (1, .int s.1), (2, .int s.2.1), (3, .int s.2.2.1), (4, .int s.2.2.2.1), (5, .int s.2.2.2.2.1)] [] s.2.2.2.2.2 (lp b_X6_agreed_11 n s) := by
  refine go_lp (G := fun (s : Int32 × Int32 × Int32 × Int32 × Int32 × Uw) o => Go X ad mi_X6_agreed ivI 11 [(0, .ref (ad 86)), (1, .int s.1), (2, .int s.2.1), (3, .int s.2.2.1), (4, .int s.2.2.2.1), (5, .int s.2.2.2.2.1)] [] s.2.2.2.2.2 o) (fun _ => go_none) (fun ih11 hih11 s => ?_)
  show Go X ad mi_X6_agreed ivI 11 [(0, .ref (ad 86)), (1, .int s.1), (2, .int s.2.1), (3, .int s.2.2.1), (4, .int s.2.2.2.1), (5, .int s.2.2.2.2.1)] [] s.2.2.2.2.2 (b_X6_agreed_11 ih11 s)
  unfold b_X6_agreed_11
  refine go_iload 5 rfl dX6_agreed_11 ?_
  refine go_aload_n 0 rfl dX6_agreed_13 rfl ?_
  refine go_getR clX6 kt_86 0 (Nat.le_of_ble_eq_true rfl) (f := 87) (fun _ => rfl) gw207 dX6_agreed_14 ?_
  refine go_iconst (v := (2 : Int32)) dX6_agreed_17 (by decide) ?_
  refine go_ialdL kt_87 kr_87 kl_87 rfl dX6_agreed_18 ?_
  refine go_nm (fun x2 => ?_)
  refine go_iload_n 3 rfl dX6_agreed_19 rfl ?_
  refine go_iadd dX6_agreed_20 ?_
  refine go_icmp_ge (tgt := 51) dX6_agreed_21 (by decide) ?_ ?_
  · refine go_iload 4 rfl dX6_agreed_51 ?_
    exact go_iret rfl dX6_agreed_53
  · refine go_iload 4 rfl dX6_agreed_24 ?_
    refine go_aload_n 0 rfl dX6_agreed_26 rfl ?_
    refine go_iload_n 1 rfl dX6_agreed_27 rfl ?_
    refine go_iload_n 2 rfl dX6_agreed_28 rfl ?_
    refine go_iload 5 rfl dX6_agreed_29 ?_
    refine go_callVZ (As := fun ad => [.int s.1, .int s.2.1, .int s.2.2.2.2.1]) (g_X6_isAgreed s.1 s.2.1 s.2.2.2.2.1 s.2.2.2.2.2) mv_X6_isAgreed clX6 kt_86 gw258 rfl ⟨Nat.le_of_ble_eq_true rfl, Nat.le_of_ble_eq_true rfl⟩ rfl (Nat.le_of_ble_eq_true rfl) dX6_agreed_31 (fun r3 u4 => ?_)
    refine go_ifz_eq (tgt := 41) dX6_agreed_34 (by decide) ?_ ?_
    · refine go_iconst (v := (0 : Int32)) dX6_agreed_41 (by decide) ?_
      refine go_iadd dX6_agreed_42 ?_
      refine go_nm (fun x5 => ?_)
      refine go_istore (lv' := [(4, .int x5), (0, .ref (ad 86)), (1, .int s.1), (2, .int s.2.1), (3, .int s.2.2.1), (5, .int s.2.2.2.2.1)]) dX6_agreed_43 (Nat.le_of_ble_eq_true rfl) rfl ?_
      refine go_iinc (v := (s.2.2.2.2.1 + (1 : Int32))) (lv' := [(5, .int (s.2.2.2.2.1 + (1 : Int32))), (4, .int x5), (0, .ref (ad 86)), (1, .int s.1), (2, .int s.2.1), (3, .int s.2.2.1)]) 5 rfl dX6_agreed_45 rfl (Nat.le_of_ble_eq_true rfl) rfl ?_
      refine go_goto (tgt := 11) dX6_agreed_48 (by decide) ?_
      exact go_sub [2, 3, 4, 5, 1, 0] rfl (hih11 (s.1, s.2.1, s.2.2.1, x5, (s.2.2.2.2.1 + (1 : Int32)), u4))
    · refine go_iconst (v := (1 : Int32)) dX6_agreed_37 (by decide) ?_
      refine go_goto (tgt := 42) dX6_agreed_38 (by decide) ?_
      refine go_iadd dX6_agreed_42 ?_
      refine go_nm (fun x6 => ?_)
      refine go_istore (lv' := [(4, .int x6), (0, .ref (ad 86)), (1, .int s.1), (2, .int s.2.1), (3, .int s.2.2.1), (5, .int s.2.2.2.2.1)]) dX6_agreed_43 (Nat.le_of_ble_eq_true rfl) rfl ?_
      refine go_iinc (v := (s.2.2.2.2.1 + (1 : Int32))) (lv' := [(5, .int (s.2.2.2.2.1 + (1 : Int32))), (4, .int x6), (0, .ref (ad 86)), (1, .int s.1), (2, .int s.2.1), (3, .int s.2.2.1)]) 5 rfl dX6_agreed_45 rfl (Nat.le_of_ble_eq_true rfl) rfl ?_
      refine go_goto (tgt := 11) dX6_agreed_48 (by decide) ?_
      exact go_sub [2, 3, 4, 5, 1, 0] rfl (hih11 (s.1, s.2.1, s.2.2.1, x6, (s.2.2.2.2.1 + (1 : Int32)), u4))
set_option maxHeartbeats 4000000 in
set_option maxRecDepth 100000 in
theorem g_X6_agreed (a1 : Int32) (a2 : Int32) (a3 : Int32) (u : Uw) : ∀ l, Con l yX6_agreed mi_X6_agreed ivI (fun ad => [.ref (ad 86), .int a1, .int a2, .int a3]) u (f_X6_agreed a1 a2 a3 u) := by
  refine con_of (by decide) rfl (fun _ => Nat.le_of_ble_eq_true rfl) (fun X ad => ?_)
  show Go X ad mi_X6_agreed ivI 0 [(0, .ref (ad 86)), (1, .int a1), (2, .int a2), (3, .int a3)] [] u (f_X6_agreed a1 a2 a3 u)
  unfold f_X6_agreed
  refine go_iconst (v := (0 : Int32)) dX6_agreed_0 (by decide) ?_
  refine go_istore (lv' := [(4, .int (0 : Int32)), (0, .ref (ad 86)), (1, .int a1), (2, .int a2), (3, .int a3)]) dX6_agreed_1 (Nat.le_of_ble_eq_true rfl) rfl ?_
  refine go_aload_n 1 rfl dX6_agreed_3 rfl ?_
  refine go_getR clX6 kt_86 0 (Nat.le_of_ble_eq_true rfl) (f := 87) (fun _ => rfl) gw207 dX6_agreed_4 ?_
  refine go_iconst (v := (2 : Int32)) dX6_agreed_7 (by decide) ?_
  refine go_ialdL kt_87 kr_87 kl_87 rfl dX6_agreed_8 ?_
  refine go_nm (fun x1 => ?_)
  refine go_istore (lv' := [(5, .int x1), (4, .int (0 : Int32)), (0, .ref (ad 86)), (1, .int a1), (2, .int a2), (3, .int a3)]) dX6_agreed_9 (Nat.le_of_ble_eq_true rfl) rfl ?_
  exact go_sub [2, 3, 4, 5, 1, 0] rfl (gl_X6_agreed_11 X ad  2100 (a1, a2, a3, (0 : Int32), x1, u))
def f_X6_agree (a1 : Int32) (a2 : Int32) (a3 : Int32) (u : Uw) : Option (Int32 × Uw) :=
  bd (f_X6_areTwo a1 a2 u) fun r1 u2 =>
  if r1 = true then
  (bd (f_X6_in (a3.toInt64) (1 : Int64) (400 : Int64) u2) fun r5 u6 =>
  if r5 = true then
  (bd (f_X6_agreed a1 a2 a3 u6) fun r9 u10 =>
  some (r9, u10))
  else
  (bd (f_X6_finds (-1000000001 : Int32) u6) fun r7 u8 =>
  some (r7, u8)))
  else
  (bd (f_X6_finds (-1000000001 : Int32) u2) fun r3 u4 =>
  some (r3, u4))
set_option maxHeartbeats 4000000 in
set_option maxRecDepth 100000 in
theorem g_X6_agree (a1 : Int32) (a2 : Int32) (a3 : Int32) (u : Uw) : ∀ l, Con l yX6_agree mi_X6_agree ivI (fun ad => [.ref (ad 86), .int a1, .int a2, .int a3]) u (f_X6_agree a1 a2 a3 u) := by
  refine con_of (by decide) rfl (fun _ => Nat.le_of_ble_eq_true rfl) (fun X ad => ?_)
  show Go X ad mi_X6_agree ivI 0 [(0, .ref (ad 86)), (1, .int a1), (2, .int a2), (3, .int a3)] [] u (f_X6_agree a1 a2 a3 u)
  unfold f_X6_agree
  refine go_aload_n 0 rfl dX6_agree_0 rfl ?_
  refine go_iload_n 1 rfl dX6_agree_1 rfl ?_
  refine go_iload_n 2 rfl dX6_agree_2 rfl ?_
  refine go_callVZ (As := fun ad => [.int a1, .int a2]) (g_X6_areTwo a1 a2 u) mv_X6_areTwo clX6 kt_86 gw259 rfl ⟨Nat.le_of_ble_eq_true rfl, Nat.le_of_ble_eq_true rfl⟩ rfl (Nat.le_of_ble_eq_true rfl) dX6_agree_3 (fun r1 u2 => ?_)
  refine go_ifz_eq (tgt := 31) dX6_agree_6 (by decide) ?_ ?_
  · refine go_aload_n 0 rfl dX6_agree_31 rfl ?_
    refine go_ldc (v := (-1000000001 : Int32)) gw205 dX6_agree_32 ?_
    refine go_callVI (As := fun ad => [.int (-1000000001 : Int32)]) (g_X6_finds (-1000000001 : Int32) u2) mv_X6_finds clX6 kt_86 gw219 rfl ⟨Nat.le_of_ble_eq_true rfl, Nat.le_of_ble_eq_true rfl⟩ rfl (Nat.le_of_ble_eq_true rfl) dX6_agree_34 (fun r3 u4 => ?_)
    exact go_iret rfl dX6_agree_37
  · refine go_iload_n 3 rfl dX6_agree_9 rfl ?_
    refine go_i2l dX6_agree_10 ?_
    refine go_lconst (v := (1 : Int64)) dX6_agree_11 (by decide) ?_
    refine go_ldc2 (v := (400 : Int64)) gw247 dX6_agree_12 ?_
    refine go_callSZ (As := fun ad => [.long (a3.toInt64), .long (1 : Int64), .long (400 : Int64)]) (g_X6_in (a3.toInt64) (1 : Int64) (400 : Int64) u2) mo_X6_in gw209 gw210 rfl ⟨Nat.le_of_ble_eq_true rfl, Nat.le_of_ble_eq_true rfl⟩ rfl (Nat.le_of_ble_eq_true rfl) dX6_agree_15 (fun r5 u6 => ?_)
    refine go_ifz_eq (tgt := 31) dX6_agree_18 (by decide) ?_ ?_
    · refine go_aload_n 0 rfl dX6_agree_31 rfl ?_
      refine go_ldc (v := (-1000000001 : Int32)) gw205 dX6_agree_32 ?_
      refine go_callVI (As := fun ad => [.int (-1000000001 : Int32)]) (g_X6_finds (-1000000001 : Int32) u6) mv_X6_finds clX6 kt_86 gw219 rfl ⟨Nat.le_of_ble_eq_true rfl, Nat.le_of_ble_eq_true rfl⟩ rfl (Nat.le_of_ble_eq_true rfl) dX6_agree_34 (fun r7 u8 => ?_)
      exact go_iret rfl dX6_agree_37
    · refine go_aload_n 0 rfl dX6_agree_21 rfl ?_
      refine go_iload_n 1 rfl dX6_agree_22 rfl ?_
      refine go_iload_n 2 rfl dX6_agree_23 rfl ?_
      refine go_iload_n 3 rfl dX6_agree_24 rfl ?_
      refine go_callVI (As := fun ad => [.int a1, .int a2, .int a3]) (g_X6_agreed a1 a2 a3 u6) mv_X6_agreed clX6 kt_86 gw260 rfl ⟨Nat.le_of_ble_eq_true rfl, Nat.le_of_ble_eq_true rfl⟩ rfl (Nat.le_of_ble_eq_true rfl) dX6_agree_25 (fun r9 u10 => ?_)
      refine go_goto (tgt := 37) dX6_agree_28 (by decide) ?_
      exact go_iret rfl dX6_agree_37
def b_X6_row_42 (ih42 : Int32 × Int32 × Int32 × Int32 × Int32 × Int32 × Uw → Option (Int32 × Uw)) (s : Int32 × Int32 × Int32 × Int32 × Int32 × Int32 × Uw) : Option (Int32 × Uw) :=
  nm (s.2.2.2.2.2.2.1 20 (2 : Int32).toNatClampNeg) fun x8 =>
  if (x8 + s.2.2.1) ≤ s.2.2.2.2.2.1 then
  (some (s.2.2.2.1, s.2.2.2.2.2.2))
  else
  (bd (f_X6_isAgreed s.1 s.2.1 s.2.2.2.2.2.1 s.2.2.2.2.2.2) fun r9 u10 =>
  if r9 = true then
  (nm (s.2.2.2.2.1 + (1 : Int32)) fun x12 =>
  if x12 ≤ s.2.2.2.1 then
  (nm s.2.2.2.1 fun x13 =>
  ih42 (s.1, s.2.1, s.2.2.1, x13, x12, (s.2.2.2.2.2.1 + (1 : Int32)), u10))
  else
  (ih42 (s.1, s.2.1, s.2.2.1, x12, x12, (s.2.2.2.2.2.1 + (1 : Int32)), u10)))
  else
  (if (0 : Int32) ≤ s.2.2.2.1 then
  (nm s.2.2.2.1 fun x11 =>
  ih42 (s.1, s.2.1, s.2.2.1, x11, (0 : Int32), (s.2.2.2.2.2.1 + (1 : Int32)), u10))
  else
  (ih42 (s.1, s.2.1, s.2.2.1, (0 : Int32), (0 : Int32), (s.2.2.2.2.2.1 + (1 : Int32)), u10))))
def f_X6_row (a1 : Int32) (a2 : Int32) (a3 : Int32) (u : Uw) : Option (Int32 × Uw) :=
  bd (f_X6_areTwo a1 a2 u) fun r1 u2 =>
  if r1 = true then
  (bd (f_X6_in (a3.toInt64) (1 : Int64) (400 : Int64) u2) fun r5 u6 =>
  if r5 = true then
  (nm (u6.1 20 (2 : Int32).toNatClampNeg) fun x7 =>
  lp b_X6_row_42 2100 (a1, a2, a3, (0 : Int32), (0 : Int32), x7, u6))
  else
  (bd (f_X6_finds (-1000000001 : Int32) u6) fun r14 u15 =>
  some (r14, u15)))
  else
  (bd (f_X6_finds (-1000000001 : Int32) u2) fun r3 u4 =>
  some (r3, u4))
set_option maxHeartbeats 4000000 in
set_option maxRecDepth 100000 in
theorem gl_X6_row_42 (X : Cx) (ad : Nat → Nat) : ∀ (n : Nat) (s : Int32 × Int32 × Int32 × Int32 × Int32 × Int32 × Uw), Go X ad mi_X6_row ivI 42 [(0, .ref (ad 86)), (1, .int s.1), (2, .int s.2.1), (3, .int s.2.2.1), (4, .int s.2.2.2.1), (5, .int s.2.2.2.2.1), (6, .int s.2.2.2.2.2.1)] [] s.2.2.2.2.2.2 (lp b_X6_row_42 n s) := by
  refine go_lp (G := fun (s : Int32 × Int32 × Int32 × Int32 × Int32 × Int32 × Uw) o => Go X ad mi_X6_row ivI 42 [(0, .ref (ad 86)), (1, .int s.1), (2, .int s.2.1), (3, .int s.2.2.1), (4, .int s.2.2.2.1), (5, .int s.2.2.2.2.1), (6, .int s.2.2.2.2.2.1)] [] s.2.2.2.2.2.2 o) (fun _ => go_none) (fun ih42 hih42 s => ?_)
  show Go X ad mi_X6_row ivI 42 [(0, .ref (ad 86)), (1, .int s.1), (2, .int s.2.1), (3, .int s.2.2.1), (4, .int s.2.2.2.1), (5, .int s.2.2.2.2.1), (6, .int s.2.2.2.2.2.1)] [] s.2.2.2.2.2.2 (b_X6_row_42 ih42 s)
  unfold b_X6_row_42
  refine go_iload 6 rfl dX6_row_42 ?_
  refine go_aload_n 0 rfl dX6_row_44 rfl ?_
  refine go_getR clX6 kt_86 0 (Nat.le_of_ble_eq_true rfl) (f := 87) (fun _ => rfl) gw207 dX6_row_45 ?_
  refine go_iconst (v := (2 : Int32)) dX6_row_48 (by decide) ?_
  refine go_ialdL kt_87 kr_87 kl_87 rfl dX6_row_49 ?_
  refine go_nm (fun x8 => ?_)
  refine go_iload_n 3 rfl dX6_row_50 rfl ?_
  refine go_iadd dX6_row_51 ?_
  refine go_icmp_ge (tgt := 98) dX6_row_52 (by decide) ?_ ?_
  · refine go_iload 4 rfl dX6_row_98 ?_
    exact go_iret rfl dX6_row_100
  · refine go_aload_n 0 rfl dX6_row_55 rfl ?_
    refine go_iload_n 1 rfl dX6_row_56 rfl ?_
    refine go_iload_n 2 rfl dX6_row_57 rfl ?_
    refine go_iload 6 rfl dX6_row_58 ?_
    refine go_callVZ (As := fun ad => [.int s.1, .int s.2.1, .int s.2.2.2.2.2.1]) (g_X6_isAgreed s.1 s.2.1 s.2.2.2.2.2.1 s.2.2.2.2.2.2) mv_X6_isAgreed clX6 kt_86 gw258 rfl ⟨Nat.le_of_ble_eq_true rfl, Nat.le_of_ble_eq_true rfl⟩ rfl (Nat.le_of_ble_eq_true rfl) dX6_row_60 (fun r9 u10 => ?_)
    refine go_ifz_eq (tgt := 73) dX6_row_63 (by decide) ?_ ?_
    · refine go_iconst (v := (0 : Int32)) dX6_row_73 (by decide) ?_
      refine go_istore (lv' := [(5, .int (0 : Int32)), (0, .ref (ad 86)), (1, .int s.1), (2, .int s.2.1), (3, .int s.2.2.1), (4, .int s.2.2.2.1), (6, .int s.2.2.2.2.2.1)]) dX6_row_74 (Nat.le_of_ble_eq_true rfl) rfl ?_
      refine go_iload 0 rfl dX6_row_76 ?_
      refine go_iload 5 rfl dX6_row_78 ?_
      refine go_icmp_le (tgt := 88) dX6_row_80 (by decide) ?_ ?_
      · refine go_iload 5 rfl dX6_row_88 ?_
        refine go_nm (fun x11 => ?_)
        refine go_istore (lv' := [(4, .int x11), (5, .int (0 : Int32)), (0, .ref (ad 86)), (1, .int s.1), (2, .int s.2.1), (3, .int s.2.2.1), (6, .int s.2.2.2.2.2.1)]) dX6_row_90 (Nat.le_of_ble_eq_true rfl) rfl ?_
        refine go_iinc (v := (s.2.2.2.2.2.1 + (1 : Int32))) (lv' := [(6, .int (s.2.2.2.2.2.1 + (1 : Int32))), (4, .int x11), (5, .int (0 : Int32)), (0, .ref (ad 86)), (1, .int s.1), (2, .int s.2.1), (3, .int s.2.2.1)]) 6 rfl dX6_row_92 rfl (Nat.le_of_ble_eq_true rfl) rfl ?_
        refine go_goto (tgt := 42) dX6_row_95 (by decide) ?_
        exact go_sub [3, 4, 5, 6, 1, 2, 0] rfl (hih42 (s.1, s.2.1, s.2.2.1, x11, (0 : Int32), (s.2.2.2.2.2.1 + (1 : Int32)), u10))
      · refine go_iload 0 rfl dX6_row_83 ?_
        refine go_goto (tgt := 90) dX6_row_85 (by decide) ?_
        refine go_istore (lv' := [(4, .int (0 : Int32)), (5, .int (0 : Int32)), (0, .ref (ad 86)), (1, .int s.1), (2, .int s.2.1), (3, .int s.2.2.1), (6, .int s.2.2.2.2.2.1)]) dX6_row_90 (Nat.le_of_ble_eq_true rfl) rfl ?_
        refine go_iinc (v := (s.2.2.2.2.2.1 + (1 : Int32))) (lv' := [(6, .int (s.2.2.2.2.2.1 + (1 : Int32))), (4, .int (0 : Int32)), (5, .int (0 : Int32)), (0, .ref (ad 86)), (1, .int s.1), (2, .int s.2.1), (3, .int s.2.2.1)]) 6 rfl dX6_row_92 rfl (Nat.le_of_ble_eq_true rfl) rfl ?_
        refine go_goto (tgt := 42) dX6_row_95 (by decide) ?_
        exact go_sub [3, 4, 5, 6, 1, 2, 0] rfl (hih42 (s.1, s.2.1, s.2.2.1, (0 : Int32), (0 : Int32), (s.2.2.2.2.2.1 + (1 : Int32)), u10))
    · refine go_iload 5 rfl dX6_row_66 ?_
      refine go_iconst (v := (1 : Int32)) dX6_row_68 (by decide) ?_
      refine go_iadd dX6_row_69 ?_
      refine go_goto (tgt := 74) dX6_row_70 (by decide) ?_
      refine go_nm (fun x12 => ?_)
      refine go_istore (lv' := [(5, .int x12), (0, .ref (ad 86)), (1, .int s.1), (2, .int s.2.1), (3, .int s.2.2.1), (4, .int s.2.2.2.1), (6, .int s.2.2.2.2.2.1)]) dX6_row_74 (Nat.le_of_ble_eq_true rfl) rfl ?_
      refine go_iload 0 rfl dX6_row_76 ?_
      refine go_iload 5 rfl dX6_row_78 ?_
      refine go_icmp_le (tgt := 88) dX6_row_80 (by decide) ?_ ?_
      · refine go_iload 5 rfl dX6_row_88 ?_
        refine go_nm (fun x13 => ?_)
        refine go_istore (lv' := [(4, .int x13), (5, .int x12), (0, .ref (ad 86)), (1, .int s.1), (2, .int s.2.1), (3, .int s.2.2.1), (6, .int s.2.2.2.2.2.1)]) dX6_row_90 (Nat.le_of_ble_eq_true rfl) rfl ?_
        refine go_iinc (v := (s.2.2.2.2.2.1 + (1 : Int32))) (lv' := [(6, .int (s.2.2.2.2.2.1 + (1 : Int32))), (4, .int x13), (5, .int x12), (0, .ref (ad 86)), (1, .int s.1), (2, .int s.2.1), (3, .int s.2.2.1)]) 6 rfl dX6_row_92 rfl (Nat.le_of_ble_eq_true rfl) rfl ?_
        refine go_goto (tgt := 42) dX6_row_95 (by decide) ?_
        exact go_sub [3, 4, 5, 6, 1, 2, 0] rfl (hih42 (s.1, s.2.1, s.2.2.1, x13, x12, (s.2.2.2.2.2.1 + (1 : Int32)), u10))
      · refine go_iload 0 rfl dX6_row_83 ?_
        refine go_goto (tgt := 90) dX6_row_85 (by decide) ?_
        refine go_istore (lv' := [(4, .int x12), (5, .int x12), (0, .ref (ad 86)), (1, .int s.1), (2, .int s.2.1), (3, .int s.2.2.1), (6, .int s.2.2.2.2.2.1)]) dX6_row_90 (Nat.le_of_ble_eq_true rfl) rfl ?_
        refine go_iinc (v := (s.2.2.2.2.2.1 + (1 : Int32))) (lv' := [(6, .int (s.2.2.2.2.2.1 + (1 : Int32))), (4, .int x12), (5, .int x12), (0, .ref (ad 86)), (1, .int s.1), (2, .int s.2.1), (3, .int s.2.2.1)]) 6 rfl dX6_row_92 rfl (Nat.le_of_ble_eq_true rfl) rfl ?_
        refine go_goto (tgt := 42) dX6_row_95 (by decide) ?_
        exact go_sub [3, 4, 5, 6, 1, 2, 0] rfl (hih42 (s.1, s.2.1, s.2.2.1, x12, x12, (s.2.2.2.2.2.1 + (1 : Int32)), u10))
set_option maxHeartbeats 4000000 in
set_option maxRecDepth 100000 in
theorem g_X6_row (a1 : Int32) (a2 : Int32) (a3 : Int32) (u : Uw) : ∀ l, Con l yX6_row mi_X6_row ivI (fun ad => [.ref (ad 86), .int a1, .int a2, .int a3]) u (f_X6_row a1 a2 a3 u) := by
  refine con_of (by decide) rfl (fun _ => Nat.le_of_ble_eq_true rfl) (fun X ad => ?_)
  show Go X ad mi_X6_row ivI 0 [(0, .ref (ad 86)), (1, .int a1), (2, .int a2), (3, .int a3)] [] u (f_X6_row a1 a2 a3 u)
  unfold f_X6_row
  refine go_aload_n 0 rfl dX6_row_0 rfl ?_
  refine go_iload_n 1 rfl dX6_row_1 rfl ?_
  refine go_iload_n 2 rfl dX6_row_2 rfl ?_
  refine go_callVZ (As := fun ad => [.int a1, .int a2]) (g_X6_areTwo a1 a2 u) mv_X6_areTwo clX6 kt_86 gw259 rfl ⟨Nat.le_of_ble_eq_true rfl, Nat.le_of_ble_eq_true rfl⟩ rfl (Nat.le_of_ble_eq_true rfl) dX6_row_3 (fun r1 u2 => ?_)
  refine go_ifz_eq (tgt := 21) dX6_row_6 (by decide) ?_ ?_
  · refine go_aload_n 0 rfl dX6_row_21 rfl ?_
    refine go_ldc (v := (-1000000001 : Int32)) gw205 dX6_row_22 ?_
    refine go_callVI (As := fun ad => [.int (-1000000001 : Int32)]) (g_X6_finds (-1000000001 : Int32) u2) mv_X6_finds clX6 kt_86 gw219 rfl ⟨Nat.le_of_ble_eq_true rfl, Nat.le_of_ble_eq_true rfl⟩ rfl (Nat.le_of_ble_eq_true rfl) dX6_row_24 (fun r3 u4 => ?_)
    exact go_iret rfl dX6_row_27
  · refine go_iload_n 3 rfl dX6_row_9 rfl ?_
    refine go_i2l dX6_row_10 ?_
    refine go_lconst (v := (1 : Int64)) dX6_row_11 (by decide) ?_
    refine go_ldc2 (v := (400 : Int64)) gw247 dX6_row_12 ?_
    refine go_callSZ (As := fun ad => [.long (a3.toInt64), .long (1 : Int64), .long (400 : Int64)]) (g_X6_in (a3.toInt64) (1 : Int64) (400 : Int64) u2) mo_X6_in gw209 gw210 rfl ⟨Nat.le_of_ble_eq_true rfl, Nat.le_of_ble_eq_true rfl⟩ rfl (Nat.le_of_ble_eq_true rfl) dX6_row_15 (fun r5 u6 => ?_)
    refine go_ifz_ne (tgt := 28) dX6_row_18 (by decide) ?_ ?_
    · refine go_iconst (v := (0 : Int32)) dX6_row_28 (by decide) ?_
      refine go_istore (lv' := [(4, .int (0 : Int32)), (0, .ref (ad 86)), (1, .int a1), (2, .int a2), (3, .int a3)]) dX6_row_29 (Nat.le_of_ble_eq_true rfl) rfl ?_
      refine go_iconst (v := (0 : Int32)) dX6_row_31 (by decide) ?_
      refine go_istore (lv' := [(5, .int (0 : Int32)), (4, .int (0 : Int32)), (0, .ref (ad 86)), (1, .int a1), (2, .int a2), (3, .int a3)]) dX6_row_32 (Nat.le_of_ble_eq_true rfl) rfl ?_
      refine go_aload_n 2 rfl dX6_row_34 rfl ?_
      refine go_getR clX6 kt_86 0 (Nat.le_of_ble_eq_true rfl) (f := 87) (fun _ => rfl) gw207 dX6_row_35 ?_
      refine go_iconst (v := (2 : Int32)) dX6_row_38 (by decide) ?_
      refine go_ialdL kt_87 kr_87 kl_87 rfl dX6_row_39 ?_
      refine go_nm (fun x7 => ?_)
      refine go_istore (lv' := [(6, .int x7), (5, .int (0 : Int32)), (4, .int (0 : Int32)), (0, .ref (ad 86)), (1, .int a1), (2, .int a2), (3, .int a3)]) dX6_row_40 (Nat.le_of_ble_eq_true rfl) rfl ?_
      exact go_sub [3, 4, 5, 6, 2, 1, 0] rfl (gl_X6_row_42 X ad  2100 (a1, a2, a3, (0 : Int32), (0 : Int32), x7, u6))
    · refine go_aload_n 0 rfl dX6_row_21 rfl ?_
      refine go_ldc (v := (-1000000001 : Int32)) gw205 dX6_row_22 ?_
      refine go_callVI (As := fun ad => [.int (-1000000001 : Int32)]) (g_X6_finds (-1000000001 : Int32) u6) mv_X6_finds clX6 kt_86 gw219 rfl ⟨Nat.le_of_ble_eq_true rfl, Nat.le_of_ble_eq_true rfl⟩ rfl (Nat.le_of_ble_eq_true rfl) dX6_row_24 (fun r14 u15 => ?_)
      exact go_iret rfl dX6_row_27
