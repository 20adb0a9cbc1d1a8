/-! methods: what each does to the world, and that its bytecode does so (laid by wip/whole/gen) -/
def f_X5_pilgrim (a1 : Int32) (a2 : Int32) (u : Uw) : Option (Int32 × Uw) :=
  bd (f_X5_within a1 (0 : Int32) (99 : Int32) u) fun r1 u2 =>
  if r1 = true then
  (bd (f_X3_canTrust 0 a2 u2) fun r5 u6 =>
  if r5 = true then
  (if (u6.1 0 1) < (8 : Int32) then
  (bd (f_X3_addPilgrim 0 a1 a2 u6) fun r7 u8 =>
  some (((u8.1 0 1) - (1 : Int32)), u8))
  else
  (bd (f_X5_found (-1000000002 : Int32) u6) fun r9 u10 =>
  some (r9, u10)))
  else
  (bd (f_X5_found (-1000000001 : Int32) u6) fun r11 u12 =>
  some (r11, u12)))
  else
  (bd (f_X5_found (-1000000001 : Int32) u2) fun r3 u4 =>
  some (r3, u4))
set_option maxHeartbeats 4000000 in
set_option maxRecDepth 100000 in
theorem g_X5_pilgrim (a1 : Int32) (a2 : Int32) (u : Uw) : ∀ l, Con l yX5_pilgrim mi_X5_pilgrim ivI (fun ad => [.ref (ad 69), .int a1, .int a2]) u (f_X5_pilgrim a1 a2 u) := by
  refine con_of (by decide) rfl (fun _ => Nat.le_of_ble_eq_true rfl) (fun X ad => ?_)
  show Go X ad mi_X5_pilgrim ivI 0 [(0, .ref (ad 69)), (1, .int a1), (2, .int a2)] [] u (f_X5_pilgrim a1 a2 u)
  unfold f_X5_pilgrim
  refine go_iload_n 1 rfl dX5_pilgrim_0 rfl ?_
  refine go_iconst (v := (0 : Int32)) dX5_pilgrim_1 (by decide) ?_
  refine go_bipush (v := (99 : Int32)) dX5_pilgrim_2 (by decide) ?_
  refine go_callSZ (As := fun ad => [.int a1, .int (0 : Int32), .int (99 : Int32)]) (g_X5_within a1 (0 : Int32) (99 : Int32) u) mo_X5_within gw85 gw125 rfl ⟨Nat.le_of_ble_eq_true rfl, Nat.le_of_ble_eq_true rfl⟩ rfl (Nat.le_of_ble_eq_true rfl) dX5_pilgrim_4 (fun r1 u2 => ?_)
  refine go_ifz_eq (tgt := 21) dX5_pilgrim_7 (by decide) ?_ ?_
  · refine go_aload_n 0 rfl dX5_pilgrim_21 rfl ?_
    refine go_ldc (v := (-1000000001 : Int32)) gw110 dX5_pilgrim_22 ?_
    refine go_callVI (As := fun ad => [.int (-1000000001 : Int32)]) (g_X5_found (-1000000001 : Int32) u2) mv_X5_found clX5 kt_69 gw117 rfl ⟨Nat.le_of_ble_eq_true rfl, Nat.le_of_ble_eq_true rfl⟩ rfl (Nat.le_of_ble_eq_true rfl) dX5_pilgrim_24 (fun r3 u4 => ?_)
    exact go_iret rfl dX5_pilgrim_27
  · refine go_aload_n 0 rfl dX5_pilgrim_10 rfl ?_
    refine go_getR clX5 kt_69 0 (Nat.le_of_ble_eq_true rfl) (f := 0) (fun _ => rfl) gw113 dX5_pilgrim_11 ?_
    refine go_iload_n 2 rfl dX5_pilgrim_14 rfl ?_
    refine go_callVZ (As := fun ad => [.int a2]) (g_X3_canTrust 0 a2 u2) mv_X3_canTrust clX3 kt_0 gw132 rfl ⟨Nat.le_of_ble_eq_true rfl, Nat.le_of_ble_eq_true rfl⟩ rfl (Nat.le_of_ble_eq_true rfl) dX5_pilgrim_15 (fun r5 u6 => ?_)
    refine go_ifz_ne (tgt := 28) dX5_pilgrim_18 (by decide) ?_ ?_
    · refine go_aload_n 0 rfl dX5_pilgrim_28 rfl ?_
      refine go_getR clX5 kt_69 0 (Nat.le_of_ble_eq_true rfl) (f := 0) (fun _ => rfl) gw113 dX5_pilgrim_29 ?_
      refine go_getILN clX3 kt_0 6 (Nat.le_of_ble_eq_true rfl) (c := 1) (fun _ => rfl) kr_0 gn133 dX5_pilgrim_32 ?_
      refine go_bipush (v := (8 : Int32)) dX5_pilgrim_35 (by decide) ?_
      refine go_icmp_lt (tgt := 47) dX5_pilgrim_37 (by decide) ?_ ?_
      · refine go_aload_n 0 rfl dX5_pilgrim_47 rfl ?_
        refine go_getR clX5 kt_69 0 (Nat.le_of_ble_eq_true rfl) (f := 0) (fun _ => rfl) gw113 dX5_pilgrim_48 ?_
        refine go_iload_n 1 rfl dX5_pilgrim_51 rfl ?_
        refine go_iload_n 2 rfl dX5_pilgrim_52 rfl ?_
        refine go_callVV (As := fun ad => [.int a1, .int a2]) (g_X3_addPilgrim 0 a1 a2 u6) mv_X3_addPilgrim clX3 kt_0 gw134 rfl ⟨Nat.le_of_ble_eq_true rfl, Nat.le_of_ble_eq_true rfl⟩ rfl (Nat.le_of_ble_eq_true rfl) dX5_pilgrim_53 (fun r7 u8 => ?_)
        refine go_aload_n 0 rfl dX5_pilgrim_56 rfl ?_
        refine go_getR clX5 kt_69 0 (Nat.le_of_ble_eq_true rfl) (f := 0) (fun _ => rfl) gw113 dX5_pilgrim_57 ?_
        refine go_getILN clX3 kt_0 6 (Nat.le_of_ble_eq_true rfl) (c := 1) (fun _ => rfl) kr_0 gn133 dX5_pilgrim_60 ?_
        refine go_iconst (v := (1 : Int32)) dX5_pilgrim_63 (by decide) ?_
        refine go_isub dX5_pilgrim_64 ?_
        exact go_iret rfl dX5_pilgrim_65
      · refine go_aload_n 0 rfl dX5_pilgrim_40 rfl ?_
        refine go_ldc (v := (-1000000002 : Int32)) gw116 dX5_pilgrim_41 ?_
        refine go_callVI (As := fun ad => [.int (-1000000002 : Int32)]) (g_X5_found (-1000000002 : Int32) u6) mv_X5_found clX5 kt_69 gw117 rfl ⟨Nat.le_of_ble_eq_true rfl, Nat.le_of_ble_eq_true rfl⟩ rfl (Nat.le_of_ble_eq_true rfl) dX5_pilgrim_43 (fun r9 u10 => ?_)
        exact go_iret rfl dX5_pilgrim_46
    · refine go_aload_n 0 rfl dX5_pilgrim_21 rfl ?_
      refine go_ldc (v := (-1000000001 : Int32)) gw110 dX5_pilgrim_22 ?_
      refine go_callVI (As := fun ad => [.int (-1000000001 : Int32)]) (g_X5_found (-1000000001 : Int32) u6) mv_X5_found clX5 kt_69 gw117 rfl ⟨Nat.le_of_ble_eq_true rfl, Nat.le_of_ble_eq_true rfl⟩ rfl (Nat.le_of_ble_eq_true rfl) dX5_pilgrim_24 (fun r11 u12 => ?_)
      exact go_iret rfl dX5_pilgrim_27
def f_X5_about (a1 : Int32) (a2 : Int32) (u : Uw) : Option (Int32 × Uw) :=
  bd (f_X3_pilgrimAt 0 a1 u) fun r1 u2 =>
  ro r1
  (bd (f_X5_found (-1000000001 : Int32) u2) fun r3 u4 =>
  some (r3, u4))
  (fun e5 =>
  bd (f_X5_within a2 (0 : Int32) (2 : Int32) u2) fun r6 u7 =>
  if r6 = true then
  (if a2 = 0 then
  (ck (kT e5 == 1) <|
  some ((u7.1 (kR e5) (kO e5 + 0)), u7))
  else
  (if a2 = (1 : Int32) then
  (ck (kT e5 == 1) <|
  some ((u7.1 (kR e5) (kO e5 + 1)), u7))
  else
  (ck (kT e5 == 1) <|
  some ((u7.1 (kR e5) (kO e5 + 2)), u7))))
  else
  (bd (f_X5_found (-1000000001 : Int32) u7) fun r11 u12 =>
  some (r11, u12)))
set_option maxHeartbeats 4000000 in
set_option maxRecDepth 100000 in
theorem g_X5_about (a1 : Int32) (a2 : Int32) (u : Uw) : ∀ l, Con l yX5_about mi_X5_about ivI (fun ad => [.ref (ad 69), .int a1, .int a2]) u (f_X5_about a1 a2 u) := by
  refine con_of (by decide) rfl (fun _ => Nat.le_of_ble_eq_true rfl) (fun X ad => ?_)
  show Go X ad mi_X5_about ivI 0 [(0, .ref (ad 69)), (1, .int a1), (2, .int a2)] [] u (f_X5_about a1 a2 u)
  unfold f_X5_about
  refine go_aload_n 0 rfl dX5_about_0 rfl ?_
  refine go_getR clX5 kt_69 0 (Nat.le_of_ble_eq_true rfl) (f := 0) (fun _ => rfl) gw113 dX5_about_1 ?_
  refine go_iload_n 1 rfl dX5_about_4 rfl ?_
  refine go_callVR (As := fun ad => [.int a1]) (g_X3_pilgrimAt 0 a1 u) mv_X3_pilgrimAt clX3 kt_0 gw135 rfl ⟨Nat.le_of_ble_eq_true rfl, Nat.le_of_ble_eq_true rfl⟩ rfl (Nat.le_of_ble_eq_true rfl) dX5_about_5 (fun r1 u2 => ?_)
  refine go_ro ?_ (fun e5 => ?_)
  · refine go_astore_nN (lv' := [(3, .null), (0, .ref (ad 69)), (1, .int a1), (2, .int a2)]) dX5_about_8 rfl (Nat.le_of_ble_eq_true rfl) rfl ?_
    refine go_aload_nN 0 rfl dX5_about_9 rfl ?_
    refine go_ifnullN (tgt := 22) dX5_about_10 (by decide) ?_
    refine go_aload_n 1 rfl dX5_about_22 rfl ?_
    refine go_ldc (v := (-1000000001 : Int32)) gw110 dX5_about_23 ?_
    refine go_callVI (As := fun ad => [.int (-1000000001 : Int32)]) (g_X5_found (-1000000001 : Int32) u2) mv_X5_found clX5 kt_69 gw117 rfl ⟨Nat.le_of_ble_eq_true rfl, Nat.le_of_ble_eq_true rfl⟩ rfl (Nat.le_of_ble_eq_true rfl) dX5_about_25 (fun r3 u4 => ?_)
    exact go_iret rfl dX5_about_28
  · refine go_astore_n (lv' := [(3, .ref (ad e5)), (0, .ref (ad 69)), (1, .int a1), (2, .int a2)]) dX5_about_8 rfl (Nat.le_of_ble_eq_true rfl) rfl ?_
    refine go_aload_n 0 rfl dX5_about_9 rfl ?_
    refine go_ifnull dX5_about_10 ?_
    refine go_iload_n 3 rfl dX5_about_13 rfl ?_
    refine go_iconst (v := (0 : Int32)) dX5_about_14 (by decide) ?_
    refine go_iconst (v := (2 : Int32)) dX5_about_15 (by decide) ?_
    refine go_callSZ (As := fun ad => [.int a2, .int (0 : Int32), .int (2 : Int32)]) (g_X5_within a2 (0 : Int32) (2 : Int32) u2) mo_X5_within gw85 gw125 rfl ⟨Nat.le_of_ble_eq_true rfl, Nat.le_of_ble_eq_true rfl⟩ rfl (Nat.le_of_ble_eq_true rfl) dX5_about_16 (fun r6 u7 => ?_)
    refine go_ifz_ne (tgt := 29) dX5_about_19 (by decide) ?_ ?_
    · refine go_iload_n 3 rfl dX5_about_29 rfl ?_
      refine go_if_ne (tgt := 38) dX5_about_30 (by decide) ?_ ?_
      · refine go_iload_n 3 rfl dX5_about_38 rfl ?_
        refine go_iconst (v := (1 : Int32)) dX5_about_39 (by decide) ?_
        refine go_icmp_ne (tgt := 50) dX5_about_40 (by decide) ?_ ?_
        · refine go_aload_n 0 rfl dX5_about_50 rfl ?_
          refine go_ck (fun h8 => ?_)
          refine go_getIN clX1 h8 2 (Nat.le_of_ble_eq_true rfl) (c := 2) (fun _ => rfl) gn136 dX5_about_51 ?_
          exact go_iret rfl dX5_about_54
        · refine go_aload_n 0 rfl dX5_about_43 rfl ?_
          refine go_ck (fun h9 => ?_)
          refine go_getIN clX1 h9 1 (Nat.le_of_ble_eq_true rfl) (c := 1) (fun _ => rfl) gn137 dX5_about_44 ?_
          refine go_goto (tgt := 54) dX5_about_47 (by decide) ?_
          exact go_iret rfl dX5_about_54
      · refine go_aload_n 0 rfl dX5_about_33 rfl ?_
        refine go_ck (fun h10 => ?_)
        refine go_getIN clX1 h10 0 (Nat.le_of_ble_eq_true rfl) (c := 0) (fun _ => rfl) gn138 dX5_about_34 ?_
        exact go_iret rfl dX5_about_37
    · refine go_aload_n 1 rfl dX5_about_22 rfl ?_
      refine go_ldc (v := (-1000000001 : Int32)) gw110 dX5_about_23 ?_
      refine go_callVI (As := fun ad => [.int (-1000000001 : Int32)]) (g_X5_found (-1000000001 : Int32) u7) mv_X5_found clX5 kt_69 gw117 rfl ⟨Nat.le_of_ble_eq_true rfl, Nat.le_of_ble_eq_true rfl⟩ rfl (Nat.le_of_ble_eq_true rfl) dX5_about_25 (fun r11 u12 => ?_)
      exact go_iret rfl dX5_about_28
def f_X5_mind (a1 : Int32) (a2 : Int32) (a3 : Int32) (u : Uw) : Option (Int32 × Uw) :=
  bd (f_X3_pilgrimAt 0 a1 u) fun r1 u2 =>
  ro r1
  (bd (f_X5_found (-1000000001 : Int32) u2) fun r3 u4 =>
  some (r3, u4))
  (fun e5 =>
  if a2 = 0 then
  (bd (f_X5_within a3 (0 : Int32) (99 : Int32) u2) fun r15 u16 =>
  if r15 = true then
  (ck (kT e5 == 1) <|
  nm (u16.1 (kR e5) (kO e5 + 0)) fun x27 =>
  nm (w1 u16 (kR e5) (kO e5 + 0) a3) fun u28 =>
  some (x27, u28))
  else
  (if a2 = (1 : Int32) then
  (bd (f_X3_canTrust 0 a3 u16) fun r19 u20 =>
  if r19 = true then
  (ck (kT e5 == 1) <|
  nm (u20.1 (kR e5) (kO e5 + 1)) fun x24 =>
  nm (w1 u20 (kR e5) (kO e5 + 1) a3) fun u25 =>
  some (x24, u25))
  else
  (bd (f_X5_found (-1000000001 : Int32) u20) fun r21 u22 =>
  some (r21, u22)))
  else
  (bd (f_X5_found (-1000000001 : Int32) u16) fun r17 u18 =>
  some (r17, u18))))
  else
  (if a2 = (1 : Int32) then
  (bd (f_X3_canTrust 0 a3 u2) fun r8 u9 =>
  if r8 = true then
  (ck (kT e5 == 1) <|
  nm (u9.1 (kR e5) (kO e5 + 1)) fun x13 =>
  nm (w1 u9 (kR e5) (kO e5 + 1) a3) fun u14 =>
  some (x13, u14))
  else
  (bd (f_X5_found (-1000000001 : Int32) u9) fun r10 u11 =>
  some (r10, u11)))
  else
  (bd (f_X5_found (-1000000001 : Int32) u2) fun r6 u7 =>
  some (r6, u7))))
set_option maxHeartbeats 4000000 in
set_option maxRecDepth 100000 in
theorem g_X5_mind (a1 : Int32) (a2 : Int32) (a3 : Int32) (u : Uw) : ∀ l, Con l yX5_mind mi_X5_mind ivI (fun ad => [.ref (ad 69), .int a1, .int a2, .int a3]) u (f_X5_mind a1 a2 a3 u) := by
  refine con_of (by decide) rfl (fun _ => Nat.le_of_ble_eq_true rfl) (fun X ad => ?_)
  show Go X ad mi_X5_mind ivI 0 [(0, .ref (ad 69)), (1, .int a1), (2, .int a2), (3, .int a3)] [] u (f_X5_mind a1 a2 a3 u)
  unfold f_X5_mind
  refine go_aload_n 0 rfl dX5_mind_0 rfl ?_
  refine go_getR clX5 kt_69 0 (Nat.le_of_ble_eq_true rfl) (f := 0) (fun _ => rfl) gw113 dX5_mind_1 ?_
  refine go_iload_n 1 rfl dX5_mind_4 rfl ?_
  refine go_callVR (As := fun ad => [.int a1]) (g_X3_pilgrimAt 0 a1 u) mv_X3_pilgrimAt clX3 kt_0 gw135 rfl ⟨Nat.le_of_ble_eq_true rfl, Nat.le_of_ble_eq_true rfl⟩ rfl (Nat.le_of_ble_eq_true rfl) dX5_mind_5 (fun r1 u2 => ?_)
  refine go_ro ?_ (fun e5 => ?_)
  · refine go_astoreN (lv' := [(4, .null), (0, .ref (ad 69)), (1, .int a1), (2, .int a2), (3, .int a3)]) dX5_mind_8 (Nat.le_of_ble_eq_true rfl) rfl ?_
    refine go_aloadN 0 rfl dX5_mind_10 ?_
    refine go_ifnonnullN dX5_mind_12 ?_
    refine go_aload_n 1 rfl dX5_mind_15 rfl ?_
    refine go_ldc (v := (-1000000001 : Int32)) gw110 dX5_mind_16 ?_
    refine go_callVI (As := fun ad => [.int (-1000000001 : Int32)]) (g_X5_found (-1000000001 : Int32) u2) mv_X5_found clX5 kt_69 gw117 rfl ⟨Nat.le_of_ble_eq_true rfl, Nat.le_of_ble_eq_true rfl⟩ rfl (Nat.le_of_ble_eq_true rfl) dX5_mind_18 (fun r3 u4 => ?_)
    exact go_iret rfl dX5_mind_21
  · refine go_astore (lv' := [(4, .ref (ad e5)), (0, .ref (ad 69)), (1, .int a1), (2, .int a2), (3, .int a3)]) dX5_mind_8 (Nat.le_of_ble_eq_true rfl) rfl ?_
    refine go_aload 0 rfl dX5_mind_10 ?_
    refine go_ifnonnull (tgt := 22) dX5_mind_12 (by decide) ?_
    refine go_iload_n 3 rfl dX5_mind_22 rfl ?_
    refine go_if_ne (tgt := 52) dX5_mind_23 (by decide) ?_ ?_
    · refine go_iload_n 3 rfl dX5_mind_52 rfl ?_
      refine go_iconst (v := (1 : Int32)) dX5_mind_53 (by decide) ?_
      refine go_icmp_ne (tgt := 84) dX5_mind_54 (by decide) ?_ ?_
      · refine go_aload_n 1 rfl dX5_mind_84 rfl ?_
        refine go_ldc (v := (-1000000001 : Int32)) gw110 dX5_mind_85 ?_
        refine go_callVI (As := fun ad => [.int (-1000000001 : Int32)]) (g_X5_found (-1000000001 : Int32) u2) mv_X5_found clX5 kt_69 gw117 rfl ⟨Nat.le_of_ble_eq_true rfl, Nat.le_of_ble_eq_true rfl⟩ rfl (Nat.le_of_ble_eq_true rfl) dX5_mind_87 (fun r6 u7 => ?_)
        exact go_iret rfl dX5_mind_90
      · refine go_aload_n 1 rfl dX5_mind_57 rfl ?_
        refine go_getR clX5 kt_69 0 (Nat.le_of_ble_eq_true rfl) (f := 0) (fun _ => rfl) gw113 dX5_mind_58 ?_
        refine go_iload_n 4 rfl dX5_mind_61 rfl ?_
        refine go_callVZ (As := fun ad => [.int a3]) (g_X3_canTrust 0 a3 u2) mv_X3_canTrust clX3 kt_0 gw132 rfl ⟨Nat.le_of_ble_eq_true rfl, Nat.le_of_ble_eq_true rfl⟩ rfl (Nat.le_of_ble_eq_true rfl) dX5_mind_62 (fun r8 u9 => ?_)
        refine go_ifz_eq (tgt := 84) dX5_mind_65 (by decide) ?_ ?_
        · refine go_aload_n 1 rfl dX5_mind_84 rfl ?_
          refine go_ldc (v := (-1000000001 : Int32)) gw110 dX5_mind_85 ?_
          refine go_callVI (As := fun ad => [.int (-1000000001 : Int32)]) (g_X5_found (-1000000001 : Int32) u9) mv_X5_found clX5 kt_69 gw117 rfl ⟨Nat.le_of_ble_eq_true rfl, Nat.le_of_ble_eq_true rfl⟩ rfl (Nat.le_of_ble_eq_true rfl) dX5_mind_87 (fun r10 u11 => ?_)
          exact go_iret rfl dX5_mind_90
        · refine go_aload 0 rfl dX5_mind_68 ?_
          refine go_ck (fun h12 => ?_)
          refine go_getIN clX1 h12 1 (Nat.le_of_ble_eq_true rfl) (c := 1) (fun _ => rfl) gn137 dX5_mind_70 ?_
          refine go_nm (fun x13 => ?_)
          refine go_istore (lv' := [(5, .int x13), (4, .ref (ad e5)), (0, .ref (ad 69)), (1, .int a1), (2, .int a2), (3, .int a3)]) dX5_mind_73 (Nat.le_of_ble_eq_true rfl) rfl ?_
          refine go_aload 1 rfl dX5_mind_75 ?_
          refine go_iload_n 5 rfl dX5_mind_77 rfl ?_
          refine go_putIN clX1 h12 1 (Nat.le_of_ble_eq_true rfl) (c := 1) (fun _ => rfl) (by decide) (fty := .int) (tyX1_ok 1 (Nat.le_of_ble_eq_true rfl)) rfl rfl rfl (fun _ => Nat.le_of_ble_eq_true rfl) gn137 dX5_mind_78 ?_
          refine go_nmU (fun u14 => ?_)
          refine go_iload 0 rfl dX5_mind_81 ?_
          exact go_iret rfl dX5_mind_83
    · refine go_iload_n 4 rfl dX5_mind_26 rfl ?_
      refine go_iconst (v := (0 : Int32)) dX5_mind_27 (by decide) ?_
      refine go_bipush (v := (99 : Int32)) dX5_mind_28 (by decide) ?_
      refine go_callSZ (As := fun ad => [.int a3, .int (0 : Int32), .int (99 : Int32)]) (g_X5_within a3 (0 : Int32) (99 : Int32) u2) mo_X5_within gw85 gw125 rfl ⟨Nat.le_of_ble_eq_true rfl, Nat.le_of_ble_eq_true rfl⟩ rfl (Nat.le_of_ble_eq_true rfl) dX5_mind_30 (fun r15 u16 => ?_)
      refine go_ifz_eq (tgt := 52) dX5_mind_33 (by decide) ?_ ?_
      · refine go_iload_n 3 rfl dX5_mind_52 rfl ?_
        refine go_iconst (v := (1 : Int32)) dX5_mind_53 (by decide) ?_
        refine go_icmp_ne (tgt := 84) dX5_mind_54 (by decide) ?_ ?_
        · refine go_aload_n 1 rfl dX5_mind_84 rfl ?_
          refine go_ldc (v := (-1000000001 : Int32)) gw110 dX5_mind_85 ?_
          refine go_callVI (As := fun ad => [.int (-1000000001 : Int32)]) (g_X5_found (-1000000001 : Int32) u16) mv_X5_found clX5 kt_69 gw117 rfl ⟨Nat.le_of_ble_eq_true rfl, Nat.le_of_ble_eq_true rfl⟩ rfl (Nat.le_of_ble_eq_true rfl) dX5_mind_87 (fun r17 u18 => ?_)
          exact go_iret rfl dX5_mind_90
        · refine go_aload_n 1 rfl dX5_mind_57 rfl ?_
          refine go_getR clX5 kt_69 0 (Nat.le_of_ble_eq_true rfl) (f := 0) (fun _ => rfl) gw113 dX5_mind_58 ?_
          refine go_iload_n 4 rfl dX5_mind_61 rfl ?_
          refine go_callVZ (As := fun ad => [.int a3]) (g_X3_canTrust 0 a3 u16) mv_X3_canTrust clX3 kt_0 gw132 rfl ⟨Nat.le_of_ble_eq_true rfl, Nat.le_of_ble_eq_true rfl⟩ rfl (Nat.le_of_ble_eq_true rfl) dX5_mind_62 (fun r19 u20 => ?_)
          refine go_ifz_eq (tgt := 84) dX5_mind_65 (by decide) ?_ ?_
          · refine go_aload_n 1 rfl dX5_mind_84 rfl ?_
            refine go_ldc (v := (-1000000001 : Int32)) gw110 dX5_mind_85 ?_
            refine go_callVI (As := fun ad => [.int (-1000000001 : Int32)]) (g_X5_found (-1000000001 : Int32) u20) mv_X5_found clX5 kt_69 gw117 rfl ⟨Nat.le_of_ble_eq_true rfl, Nat.le_of_ble_eq_true rfl⟩ rfl (Nat.le_of_ble_eq_true rfl) dX5_mind_87 (fun r21 u22 => ?_)
            exact go_iret rfl dX5_mind_90
          · refine go_aload 0 rfl dX5_mind_68 ?_
            refine go_ck (fun h23 => ?_)
            refine go_getIN clX1 h23 1 (Nat.le_of_ble_eq_true rfl) (c := 1) (fun _ => rfl) gn137 dX5_mind_70 ?_
            refine go_nm (fun x24 => ?_)
            refine go_istore (lv' := [(5, .int x24), (4, .ref (ad e5)), (0, .ref (ad 69)), (1, .int a1), (2, .int a2), (3, .int a3)]) dX5_mind_73 (Nat.le_of_ble_eq_true rfl) rfl ?_
            refine go_aload 1 rfl dX5_mind_75 ?_
            refine go_iload_n 5 rfl dX5_mind_77 rfl ?_
            refine go_putIN clX1 h23 1 (Nat.le_of_ble_eq_true rfl) (c := 1) (fun _ => rfl) (by decide) (fty := .int) (tyX1_ok 1 (Nat.le_of_ble_eq_true rfl)) rfl rfl rfl (fun _ => Nat.le_of_ble_eq_true rfl) gn137 dX5_mind_78 ?_
            refine go_nmU (fun u25 => ?_)
            refine go_iload 0 rfl dX5_mind_81 ?_
            exact go_iret rfl dX5_mind_83
      · refine go_aload 0 rfl dX5_mind_36 ?_
        refine go_ck (fun h26 => ?_)
        refine go_getIN clX1 h26 0 (Nat.le_of_ble_eq_true rfl) (c := 0) (fun _ => rfl) gn138 dX5_mind_38 ?_
        refine go_nm (fun x27 => ?_)
        refine go_istore (lv' := [(5, .int x27), (4, .ref (ad e5)), (0, .ref (ad 69)), (1, .int a1), (2, .int a2), (3, .int a3)]) dX5_mind_41 (Nat.le_of_ble_eq_true rfl) rfl ?_
        refine go_aload 1 rfl dX5_mind_43 ?_
        refine go_iload_n 5 rfl dX5_mind_45 rfl ?_
        refine go_putIN clX1 h26 0 (Nat.le_of_ble_eq_true rfl) (c := 0) (fun _ => rfl) (by decide) (fty := .int) (tyX1_ok 0 (Nat.le_of_ble_eq_true rfl)) rfl rfl rfl (fun _ => Nat.le_of_ble_eq_true rfl) gn138 dX5_mind_46 ?_
        refine go_nmU (fun u28 => ?_)
        refine go_iload 0 rfl dX5_mind_49 ?_
        exact go_iret rfl dX5_mind_51
def f_X5_drink (a1 : Int32) (a2 : Int32) (u : Uw) : Option (Int32 × Uw) :=
  bd (f_X3_pilgrimAt 0 a1 u) fun r1 u2 =>
  ro r1
  (bd (f_X5_found (-1000000001 : Int32) u2) fun r3 u4 =>
  some (r3, u4))
  (fun e5 =>
  bd (f_X5_within a2 (0 : Int32) (1 : Int32) u2) fun r6 u7 =>
  if r6 = true then
  (if a2 = (1 : Int32) then
  (bd (f_X3_takeJug 0 (1 : Int32) u7) fun r15 u16 =>
  if r15 = true then
  (ck (kT e5 == 1) <|
  bd (f_X1_takeWater e5 (1 : Int32) (u16.1 0 3) u16) fun r18 u19 =>
  some ((u19.1 (kR e5) (kO e5 + 0)), u19))
  else
  (bd (f_X5_found (-1000000005 : Int32) u16) fun r20 u21 =>
  some (r20, u21)))
  else
  (bd (f_X3_takeJug 0 (0 : Int32) u7) fun r8 u9 =>
  if r8 = true then
  (ck (kT e5 == 1) <|
  bd (f_X1_takeWater e5 (0 : Int32) (u9.1 0 3) u9) fun r11 u12 =>
  some ((u12.1 (kR e5) (kO e5 + 0)), u12))
  else
  (bd (f_X5_found (-1000000005 : Int32) u9) fun r13 u14 =>
  some (r13, u14))))
  else
  (bd (f_X5_found (-1000000001 : Int32) u7) fun r22 u23 =>
  some (r22, u23)))
set_option maxHeartbeats 4000000 in
set_option maxRecDepth 100000 in
theorem g_X5_drink (a1 : Int32) (a2 : Int32) (u : Uw) : ∀ l, Con l yX5_drink mi_X5_drink ivI (fun ad => [.ref (ad 69), .int a1, .int a2]) u (f_X5_drink a1 a2 u) := by
  refine con_of (by decide) rfl (fun _ => Nat.le_of_ble_eq_true rfl) (fun X ad => ?_)
  show Go X ad mi_X5_drink ivI 0 [(0, .ref (ad 69)), (1, .int a1), (2, .int a2)] [] u (f_X5_drink a1 a2 u)
  unfold f_X5_drink
  refine go_aload_n 0 rfl dX5_drink_0 rfl ?_
  refine go_getR clX5 kt_69 0 (Nat.le_of_ble_eq_true rfl) (f := 0) (fun _ => rfl) gw113 dX5_drink_1 ?_
  refine go_iload_n 1 rfl dX5_drink_4 rfl ?_
  refine go_callVR (As := fun ad => [.int a1]) (g_X3_pilgrimAt 0 a1 u) mv_X3_pilgrimAt clX3 kt_0 gw135 rfl ⟨Nat.le_of_ble_eq_true rfl, Nat.le_of_ble_eq_true rfl⟩ rfl (Nat.le_of_ble_eq_true rfl) dX5_drink_5 (fun r1 u2 => ?_)
  refine go_ro ?_ (fun e5 => ?_)
  · refine go_astore_nN (lv' := [(3, .null), (0, .ref (ad 69)), (1, .int a1), (2, .int a2)]) dX5_drink_8 rfl (Nat.le_of_ble_eq_true rfl) rfl ?_
    refine go_aload_nN 0 rfl dX5_drink_9 rfl ?_
    refine go_ifnullN (tgt := 22) dX5_drink_10 (by decide) ?_
    refine go_aload_n 1 rfl dX5_drink_22 rfl ?_
    refine go_ldc (v := (-1000000001 : Int32)) gw110 dX5_drink_23 ?_
    refine go_callVI (As := fun ad => [.int (-1000000001 : Int32)]) (g_X5_found (-1000000001 : Int32) u2) mv_X5_found clX5 kt_69 gw117 rfl ⟨Nat.le_of_ble_eq_true rfl, Nat.le_of_ble_eq_true rfl⟩ rfl (Nat.le_of_ble_eq_true rfl) dX5_drink_25 (fun r3 u4 => ?_)
    exact go_iret rfl dX5_drink_28
  · refine go_astore_n (lv' := [(3, .ref (ad e5)), (0, .ref (ad 69)), (1, .int a1), (2, .int a2)]) dX5_drink_8 rfl (Nat.le_of_ble_eq_true rfl) rfl ?_
    refine go_aload_n 0 rfl dX5_drink_9 rfl ?_
    refine go_ifnull dX5_drink_10 ?_
    refine go_iload_n 3 rfl dX5_drink_13 rfl ?_
    refine go_iconst (v := (0 : Int32)) dX5_drink_14 (by decide) ?_
    refine go_iconst (v := (1 : Int32)) dX5_drink_15 (by decide) ?_
    refine go_callSZ (As := fun ad => [.int a2, .int (0 : Int32), .int (1 : Int32)]) (g_X5_within a2 (0 : Int32) (1 : Int32) u2) mo_X5_within gw85 gw125 rfl ⟨Nat.le_of_ble_eq_true rfl, Nat.le_of_ble_eq_true rfl⟩ rfl (Nat.le_of_ble_eq_true rfl) dX5_drink_16 (fun r6 u7 => ?_)
    refine go_ifz_ne (tgt := 29) dX5_drink_19 (by decide) ?_ ?_
    · refine go_iload_n 3 rfl dX5_drink_29 rfl ?_
      refine go_iconst (v := (1 : Int32)) dX5_drink_30 (by decide) ?_
      refine go_icmp_ne (tgt := 38) dX5_drink_31 (by decide) ?_ ?_
      · refine go_iconst (v := (0 : Int32)) dX5_drink_38 (by decide) ?_
        refine go_istore (lv' := [(4, .int (0 : Int32)), (3, .ref (ad e5)), (0, .ref (ad 69)), (1, .int a1), (2, .int a2)]) dX5_drink_39 (Nat.le_of_ble_eq_true rfl) rfl ?_
        refine go_aload_n 2 rfl dX5_drink_41 rfl ?_
        refine go_getR clX5 kt_69 0 (Nat.le_of_ble_eq_true rfl) (f := 0) (fun _ => rfl) gw113 dX5_drink_42 ?_
        refine go_iload 0 rfl dX5_drink_45 ?_
        refine go_callVZ (As := fun ad => [.int (0 : Int32)]) (g_X3_takeJug 0 (0 : Int32) u7) mv_X3_takeJug clX3 kt_0 gw139 rfl ⟨Nat.le_of_ble_eq_true rfl, Nat.le_of_ble_eq_true rfl⟩ rfl (Nat.le_of_ble_eq_true rfl) dX5_drink_47 (fun r8 u9 => ?_)
        refine go_ifz_ne (tgt := 60) dX5_drink_50 (by decide) ?_ ?_
        · refine go_aload_n 1 rfl dX5_drink_60 rfl ?_
          refine go_iload 0 rfl dX5_drink_61 ?_
          refine go_aload_n 2 rfl dX5_drink_63 rfl ?_
          refine go_getR clX5 kt_69 0 (Nat.le_of_ble_eq_true rfl) (f := 0) (fun _ => rfl) gw113 dX5_drink_64 ?_
          refine go_getILN clX3 kt_0 1 (Nat.le_of_ble_eq_true rfl) (c := 3) (fun _ => rfl) kr_0 gn131 dX5_drink_67 ?_
          refine go_ck (fun h10 => ?_)
          refine go_callVV (As := fun ad => [.int (0 : Int32), .int (u9.1 0 3)]) (g_X1_takeWater e5 (0 : Int32) (u9.1 0 3) u9) mv_X1_takeWater clX1 h10 gw140 rfl ⟨Nat.le_of_ble_eq_true rfl, Nat.le_of_ble_eq_true rfl⟩ rfl (Nat.le_of_ble_eq_true rfl) dX5_drink_70 (fun r11 u12 => ?_)
          refine go_aload_n 1 rfl dX5_drink_73 rfl ?_
          refine go_getIN clX1 h10 0 (Nat.le_of_ble_eq_true rfl) (c := 0) (fun _ => rfl) gn138 dX5_drink_74 ?_
          exact go_iret rfl dX5_drink_77
        · refine go_aload_n 2 rfl dX5_drink_53 rfl ?_
          refine go_ldc (v := (-1000000005 : Int32)) gw141 dX5_drink_54 ?_
          refine go_callVI (As := fun ad => [.int (-1000000005 : Int32)]) (g_X5_found (-1000000005 : Int32) u9) mv_X5_found clX5 kt_69 gw117 rfl ⟨Nat.le_of_ble_eq_true rfl, Nat.le_of_ble_eq_true rfl⟩ rfl (Nat.le_of_ble_eq_true rfl) dX5_drink_56 (fun r13 u14 => ?_)
          exact go_iret rfl dX5_drink_59
      · refine go_iconst (v := (1 : Int32)) dX5_drink_34 (by decide) ?_
        refine go_goto (tgt := 39) dX5_drink_35 (by decide) ?_
        refine go_istore (lv' := [(4, .int (1 : Int32)), (3, .ref (ad e5)), (0, .ref (ad 69)), (1, .int a1), (2, .int a2)]) dX5_drink_39 (Nat.le_of_ble_eq_true rfl) rfl ?_
        refine go_aload_n 2 rfl dX5_drink_41 rfl ?_
        refine go_getR clX5 kt_69 0 (Nat.le_of_ble_eq_true rfl) (f := 0) (fun _ => rfl) gw113 dX5_drink_42 ?_
        refine go_iload 0 rfl dX5_drink_45 ?_
        refine go_callVZ (As := fun ad => [.int (1 : Int32)]) (g_X3_takeJug 0 (1 : Int32) u7) mv_X3_takeJug clX3 kt_0 gw139 rfl ⟨Nat.le_of_ble_eq_true rfl, Nat.le_of_ble_eq_true rfl⟩ rfl (Nat.le_of_ble_eq_true rfl) dX5_drink_47 (fun r15 u16 => ?_)
        refine go_ifz_ne (tgt := 60) dX5_drink_50 (by decide) ?_ ?_
        · refine go_aload_n 1 rfl dX5_drink_60 rfl ?_
          refine go_iload 0 rfl dX5_drink_61 ?_
          refine go_aload_n 2 rfl dX5_drink_63 rfl ?_
          refine go_getR clX5 kt_69 0 (Nat.le_of_ble_eq_true rfl) (f := 0) (fun _ => rfl) gw113 dX5_drink_64 ?_
          refine go_getILN clX3 kt_0 1 (Nat.le_of_ble_eq_true rfl) (c := 3) (fun _ => rfl) kr_0 gn131 dX5_drink_67 ?_
          refine go_ck (fun h17 => ?_)
          refine go_callVV (As := fun ad => [.int (1 : Int32), .int (u16.1 0 3)]) (g_X1_takeWater e5 (1 : Int32) (u16.1 0 3) u16) mv_X1_takeWater clX1 h17 gw140 rfl ⟨Nat.le_of_ble_eq_true rfl, Nat.le_of_ble_eq_true rfl⟩ rfl (Nat.le_of_ble_eq_true rfl) dX5_drink_70 (fun r18 u19 => ?_)
          refine go_aload_n 1 rfl dX5_drink_73 rfl ?_
          refine go_getIN clX1 h17 0 (Nat.le_of_ble_eq_true rfl) (c := 0) (fun _ => rfl) gn138 dX5_drink_74 ?_
          exact go_iret rfl dX5_drink_77
        · refine go_aload_n 2 rfl dX5_drink_53 rfl ?_
          refine go_ldc (v := (-1000000005 : Int32)) gw141 dX5_drink_54 ?_
          refine go_callVI (As := fun ad => [.int (-1000000005 : Int32)]) (g_X5_found (-1000000005 : Int32) u16) mv_X5_found clX5 kt_69 gw117 rfl ⟨Nat.le_of_ble_eq_true rfl, Nat.le_of_ble_eq_true rfl⟩ rfl (Nat.le_of_ble_eq_true rfl) dX5_drink_56 (fun r20 u21 => ?_)
          exact go_iret rfl dX5_drink_59
    · refine go_aload_n 1 rfl dX5_drink_22 rfl ?_
      refine go_ldc (v := (-1000000001 : Int32)) gw110 dX5_drink_23 ?_
      refine go_callVI (As := fun ad => [.int (-1000000001 : Int32)]) (g_X5_found (-1000000001 : Int32) u7) mv_X5_found clX5 kt_69 gw117 rfl ⟨Nat.le_of_ble_eq_true rfl, Nat.le_of_ble_eq_true rfl⟩ rfl (Nat.le_of_ble_eq_true rfl) dX5_drink_25 (fun r22 u23 => ?_)
      exact go_iret rfl dX5_drink_28
def f_X5_bathe (a1 : Int32) (u : Uw) : Option (Int32 × Uw) :=
  bd (f_X3_pilgrimAt 0 a1 u) fun r1 u2 =>
  ro r1
  (bd (f_X5_found (-1000000001 : Int32) u2) fun r3 u4 =>
  some (r3, u4))
  (fun e5 =>
  bd (f_X3_isHolyBy 0 (u2.1 0 4) (u2.1 0 2) u2) fun r6 u7 =>
  ck (kT e5 == 1) <|
  bd (f_X1_takeBath e5 (bI r6) (u7.1 0 3) u7) fun r9 u10 =>
  some ((u10.1 (kR e5) (kO e5 + 0)), u10))
set_option maxHeartbeats 4000000 in
set_option maxRecDepth 100000 in
theorem g_X5_bathe (a1 : Int32) (u : Uw) : ∀ l, Con l yX5_bathe mi_X5_bathe ivI (fun ad => [.ref (ad 69), .int a1]) u (f_X5_bathe a1 u) := by
  refine con_of (by decide) rfl (fun _ => Nat.le_of_ble_eq_true rfl) (fun X ad => ?_)
  show Go X ad mi_X5_bathe ivI 0 [(0, .ref (ad 69)), (1, .int a1)] [] u (f_X5_bathe a1 u)
  unfold f_X5_bathe
  refine go_aload_n 0 rfl dX5_bathe_0 rfl ?_
  refine go_getR clX5 kt_69 0 (Nat.le_of_ble_eq_true rfl) (f := 0) (fun _ => rfl) gw113 dX5_bathe_1 ?_
  refine go_iload_n 1 rfl dX5_bathe_4 rfl ?_
  refine go_callVR (As := fun ad => [.int a1]) (g_X3_pilgrimAt 0 a1 u) mv_X3_pilgrimAt clX3 kt_0 gw135 rfl ⟨Nat.le_of_ble_eq_true rfl, Nat.le_of_ble_eq_true rfl⟩ rfl (Nat.le_of_ble_eq_true rfl) dX5_bathe_5 (fun r1 u2 => ?_)
  refine go_ro ?_ (fun e5 => ?_)
  · refine go_astore_nN (lv' := [(2, .null), (0, .ref (ad 69)), (1, .int a1)]) dX5_bathe_8 rfl (Nat.le_of_ble_eq_true rfl) rfl ?_
    refine go_aload_nN 0 rfl dX5_bathe_9 rfl ?_
    refine go_ifnonnullN dX5_bathe_10 ?_
    refine go_aload_n 1 rfl dX5_bathe_13 rfl ?_
    refine go_ldc (v := (-1000000001 : Int32)) gw110 dX5_bathe_14 ?_
    refine go_callVI (As := fun ad => [.int (-1000000001 : Int32)]) (g_X5_found (-1000000001 : Int32) u2) mv_X5_found clX5 kt_69 gw117 rfl ⟨Nat.le_of_ble_eq_true rfl, Nat.le_of_ble_eq_true rfl⟩ rfl (Nat.le_of_ble_eq_true rfl) dX5_bathe_16 (fun r3 u4 => ?_)
    exact go_iret rfl dX5_bathe_19
  · refine go_astore_n (lv' := [(2, .ref (ad e5)), (0, .ref (ad 69)), (1, .int a1)]) dX5_bathe_8 rfl (Nat.le_of_ble_eq_true rfl) rfl ?_
    refine go_aload_n 0 rfl dX5_bathe_9 rfl ?_
    refine go_ifnonnull (tgt := 20) dX5_bathe_10 (by decide) ?_
    refine go_aload_n 0 rfl dX5_bathe_20 rfl ?_
    refine go_aload_n 1 rfl dX5_bathe_21 rfl ?_
    refine go_getR clX5 kt_69 0 (Nat.le_of_ble_eq_true rfl) (f := 0) (fun _ => rfl) gw113 dX5_bathe_22 ?_
    refine go_aload_n 1 rfl dX5_bathe_25 rfl ?_
    refine go_getR clX5 kt_69 0 (Nat.le_of_ble_eq_true rfl) (f := 0) (fun _ => rfl) gw113 dX5_bathe_26 ?_
    refine go_getILN clX3 kt_0 2 (Nat.le_of_ble_eq_true rfl) (c := 4) (fun _ => rfl) kr_0 gn130 dX5_bathe_29 ?_
    refine go_aload_n 1 rfl dX5_bathe_32 rfl ?_
    refine go_getR clX5 kt_69 0 (Nat.le_of_ble_eq_true rfl) (f := 0) (fun _ => rfl) gw113 dX5_bathe_33 ?_
    refine go_getILN clX3 kt_0 0 (Nat.le_of_ble_eq_true rfl) (c := 2) (fun _ => rfl) kr_0 gn142 dX5_bathe_36 ?_
    refine go_callVZ (As := fun ad => [.int (u2.1 0 4), .int (u2.1 0 2)]) (g_X3_isHolyBy 0 (u2.1 0 4) (u2.1 0 2) u2) mv_X3_isHolyBy clX3 kt_0 gw143 rfl ⟨Nat.le_of_ble_eq_true rfl, Nat.le_of_ble_eq_true rfl⟩ rfl (Nat.le_of_ble_eq_true rfl) dX5_bathe_39 (fun r6 u7 => ?_)
    refine go_aload_n 1 rfl dX5_bathe_42 rfl ?_
    refine go_getR clX5 kt_69 0 (Nat.le_of_ble_eq_true rfl) (f := 0) (fun _ => rfl) gw113 dX5_bathe_43 ?_
    refine go_getILN clX3 kt_0 1 (Nat.le_of_ble_eq_true rfl) (c := 3) (fun _ => rfl) kr_0 gn131 dX5_bathe_46 ?_
    refine go_ck (fun h8 => ?_)
    refine go_callVV (As := fun ad => [.int (bI r6), .int (u7.1 0 3)]) (g_X1_takeBath e5 (bI r6) (u7.1 0 3) u7) mv_X1_takeBath clX1 h8 gw144 rfl ⟨Nat.le_of_ble_eq_true rfl, Nat.le_of_ble_eq_true rfl⟩ rfl (Nat.le_of_ble_eq_true rfl) dX5_bathe_49 (fun r9 u10 => ?_)
    refine go_aload_n 0 rfl dX5_bathe_52 rfl ?_
    refine go_getIN clX1 h8 0 (Nat.le_of_ble_eq_true rfl) (c := 0) (fun _ => rfl) gn138 dX5_bathe_53 ?_
    exact go_iret rfl dX5_bathe_56
def f_J6_bitCount_0f7a4 (a0 : Int32) (u : Uw) : Option (Int32 × Uw) :=
  nm (a0 - ((a0.toUInt32 >>> ((1 : Int32).toUInt32 &&& Int32.toUInt32 31)).toInt32 &&& (1431655765 : Int32))) fun x1 =>
  nm ((x1 &&& (858993459 : Int32)) + ((x1.toUInt32 >>> ((2 : Int32).toUInt32 &&& Int32.toUInt32 31)).toInt32 &&& (858993459 : Int32))) fun x2 =>
  nm ((x2 + (x2.toUInt32 >>> ((4 : Int32).toUInt32 &&& Int32.toUInt32 31)).toInt32) &&& (252645135 : Int32)) fun x3 =>
  nm (x3 + (x3.toUInt32 >>> ((8 : Int32).toUInt32 &&& Int32.toUInt32 31)).toInt32) fun x4 =>
  nm (x4 + (x4.toUInt32 >>> ((16 : Int32).toUInt32 &&& Int32.toUInt32 31)).toInt32) fun x5 =>
  some ((x5 &&& (63 : Int32)), u)
set_option maxHeartbeats 4000000 in
set_option maxRecDepth 100000 in
theorem g_J6_bitCount_0f7a4 (a0 : Int32) (u : Uw) : ∀ l, Con l yJ6_bitCount_0f7a4 mi_J6_bitCount_0f7a4 ivI (fun ad => [.int a0]) u (f_J6_bitCount_0f7a4 a0 u) := by
  refine con_of (by decide) rfl (fun _ => Nat.le_of_ble_eq_true rfl) (fun X ad => ?_)
  show Go X ad mi_J6_bitCount_0f7a4 ivI 0 [(0, .int a0)] [] u (f_J6_bitCount_0f7a4 a0 u)
  unfold f_J6_bitCount_0f7a4
  refine go_iload_n 0 rfl dJ6_bitCount_0f7a4_0 rfl ?_
  refine go_iload_n 0 rfl dJ6_bitCount_0f7a4_1 rfl ?_
  refine go_iconst (v := (1 : Int32)) dJ6_bitCount_0f7a4_2 (by decide) ?_
  refine go_iushr dJ6_bitCount_0f7a4_3 ?_
  refine go_ldcw (v := (1431655765 : Int32)) gw145 dJ6_bitCount_0f7a4_4 ?_
  refine go_iand dJ6_bitCount_0f7a4_7 ?_
  refine go_isub dJ6_bitCount_0f7a4_8 ?_
  refine go_nm (fun x1 => ?_)
  refine go_istore_n (lv' := [(0, .int x1)]) dJ6_bitCount_0f7a4_9 rfl (Nat.le_of_ble_eq_true rfl) rfl ?_
  refine go_iload_n 0 rfl dJ6_bitCount_0f7a4_10 rfl ?_
  refine go_ldcw (v := (858993459 : Int32)) gw146 dJ6_bitCount_0f7a4_11 ?_
  refine go_iand dJ6_bitCount_0f7a4_14 ?_
  refine go_iload_n 0 rfl dJ6_bitCount_0f7a4_15 rfl ?_
  refine go_iconst (v := (2 : Int32)) dJ6_bitCount_0f7a4_16 (by decide) ?_
  refine go_iushr dJ6_bitCount_0f7a4_17 ?_
  refine go_ldcw (v := (858993459 : Int32)) gw146 dJ6_bitCount_0f7a4_18 ?_
  refine go_iand dJ6_bitCount_0f7a4_21 ?_
  refine go_iadd dJ6_bitCount_0f7a4_22 ?_
  refine go_nm (fun x2 => ?_)
  refine go_istore_n (lv' := [(0, .int x2)]) dJ6_bitCount_0f7a4_23 rfl (Nat.le_of_ble_eq_true rfl) rfl ?_
  refine go_iload_n 0 rfl dJ6_bitCount_0f7a4_24 rfl ?_
  refine go_iload_n 0 rfl dJ6_bitCount_0f7a4_25 rfl ?_
  refine go_iconst (v := (4 : Int32)) dJ6_bitCount_0f7a4_26 (by decide) ?_
  refine go_iushr dJ6_bitCount_0f7a4_27 ?_
  refine go_iadd dJ6_bitCount_0f7a4_28 ?_
  refine go_ldcw (v := (252645135 : Int32)) gw147 dJ6_bitCount_0f7a4_29 ?_
  refine go_iand dJ6_bitCount_0f7a4_32 ?_
  refine go_nm (fun x3 => ?_)
  refine go_istore_n (lv' := [(0, .int x3)]) dJ6_bitCount_0f7a4_33 rfl (Nat.le_of_ble_eq_true rfl) rfl ?_
  refine go_iload_n 0 rfl dJ6_bitCount_0f7a4_34 rfl ?_
  refine go_iload_n 0 rfl dJ6_bitCount_0f7a4_35 rfl ?_
  refine go_bipush (v := (8 : Int32)) dJ6_bitCount_0f7a4_36 (by decide) ?_
  refine go_iushr dJ6_bitCount_0f7a4_38 ?_
  refine go_iadd dJ6_bitCount_0f7a4_39 ?_
  refine go_nm (fun x4 => ?_)
  refine go_istore_n (lv' := [(0, .int x4)]) dJ6_bitCount_0f7a4_40 rfl (Nat.le_of_ble_eq_true rfl) rfl ?_
  refine go_iload_n 0 rfl dJ6_bitCount_0f7a4_41 rfl ?_
  refine go_iload_n 0 rfl dJ6_bitCount_0f7a4_42 rfl ?_
  refine go_bipush (v := (16 : Int32)) dJ6_bitCount_0f7a4_43 (by decide) ?_
  refine go_iushr dJ6_bitCount_0f7a4_45 ?_
  refine go_iadd dJ6_bitCount_0f7a4_46 ?_
  refine go_nm (fun x5 => ?_)
  refine go_istore_n (lv' := [(0, .int x5)]) dJ6_bitCount_0f7a4_47 rfl (Nat.le_of_ble_eq_true rfl) rfl ?_
  refine go_iload_n 0 rfl dJ6_bitCount_0f7a4_48 rfl ?_
  refine go_bipush (v := (63 : Int32)) dJ6_bitCount_0f7a4_49 (by decide) ?_
  refine go_iand dJ6_bitCount_0f7a4_51 ?_
  exact go_iret rfl dJ6_bitCount_0f7a4_52
def b_X5_days_41 (ih41 : Int32 × Int32 × Uw → Option (Int32 × Uw)) (s : Int32 × Int32 × Uw) : Option (Int32 × Uw) :=
  if s.1 ≤ s.2.1 then
  (bd (f_X3_wellSet 0 s.2.2) fun r3 u4 =>
  bd (f_J6_bitCount_0f7a4 r3 u4) fun r5 u6 =>
  some (r5, u6))
  else
  (bd (f_X3_passDay 0 s.2.2) fun r7 u8 =>
  ih41 (s.1, (s.2.1 + (1 : Int32)), u8))
def f_X5_days (a1 : Int32) (u : Uw) : Option (Int32 × Uw) :=
  bd (f_X5_within a1 (1 : Int32) (400 : Int32) u) fun r1 u2 =>
  if r1 = true then
  (if (u2.1 0 2) ≤ ((99999 : Int32) - a1) then
  (lp b_X5_days_41 2100 (a1, (0 : Int32), u2))
  else
  (bd (f_X5_found (-1000000005 : Int32) u2) fun r9 u10 =>
  some (r9, u10)))
  else
  (bd (f_X5_found (-1000000001 : Int32) u2) fun r11 u12 =>
  some (r11, u12))
set_option maxHeartbeats 4000000 in
set_option maxRecDepth 100000 in
theorem gl_X5_days_41 (X : Cx) (ad : Nat → Nat) : ∀ (n : Nat) (s : Int32 × Int32 × Uw), Go X ad mi_X5_days ivI 41 [(0, .ref (ad 69)), (1, .int s.1), (2, .int s.2.1)] [] s.2.2 (lp b_X5_days_41 n s) := by
  refine go_lp (G := fun (s : Int32 × Int32 × Uw) o => Go X ad mi_X5_days ivI 41 [(0, .ref (ad 69)), (1, .int s.1), (2, .int s.2.1)] [] s.2.2 o) (fun _ => go_none) (fun ih41 hih41 s => ?_)
  show Go X ad mi_X5_days ivI 41 [(0, .ref (ad 69)), (1, .int s.1), (2, .int s.2.1)] [] s.2.2 (b_X5_days_41 ih41 s)
  unfold b_X5_days_41
  refine go_iload_n 2 rfl dX5_days_41 rfl ?_
  refine go_iload_n 1 rfl dX5_days_42 rfl ?_
  refine go_icmp_ge (tgt := 59) dX5_days_43 (by decide) ?_ ?_
  · refine go_aload_n 0 rfl dX5_days_59 rfl ?_
    refine go_getR clX5 kt_69 0 (Nat.le_of_ble_eq_true rfl) (f := 0) (fun _ => rfl) gw113 dX5_days_60 ?_
    refine go_callVI (As := fun ad => []) (g_X3_wellSet 0 s.2.2) mv_X3_wellSet clX3 kt_0 gw148 rfl ⟨Nat.le_of_ble_eq_true rfl, Nat.le_of_ble_eq_true rfl⟩ rfl (Nat.le_of_ble_eq_true rfl) dX5_days_63 (fun r3 u4 => ?_)
    refine go_callSI (As := fun ad => [.int r3]) (g_J6_bitCount_0f7a4 r3 u4) mo_J6_bitCount_0f7a4 gw149 gw150 rfl ⟨Nat.le_of_ble_eq_true rfl, Nat.le_of_ble_eq_true rfl⟩ rfl (Nat.le_of_ble_eq_true rfl) dX5_days_66 (fun r5 u6 => ?_)
    exact go_iret rfl dX5_days_69
  · refine go_aload_n 0 rfl dX5_days_46 rfl ?_
    refine go_getR clX5 kt_69 0 (Nat.le_of_ble_eq_true rfl) (f := 0) (fun _ => rfl) gw113 dX5_days_47 ?_
    refine go_callVV (As := fun ad => []) (g_X3_passDay 0 s.2.2) mv_X3_passDay clX3 kt_0 gw151 rfl ⟨Nat.le_of_ble_eq_true rfl, Nat.le_of_ble_eq_true rfl⟩ rfl (Nat.le_of_ble_eq_true rfl) dX5_days_50 (fun r7 u8 => ?_)
    refine go_iinc (v := (s.2.1 + (1 : Int32))) (lv' := [(2, .int (s.2.1 + (1 : Int32))), (0, .ref (ad 69)), (1, .int s.1)]) 2 rfl dX5_days_53 rfl (Nat.le_of_ble_eq_true rfl) rfl ?_
    refine go_goto (tgt := 41) dX5_days_56 (by decide) ?_
    exact go_sub [1, 2, 0] rfl (hih41 (s.1, (s.2.1 + (1 : Int32)), u8))
set_option maxHeartbeats 4000000 in
set_option maxRecDepth 100000 in
theorem g_X5_days (a1 : Int32) (u : Uw) : ∀ l, Con l yX5_days mi_X5_days ivI (fun ad => [.ref (ad 69), .int a1]) u (f_X5_days a1 u) := by
  refine con_of (by decide) rfl (fun _ => Nat.le_of_ble_eq_true rfl) (fun X ad => ?_)
  show Go X ad mi_X5_days ivI 0 [(0, .ref (ad 69)), (1, .int a1)] [] u (f_X5_days a1 u)
  unfold f_X5_days
  refine go_iload_n 1 rfl dX5_days_0 rfl ?_
  refine go_iconst (v := (1 : Int32)) dX5_days_1 (by decide) ?_
  refine go_sipush (v := (400 : Int32)) dX5_days_2 (by decide) ?_
  refine go_callSZ (As := fun ad => [.int a1, .int (1 : Int32), .int (400 : Int32)]) (g_X5_within a1 (1 : Int32) (400 : Int32) u) mo_X5_within gw85 gw125 rfl ⟨Nat.le_of_ble_eq_true rfl, Nat.le_of_ble_eq_true rfl⟩ rfl (Nat.le_of_ble_eq_true rfl) dX5_days_5 (fun r1 u2 => ?_)
  refine go_ifz_ne (tgt := 18) dX5_days_8 (by decide) ?_ ?_
  · refine go_aload_n 0 rfl dX5_days_18 rfl ?_
    refine go_getR clX5 kt_69 0 (Nat.le_of_ble_eq_true rfl) (f := 0) (fun _ => rfl) gw113 dX5_days_19 ?_
    refine go_getILN clX3 kt_0 0 (Nat.le_of_ble_eq_true rfl) (c := 2) (fun _ => rfl) kr_0 gn142 dX5_days_22 ?_
    refine go_ldc (v := (99999 : Int32)) gw124 dX5_days_25 ?_
    refine go_iload_n 1 rfl dX5_days_27 rfl ?_
    refine go_isub dX5_days_28 ?_
    refine go_icmp_le (tgt := 39) dX5_days_29 (by decide) ?_ ?_
    · refine go_iconst (v := (0 : Int32)) dX5_days_39 (by decide) ?_
      refine go_istore_n (lv' := [(2, .int (0 : Int32)), (0, .ref (ad 69)), (1, .int a1)]) dX5_days_40 rfl (Nat.le_of_ble_eq_true rfl) rfl ?_
      exact go_sub [1, 2, 0] rfl (gl_X5_days_41 X ad  2100 (a1, (0 : Int32), u2))
    · refine go_aload_n 0 rfl dX5_days_32 rfl ?_
      refine go_ldc (v := (-1000000005 : Int32)) gw141 dX5_days_33 ?_
      refine go_callVI (As := fun ad => [.int (-1000000005 : Int32)]) (g_X5_found (-1000000005 : Int32) u2) mv_X5_found clX5 kt_69 gw117 rfl ⟨Nat.le_of_ble_eq_true rfl, Nat.le_of_ble_eq_true rfl⟩ rfl (Nat.le_of_ble_eq_true rfl) dX5_days_35 (fun r9 u10 => ?_)
      exact go_iret rfl dX5_days_38
  · refine go_aload_n 0 rfl dX5_days_11 rfl ?_
    refine go_ldc (v := (-1000000001 : Int32)) gw110 dX5_days_12 ?_
    refine go_callVI (As := fun ad => [.int (-1000000001 : Int32)]) (g_X5_found (-1000000001 : Int32) u2) mv_X5_found clX5 kt_69 gw117 rfl ⟨Nat.le_of_ble_eq_true rfl, Nat.le_of_ble_eq_true rfl⟩ rfl (Nat.le_of_ble_eq_true rfl) dX5_days_14 (fun r11 u12 => ?_)
    exact go_iret rfl dX5_days_17
def f_X5_now (a1 : Int32) (u : Uw) : Option (Int32 × Uw) :=
  nm a1 fun x1 =>
  if x1 = (0 : Int32) then
  (some ((u.1 0 2), u))
  else
  (if x1 = (1 : Int32) then
  (some ((u.1 0 3), u))
  else
  (if x1 = (2 : Int32) then
  (some ((u.1 0 4), u))
  else
  (if x1 = (3 : Int32) then
  (some ((u.1 0 5), u))
  else
  (if x1 = (4 : Int32) then
  (some ((u.1 0 6), u))
  else
  (if x1 = (5 : Int32) then
  (bd (f_X3_illOfAll 0 u) fun r7 u8 =>
  some (r7, u8))
  else
  (if x1 = (6 : Int32) then
  (bd (f_X3_wellSet 0 u) fun r10 u11 =>
  some (r10, u11))
  else
  (bd (f_X5_found (-1000000001 : Int32) u) fun r13 u14 =>
  some (r13, u14))))))))
set_option maxHeartbeats 4000000 in
set_option maxRecDepth 100000 in
theorem g_X5_now (a1 : Int32) (u : Uw) : ∀ l, Con l yX5_now mi_X5_now ivI (fun ad => [.ref (ad 69), .int a1]) u (f_X5_now a1 u) := by
  refine con_of (by decide) rfl (fun _ => Nat.le_of_ble_eq_true rfl) (fun X ad => ?_)
  show Go X ad mi_X5_now ivI 0 [(0, .ref (ad 69)), (1, .int a1)] [] u (f_X5_now a1 u)
  unfold f_X5_now
  refine go_iload_n 1 rfl dX5_now_0 rfl ?_
  refine go_nm (fun x1 => ?_)
  refine go_ite (fun hx => ?_) (fun h2 => ?_)
  · subst hx
    refine go_tin (off := 43) (tgt := 44) dX5_now_1 (by decide) (by decide) (by decide) (by decide) ?_
    refine go_aload_n 0 rfl dX5_now_44 rfl ?_
    refine go_getR clX5 kt_69 0 (Nat.le_of_ble_eq_true rfl) (f := 0) (fun _ => rfl) gw113 dX5_now_45 ?_
    refine go_getILN clX3 kt_0 0 (Nat.le_of_ble_eq_true rfl) (c := 2) (fun _ => rfl) kr_0 gn142 dX5_now_48 ?_
    exact go_iret rfl dX5_now_51
  · refine go_ite (fun hx => ?_) (fun h3 => ?_)
    · subst hx
      refine go_tin (off := 51) (tgt := 52) dX5_now_1 (by decide) (by decide) (by decide) (by decide) ?_
      refine go_aload_n 0 rfl dX5_now_52 rfl ?_
      refine go_getR clX5 kt_69 0 (Nat.le_of_ble_eq_true rfl) (f := 0) (fun _ => rfl) gw113 dX5_now_53 ?_
      refine go_getILN clX3 kt_0 1 (Nat.le_of_ble_eq_true rfl) (c := 3) (fun _ => rfl) kr_0 gn131 dX5_now_56 ?_
      exact go_iret rfl dX5_now_59
    · refine go_ite (fun hx => ?_) (fun h4 => ?_)
      · subst hx
        refine go_tin (off := 59) (tgt := 60) dX5_now_1 (by decide) (by decide) (by decide) (by decide) ?_
        refine go_aload_n 0 rfl dX5_now_60 rfl ?_
        refine go_getR clX5 kt_69 0 (Nat.le_of_ble_eq_true rfl) (f := 0) (fun _ => rfl) gw113 dX5_now_61 ?_
        refine go_getILN clX3 kt_0 2 (Nat.le_of_ble_eq_true rfl) (c := 4) (fun _ => rfl) kr_0 gn130 dX5_now_64 ?_
        exact go_iret rfl dX5_now_67
      · refine go_ite (fun hx => ?_) (fun h5 => ?_)
        · subst hx
          refine go_tin (off := 67) (tgt := 68) dX5_now_1 (by decide) (by decide) (by decide) (by decide) ?_
          refine go_aload_n 0 rfl dX5_now_68 rfl ?_
          refine go_getR clX5 kt_69 0 (Nat.le_of_ble_eq_true rfl) (f := 0) (fun _ => rfl) gw113 dX5_now_69 ?_
          refine go_getILN clX3 kt_0 3 (Nat.le_of_ble_eq_true rfl) (c := 5) (fun _ => rfl) kr_0 gn152 dX5_now_72 ?_
          exact go_iret rfl dX5_now_75
        · refine go_ite (fun hx => ?_) (fun h6 => ?_)
          · subst hx
            refine go_tin (off := 75) (tgt := 76) dX5_now_1 (by decide) (by decide) (by decide) (by decide) ?_
            refine go_aload_n 0 rfl dX5_now_76 rfl ?_
            refine go_getR clX5 kt_69 0 (Nat.le_of_ble_eq_true rfl) (f := 0) (fun _ => rfl) gw113 dX5_now_77 ?_
            refine go_getILN clX3 kt_0 4 (Nat.le_of_ble_eq_true rfl) (c := 6) (fun _ => rfl) kr_0 gn153 dX5_now_80 ?_
            exact go_iret rfl dX5_now_83
          · refine go_ite (fun hx => ?_) (fun h9 => ?_)
            · subst hx
              refine go_tin (off := 83) (tgt := 84) dX5_now_1 (by decide) (by decide) (by decide) (by decide) ?_
              refine go_aload_n 0 rfl dX5_now_84 rfl ?_
              refine go_getR clX5 kt_69 0 (Nat.le_of_ble_eq_true rfl) (f := 0) (fun _ => rfl) gw113 dX5_now_85 ?_
              refine go_callVI (As := fun ad => []) (g_X3_illOfAll 0 u) mv_X3_illOfAll clX3 kt_0 gw154 rfl ⟨Nat.le_of_ble_eq_true rfl, Nat.le_of_ble_eq_true rfl⟩ rfl (Nat.le_of_ble_eq_true rfl) dX5_now_88 (fun r7 u8 => ?_)
              exact go_iret rfl dX5_now_91
            · refine go_ite (fun hx => ?_) (fun h12 => ?_)
              · subst hx
                refine go_tin (off := 91) (tgt := 92) dX5_now_1 (by decide) (by decide) (by decide) (by decide) ?_
                refine go_aload_n 0 rfl dX5_now_92 rfl ?_
                refine go_getR clX5 kt_69 0 (Nat.le_of_ble_eq_true rfl) (f := 0) (fun _ => rfl) gw113 dX5_now_93 ?_
                refine go_callVI (As := fun ad => []) (g_X3_wellSet 0 u) mv_X3_wellSet clX3 kt_0 gw148 rfl ⟨Nat.le_of_ble_eq_true rfl, Nat.le_of_ble_eq_true rfl⟩ rfl (Nat.le_of_ble_eq_true rfl) dX5_now_96 (fun r10 u11 => ?_)
                exact go_iret rfl dX5_now_99
              · refine go_tout (tgt := 100) dX5_now_1 ?_ (by decide) ?_
                · have a0 : x1.toInt ≠ 0 := int_ne h2; have a1 : x1.toInt ≠ 1 := int_ne h3; have a2 : x1.toInt ≠ 2 := int_ne h4; have a3 : x1.toInt ≠ 3 := int_ne h5; have a4 : x1.toInt ≠ 4 := int_ne h6; have a5 : x1.toInt ≠ 5 := int_ne h9; have a6 : x1.toInt ≠ 6 := int_ne h12; omega
                · refine go_aload_n 0 rfl dX5_now_100 rfl ?_
                  refine go_ldc (v := (-1000000001 : Int32)) gw110 dX5_now_101 ?_
                  refine go_callVI (As := fun ad => [.int (-1000000001 : Int32)]) (g_X5_found (-1000000001 : Int32) u) mv_X5_found clX5 kt_69 gw117 rfl ⟨Nat.le_of_ble_eq_true rfl, Nat.le_of_ble_eq_true rfl⟩ rfl (Nat.le_of_ble_eq_true rfl) dX5_now_103 (fun r13 u14 => ?_)
                  exact go_iret rfl dX5_now_106
def b_X5_lookAhead_2 (ih2 : Int32 × Int32 × Uw → Option (Unit × Uw)) (s : Int32 × Int32 × Uw) : Option (Unit × Uw) :=
  if s.1 ≤ s.2.1 then
  (some ((), s.2.2))
  else
  (if (400 : Int32) ≤ s.2.1 then
  (some ((), s.2.2))
  else
  (bd (f_X3_holySet 0 ((s.2.2.1 0 2) + s.2.1) s.2.2) fun r1 u2 =>
  ck (inb s.2.1 400) <|
  nm (w1 u2 4 s.2.1.toNatClampNeg r1) fun u4 =>
  ih2 (s.1, (s.2.1 + (1 : Int32)), u4)))
def f_X5_lookAhead (a1 : Int32) (u : Uw) : Option (Unit × Uw) :=
  lp b_X5_lookAhead_2 2100 (a1, (0 : Int32), u)
set_option maxHeartbeats 4000000 in
set_option maxRecDepth 100000 in
theorem gl_X5_lookAhead_2 (X : Cx) (ad : Nat → Nat) : ∀ (n : Nat) (s : Int32 × Int32 × Uw), Go X ad mi_X5_lookAhead ivV 2 [(0, .ref (ad 69)), (1, .int s.1), (2, .int s.2.1)] [] s.2.2 (lp b_X5_lookAhead_2 n s) := by
  refine go_lp (G := fun (s : Int32 × Int32 × Uw) o => Go X ad mi_X5_lookAhead ivV 2 [(0, .ref (ad 69)), (1, .int s.1), (2, .int s.2.1)] [] s.2.2 o) (fun _ => go_none) (fun ih2 hih2 s => ?_)
  show Go X ad mi_X5_lookAhead ivV 2 [(0, .ref (ad 69)), (1, .int s.1), (2, .int s.2.1)] [] s.2.2 (b_X5_lookAhead_2 ih2 s)
  unfold b_X5_lookAhead_2
  refine go_iload_n 2 rfl dX5_lookAhead_2 rfl ?_
  refine go_iload_n 1 rfl dX5_lookAhead_3 rfl ?_
  refine go_icmp_ge (tgt := 44) dX5_lookAhead_4 (by decide) ?_ ?_
  · exact go_vret rfl dX5_lookAhead_44
  · refine go_iload_n 2 rfl dX5_lookAhead_7 rfl ?_
    refine go_aload_n 0 rfl dX5_lookAhead_8 rfl ?_
    refine go_getR clX5 kt_69 6 (Nat.le_of_ble_eq_true rfl) (f := 82) (fun _ => rfl) gw155 dX5_lookAhead_9 ?_
    refine go_alen10 (v := (400 : Int32)) kt_82 (by rw [kl_82]; decide) dX5_lookAhead_12 ?_
    refine go_icmp_ge (tgt := 44) dX5_lookAhead_13 (by decide) ?_ ?_
    · exact go_vret rfl dX5_lookAhead_44
    · refine go_aload_n 0 rfl dX5_lookAhead_16 rfl ?_
      refine go_getR clX5 kt_69 6 (Nat.le_of_ble_eq_true rfl) (f := 82) (fun _ => rfl) gw155 dX5_lookAhead_17 ?_
      refine go_iload_n 2 rfl dX5_lookAhead_20 rfl ?_
      refine go_aload_n 0 rfl dX5_lookAhead_21 rfl ?_
      refine go_getR clX5 kt_69 0 (Nat.le_of_ble_eq_true rfl) (f := 0) (fun _ => rfl) gw113 dX5_lookAhead_22 ?_
      refine go_aload_n 0 rfl dX5_lookAhead_25 rfl ?_
      refine go_getR clX5 kt_69 0 (Nat.le_of_ble_eq_true rfl) (f := 0) (fun _ => rfl) gw113 dX5_lookAhead_26 ?_
      refine go_getILN clX3 kt_0 0 (Nat.le_of_ble_eq_true rfl) (c := 2) (fun _ => rfl) kr_0 gn142 dX5_lookAhead_29 ?_
      refine go_iload_n 2 rfl dX5_lookAhead_32 rfl ?_
      refine go_iadd dX5_lookAhead_33 ?_
      refine go_callVI (As := fun ad => [.int ((s.2.2.1 0 2) + s.2.1)]) (g_X3_holySet 0 ((s.2.2.1 0 2) + s.2.1) s.2.2) mv_X3_holySet clX3 kt_0 gw156 rfl ⟨Nat.le_of_ble_eq_true rfl, Nat.le_of_ble_eq_true rfl⟩ rfl (Nat.le_of_ble_eq_true rfl) dX5_lookAhead_34 (fun r1 u2 => ?_)
      refine go_ck (fun h3 => ?_)
      refine go_iastL kt_82 kr_82 kl_82 h3 dX5_lookAhead_37 ?_
      refine go_nmU (fun u4 => ?_)
      refine go_iinc (v := (s.2.1 + (1 : Int32))) (lv' := [(2, .int (s.2.1 + (1 : Int32))), (0, .ref (ad 69)), (1, .int s.1)]) 2 rfl dX5_lookAhead_38 rfl (Nat.le_of_ble_eq_true rfl) rfl ?_
      refine go_goto (tgt := 2) dX5_lookAhead_41 (by decide) ?_
      exact go_sub [1, 2, 0] rfl (hih2 (s.1, (s.2.1 + (1 : Int32)), u4))
set_option maxHeartbeats 4000000 in
set_option maxRecDepth 100000 in
theorem g_X5_lookAhead (a1 : Int32) (u : Uw) : ∀ l, Con l yX5_lookAhead mi_X5_lookAhead ivV (fun ad => [.ref (ad 69), .int a1]) u (f_X5_lookAhead a1 u) := by
  refine con_of (by decide) rfl (fun _ => Nat.le_of_ble_eq_true rfl) (fun X ad => ?_)
  show Go X ad mi_X5_lookAhead ivV 0 [(0, .ref (ad 69)), (1, .int a1)] [] u (f_X5_lookAhead a1 u)
  unfold f_X5_lookAhead
  refine go_iconst (v := (0 : Int32)) dX5_lookAhead_0 (by decide) ?_
  refine go_istore_n (lv' := [(2, .int (0 : Int32)), (0, .ref (ad 69)), (1, .int a1)]) dX5_lookAhead_1 rfl (Nat.le_of_ble_eq_true rfl) rfl ?_
  exact go_sub [1, 2, 0] rfl (gl_X5_lookAhead_2 X ad  2100 (a1, (0 : Int32), u))
def b_X5_tryDays_11 (ih11 : Int32 × Int32 × Int32 × Int32 × Uw → Option (Unit × Uw)) (s : Int32 × Int32 × Int32 × Int32 × Uw) : Option (Unit × Uw) :=
  if s.1 ≤ s.2.2.2.1 then
  (some ((), s.2.2.2.2))
  else
  (if (400 : Int32) ≤ s.2.2.2.1 then
  (some ((), s.2.2.2.2))
  else
  (if (s.2.2.2.2.1 5 0) ≤ 0 then
  (some ((), s.2.2.2.2))
  else
  (ck (inb s.2.2.2.1 400) <|
  nm (s.2.2.2.2.1 4 s.2.2.2.1.toNatClampNeg) fun x4 =>
  bd (f_X1_passDay 83 x4 s.2.1 s.2.2.1 s.2.2.2.2) fun r5 u6 =>
  ih11 (s.1, s.2.1, s.2.2.1, (s.2.2.2.1 + (1 : Int32)), u6))))
def f_X5_tryDays (a1 : Nat) (a2 : Int32) (a3 : Int32) (a4 : Int32) (u : Uw) : Option (Unit × Uw) :=
  bd (f_X1_become 83 a1 u) fun r1 u2 =>
  lp b_X5_tryDays_11 2100 (a2, a3, a4, (0 : Int32), u2)
set_option maxHeartbeats 4000000 in
set_option maxRecDepth 100000 in
theorem gl_X5_tryDays_11 (X : Cx) (ad : Nat → Nat) : ∀ (n : Nat) (s : Int32 × Int32 × Int32 × Int32 × Uw), Go X ad mi_X5_tryDays ivV 11 [(0, .ref (ad 69)), (2, .int s.1), (3, .int s.2.1), (4, .int s.2.2.1), (5, .int s.2.2.2.1)] [] s.2.2.2.2 (lp b_X5_tryDays_11 n s) := by
  refine go_lp (G := fun (s : Int32 × Int32 × Int32 × Int32 × Uw) o => Go X ad mi_X5_tryDays ivV 11 [(0, .ref (ad 69)), (2, .int s.1), (3, .int s.2.1), (4, .int s.2.2.1), (5, .int s.2.2.2.1)] [] s.2.2.2.2 o) (fun _ => go_none) (fun ih11 hih11 s => ?_)
  show Go X ad mi_X5_tryDays ivV 11 [(0, .ref (ad 69)), (2, .int s.1), (3, .int s.2.1), (4, .int s.2.2.1), (5, .int s.2.2.2.1)] [] s.2.2.2.2 (b_X5_tryDays_11 ih11 s)
  unfold b_X5_tryDays_11
  refine go_iload 4 rfl dX5_tryDays_11 ?_
  refine go_iload_n 1 rfl dX5_tryDays_13 rfl ?_
  refine go_icmp_ge (tgt := 60) dX5_tryDays_14 (by decide) ?_ ?_
  · exact go_vret rfl dX5_tryDays_60
  · refine go_iload 4 rfl dX5_tryDays_17 ?_
    refine go_aload_n 0 rfl dX5_tryDays_19 rfl ?_
    refine go_getR clX5 kt_69 6 (Nat.le_of_ble_eq_true rfl) (f := 82) (fun _ => rfl) gw155 dX5_tryDays_20 ?_
    refine go_alen10 (v := (400 : Int32)) kt_82 (by rw [kl_82]; decide) dX5_tryDays_23 ?_
    refine go_icmp_ge (tgt := 60) dX5_tryDays_24 (by decide) ?_ ?_
    · exact go_vret rfl dX5_tryDays_60
    · refine go_aload_n 0 rfl dX5_tryDays_27 rfl ?_
      refine go_getR clX5 kt_69 7 (Nat.le_of_ble_eq_true rfl) (f := 83) (fun _ => rfl) gw157 dX5_tryDays_28 ?_
      refine go_getILN clX1 kt_83 0 (Nat.le_of_ble_eq_true rfl) (c := 0) (fun _ => rfl) kr_83 gn138 dX5_tryDays_31 ?_
      refine go_if_le (tgt := 60) dX5_tryDays_34 (by decide) ?_ ?_
      · exact go_vret rfl dX5_tryDays_60
      · refine go_aload_n 0 rfl dX5_tryDays_37 rfl ?_
        refine go_getR clX5 kt_69 7 (Nat.le_of_ble_eq_true rfl) (f := 83) (fun _ => rfl) gw157 dX5_tryDays_38 ?_
        refine go_aload_n 0 rfl dX5_tryDays_41 rfl ?_
        refine go_getR clX5 kt_69 6 (Nat.le_of_ble_eq_true rfl) (f := 82) (fun _ => rfl) gw155 dX5_tryDays_42 ?_
        refine go_iload 4 rfl dX5_tryDays_45 ?_
        refine go_ck (fun h3 => ?_)
        refine go_ialdL kt_82 kr_82 kl_82 h3 dX5_tryDays_47 ?_
        refine go_nm (fun x4 => ?_)
        refine go_iload_n 2 rfl dX5_tryDays_48 rfl ?_
        refine go_iload 3 rfl dX5_tryDays_49 ?_
        refine go_callVV (As := fun ad => [.int x4, .int s.2.1, .int s.2.2.1]) (g_X1_passDay 83 x4 s.2.1 s.2.2.1 s.2.2.2.2) mv_X1_passDay clX1 kt_83 gw159 rfl ⟨Nat.le_of_ble_eq_true rfl, Nat.le_of_ble_eq_true rfl⟩ rfl (Nat.le_of_ble_eq_true rfl) dX5_tryDays_51 (fun r5 u6 => ?_)
        refine go_iinc (v := (s.2.2.2.1 + (1 : Int32))) (lv' := [(5, .int (s.2.2.2.1 + (1 : Int32))), (0, .ref (ad 69)), (2, .int s.1), (3, .int s.2.1), (4, .int s.2.2.1)]) 4 rfl dX5_tryDays_54 rfl (Nat.le_of_ble_eq_true rfl) rfl ?_
        refine go_goto (tgt := 11) dX5_tryDays_57 (by decide) ?_
        exact go_sub [1, 2, 3, 4, 0] rfl (hih11 (s.1, s.2.1, s.2.2.1, (s.2.2.2.1 + (1 : Int32)), u6))
set_option maxHeartbeats 4000000 in
set_option maxRecDepth 100000 in
theorem g_X5_tryDays (a1 : Nat) (a2 : Int32) (a3 : Int32) (a4 : Int32) (u : Uw) : ∀ l, Con l yX5_tryDays mi_X5_tryDays ivV (fun ad => [.ref (ad 69), .ref (ad a1), .int a2, .int a3, .int a4]) u (f_X5_tryDays a1 a2 a3 a4 u) := by
  refine con_of (by decide) rfl (fun _ => Nat.le_of_ble_eq_true rfl) (fun X ad => ?_)
  show Go X ad mi_X5_tryDays ivV 0 [(0, .ref (ad 69)), (1, .ref (ad a1)), (2, .int a2), (3, .int a3), (4, .int a4)] [] u (f_X5_tryDays a1 a2 a3 a4 u)
  unfold f_X5_tryDays
  refine go_aload_n 0 rfl dX5_tryDays_0 rfl ?_
  refine go_getR clX5 kt_69 7 (Nat.le_of_ble_eq_true rfl) (f := 83) (fun _ => rfl) gw157 dX5_tryDays_1 ?_
  refine go_aload_n 1 rfl dX5_tryDays_4 rfl ?_
  refine go_callVV (As := fun ad => [.ref (ad a1)]) (g_X1_become 83 a1 u) mv_X1_become clX1 kt_83 gw158 rfl ⟨Nat.le_of_ble_eq_true rfl, Nat.le_of_ble_eq_true rfl⟩ rfl (Nat.le_of_ble_eq_true rfl) dX5_tryDays_5 (fun r1 u2 => ?_)
  refine go_iconst (v := (0 : Int32)) dX5_tryDays_8 (by decide) ?_
  refine go_istore (lv' := [(5, .int (0 : Int32)), (0, .ref (ad 69)), (1, .ref (ad a1)), (2, .int a2), (3, .int a3), (4, .int a4)]) dX5_tryDays_9 (Nat.le_of_ble_eq_true rfl) rfl ?_
  exact go_sub [1, 3, 4, 5, 0] rfl (gl_X5_tryDays_11 X ad  2100 (a2, a3, a4, (0 : Int32), u2))
def f_X5_on (a1 : Int32) (a2 : Int32) (a3 : Int32) (u : Uw) : Option (Int32 × Uw) :=
  bd (f_X3_pilgrimAt 0 a1 u) fun r1 u2 =>
  ro r1
  (bd (f_X5_found (-1000000001 : Int32) u2) fun r3 u4 =>
  some (r3, u4))
  (fun e5 =>
  bd (f_X5_within a2 (0 : Int32) (400 : Int32) u2) fun r6 u7 =>
  if r6 = true then
  (bd (f_X5_within a3 (0 : Int32) (1 : Int32) u7) fun r10 u11 =>
  if r10 = true then
  (bd (f_X5_lookAhead a2 u11) fun r12 u13 =>
  bd (f_X5_tryDays e5 a2 (u13.1 0 4) (u13.1 0 3) u13) fun r14 u15 =>
  if a3 = 0 then
  (some ((u15.1 5 0), u15))
  else
  (some ((u15.1 5 2), u15)))
  else
  (bd (f_X5_found (-1000000001 : Int32) u11) fun r16 u17 =>
  some (r16, u17)))
  else
  (bd (f_X5_found (-1000000001 : Int32) u7) fun r8 u9 =>
  some (r8, u9)))
set_option maxHeartbeats 4000000 in
set_option maxRecDepth 100000 in
theorem g_X5_on (a1 : Int32) (a2 : Int32) (a3 : Int32) (u : Uw) : ∀ l, Con l yX5_on mi_X5_on ivI (fun ad => [.ref (ad 69), .int a1, .int a2, .int a3]) u (f_X5_on a1 a2 a3 u) := by
  refine con_of (by decide) rfl (fun _ => Nat.le_of_ble_eq_true rfl) (fun X ad => ?_)
  show Go X ad mi_X5_on ivI 0 [(0, .ref (ad 69)), (1, .int a1), (2, .int a2), (3, .int a3)] [] u (f_X5_on a1 a2 a3 u)
  unfold f_X5_on
  refine go_aload_n 0 rfl dX5_on_0 rfl ?_
  refine go_getR clX5 kt_69 0 (Nat.le_of_ble_eq_true rfl) (f := 0) (fun _ => rfl) gw113 dX5_on_1 ?_
  refine go_iload_n 1 rfl dX5_on_4 rfl ?_
  refine go_callVR (As := fun ad => [.int a1]) (g_X3_pilgrimAt 0 a1 u) mv_X3_pilgrimAt clX3 kt_0 gw135 rfl ⟨Nat.le_of_ble_eq_true rfl, Nat.le_of_ble_eq_true rfl⟩ rfl (Nat.le_of_ble_eq_true rfl) dX5_on_5 (fun r1 u2 => ?_)
  refine go_ro ?_ (fun e5 => ?_)
  · refine go_astoreN (lv' := [(4, .null), (0, .ref (ad 69)), (1, .int a1), (2, .int a2), (3, .int a3)]) dX5_on_8 (Nat.le_of_ble_eq_true rfl) rfl ?_
    refine go_aloadN 0 rfl dX5_on_10 ?_
    refine go_ifnullN (tgt := 35) dX5_on_12 (by decide) ?_
    refine go_aload_n 1 rfl dX5_on_35 rfl ?_
    refine go_ldc (v := (-1000000001 : Int32)) gw110 dX5_on_36 ?_
    refine go_callVI (As := fun ad => [.int (-1000000001 : Int32)]) (g_X5_found (-1000000001 : Int32) u2) mv_X5_found clX5 kt_69 gw117 rfl ⟨Nat.le_of_ble_eq_true rfl, Nat.le_of_ble_eq_true rfl⟩ rfl (Nat.le_of_ble_eq_true rfl) dX5_on_38 (fun r3 u4 => ?_)
    exact go_iret rfl dX5_on_41
  · refine go_astore (lv' := [(4, .ref (ad e5)), (0, .ref (ad 69)), (1, .int a1), (2, .int a2), (3, .int a3)]) dX5_on_8 (Nat.le_of_ble_eq_true rfl) rfl ?_
    refine go_aload 0 rfl dX5_on_10 ?_
    refine go_ifnull dX5_on_12 ?_
    refine go_iload_n 3 rfl dX5_on_15 rfl ?_
    refine go_iconst (v := (0 : Int32)) dX5_on_16 (by decide) ?_
    refine go_sipush (v := (400 : Int32)) dX5_on_17 (by decide) ?_
    refine go_callSZ (As := fun ad => [.int a2, .int (0 : Int32), .int (400 : Int32)]) (g_X5_within a2 (0 : Int32) (400 : Int32) u2) mo_X5_within gw85 gw125 rfl ⟨Nat.le_of_ble_eq_true rfl, Nat.le_of_ble_eq_true rfl⟩ rfl (Nat.le_of_ble_eq_true rfl) dX5_on_20 (fun r6 u7 => ?_)
    refine go_ifz_eq (tgt := 35) dX5_on_23 (by decide) ?_ ?_
    · refine go_aload_n 1 rfl dX5_on_35 rfl ?_
      refine go_ldc (v := (-1000000001 : Int32)) gw110 dX5_on_36 ?_
      refine go_callVI (As := fun ad => [.int (-1000000001 : Int32)]) (g_X5_found (-1000000001 : Int32) u7) mv_X5_found clX5 kt_69 gw117 rfl ⟨Nat.le_of_ble_eq_true rfl, Nat.le_of_ble_eq_true rfl⟩ rfl (Nat.le_of_ble_eq_true rfl) dX5_on_38 (fun r8 u9 => ?_)
      exact go_iret rfl dX5_on_41
    · refine go_iload_n 4 rfl dX5_on_26 rfl ?_
      refine go_iconst (v := (0 : Int32)) dX5_on_27 (by decide) ?_
      refine go_iconst (v := (1 : Int32)) dX5_on_28 (by decide) ?_
      refine go_callSZ (As := fun ad => [.int a3, .int (0 : Int32), .int (1 : Int32)]) (g_X5_within a3 (0 : Int32) (1 : Int32) u7) mo_X5_within gw85 gw125 rfl ⟨Nat.le_of_ble_eq_true rfl, Nat.le_of_ble_eq_true rfl⟩ rfl (Nat.le_of_ble_eq_true rfl) dX5_on_29 (fun r10 u11 => ?_)
      refine go_ifz_ne (tgt := 42) dX5_on_32 (by decide) ?_ ?_
      · refine go_aload_n 1 rfl dX5_on_42 rfl ?_
        refine go_iload_n 3 rfl dX5_on_43 rfl ?_
        refine go_callVV (As := fun ad => [.int a2]) (g_X5_lookAhead a2 u11) mv_X5_lookAhead clX5 kt_69 gw160 rfl ⟨Nat.le_of_ble_eq_true rfl, Nat.le_of_ble_eq_true rfl⟩ rfl (Nat.le_of_ble_eq_true rfl) dX5_on_44 (fun r12 u13 => ?_)
        refine go_aload_n 1 rfl dX5_on_47 rfl ?_
        refine go_aload 0 rfl dX5_on_48 ?_
        refine go_iload_n 3 rfl dX5_on_50 rfl ?_
        refine go_aload_n 1 rfl dX5_on_51 rfl ?_
        refine go_getR clX5 kt_69 0 (Nat.le_of_ble_eq_true rfl) (f := 0) (fun _ => rfl) gw113 dX5_on_52 ?_
        refine go_getILN clX3 kt_0 2 (Nat.le_of_ble_eq_true rfl) (c := 4) (fun _ => rfl) kr_0 gn130 dX5_on_55 ?_
        refine go_aload_n 1 rfl dX5_on_58 rfl ?_
        refine go_getR clX5 kt_69 0 (Nat.le_of_ble_eq_true rfl) (f := 0) (fun _ => rfl) gw113 dX5_on_59 ?_
        refine go_getILN clX3 kt_0 1 (Nat.le_of_ble_eq_true rfl) (c := 3) (fun _ => rfl) kr_0 gn131 dX5_on_62 ?_
        refine go_callVV (As := fun ad => [.ref (ad e5), .int a2, .int (u13.1 0 4), .int (u13.1 0 3)]) (g_X5_tryDays e5 a2 (u13.1 0 4) (u13.1 0 3) u13) mv_X5_tryDays clX5 kt_69 gw161 rfl ⟨Nat.le_of_ble_eq_true rfl, Nat.le_of_ble_eq_true rfl⟩ rfl (Nat.le_of_ble_eq_true rfl) dX5_on_65 (fun r14 u15 => ?_)
        refine go_iload_n 4 rfl dX5_on_68 rfl ?_
        refine go_if_ne (tgt := 82) dX5_on_69 (by decide) ?_ ?_
        · refine go_aload_n 1 rfl dX5_on_82 rfl ?_
          refine go_getR clX5 kt_69 7 (Nat.le_of_ble_eq_true rfl) (f := 83) (fun _ => rfl) gw157 dX5_on_83 ?_
          refine go_getILN clX1 kt_83 2 (Nat.le_of_ble_eq_true rfl) (c := 2) (fun _ => rfl) kr_83 gn136 dX5_on_86 ?_
          exact go_iret rfl dX5_on_89
        · refine go_aload_n 1 rfl dX5_on_72 rfl ?_
          refine go_getR clX5 kt_69 7 (Nat.le_of_ble_eq_true rfl) (f := 83) (fun _ => rfl) gw157 dX5_on_73 ?_
          refine go_getILN clX1 kt_83 0 (Nat.le_of_ble_eq_true rfl) (c := 0) (fun _ => rfl) kr_83 gn138 dX5_on_76 ?_
          refine go_goto (tgt := 89) dX5_on_79 (by decide) ?_
          exact go_iret rfl dX5_on_89
      · refine go_aload_n 1 rfl dX5_on_35 rfl ?_
        refine go_ldc (v := (-1000000001 : Int32)) gw110 dX5_on_36 ?_
        refine go_callVI (As := fun ad => [.int (-1000000001 : Int32)]) (g_X5_found (-1000000001 : Int32) u11) mv_X5_found clX5 kt_69 gw117 rfl ⟨Nat.le_of_ble_eq_true rfl, Nat.le_of_ble_eq_true rfl⟩ rfl (Nat.le_of_ble_eq_true rfl) dX5_on_38 (fun r16 u17 => ?_)
        exact go_iret rfl dX5_on_41
def b_X5_daysToWell_18 (ih18 : Int32 × Uw → Option (Int32 × Uw)) (s : Int32 × Uw) : Option (Int32 × Uw) :=
  if (400 : Int32) ≤ s.1 then
  (if (s.2.1 5 0) = 0 then
  (some ((400 : Int32), s.2))
  else
  (some ((401 : Int32), s.2)))
  else
  (if (s.2.1 5 0) = 0 then
  (some (s.1, s.2))
  else
  (ck (inb s.1 400) <|
  nm (s.2.1 4 s.1.toNatClampNeg) fun x5 =>
  bd (f_X1_passDay 83 x5 (s.2.1 0 4) (s.2.1 0 3) s.2) fun r6 u7 =>
  ih18 ((s.1 + (1 : Int32)), u7)))
def f_X5_daysToWell (a1 : Nat) (a2 : Int32) (u : Uw) : Option (Int32 × Uw) :=
  bd (f_X1_become 83 a1 u) fun r1 u2 =>
  nm (w1 u2 5 1 a2) fun u3 =>
  lp b_X5_daysToWell_18 2100 ((0 : Int32), u3)
set_option maxHeartbeats 4000000 in
set_option maxRecDepth 100000 in
theorem gl_X5_daysToWell_18 (X : Cx) (ad : Nat → Nat) : ∀ (n : Nat) (s : Int32 × Uw), Go X ad mi_X5_daysToWell ivI 18 [(0, .ref (ad 69)), (3, .int s.1)] [] s.2 (lp b_X5_daysToWell_18 n s) := by
  refine go_lp (G := fun (s : Int32 × Uw) o => Go X ad mi_X5_daysToWell ivI 18 [(0, .ref (ad 69)), (3, .int s.1)] [] s.2 o) (fun _ => go_none) (fun ih18 hih18 s => ?_)
  show Go X ad mi_X5_daysToWell ivI 18 [(0, .ref (ad 69)), (3, .int s.1)] [] s.2 (b_X5_daysToWell_18 ih18 s)
  unfold b_X5_daysToWell_18
  refine go_iload_n 1 rfl dX5_daysToWell_18 rfl ?_
  refine go_aload_n 0 rfl dX5_daysToWell_19 rfl ?_
  refine go_getR clX5 kt_69 6 (Nat.le_of_ble_eq_true rfl) (f := 82) (fun _ => rfl) gw155 dX5_daysToWell_20 ?_
  refine go_alen10 (v := (400 : Int32)) kt_82 (by rw [kl_82]; decide) dX5_daysToWell_23 ?_
  refine go_icmp_ge (tgt := 72) dX5_daysToWell_24 (by decide) ?_ ?_
  · refine go_aload_n 0 rfl dX5_daysToWell_72 rfl ?_
    refine go_getR clX5 kt_69 7 (Nat.le_of_ble_eq_true rfl) (f := 83) (fun _ => rfl) gw157 dX5_daysToWell_73 ?_
    refine go_getILN clX1 kt_83 0 (Nat.le_of_ble_eq_true rfl) (c := 0) (fun _ => rfl) kr_83 gn138 dX5_daysToWell_76 ?_
    refine go_if_ne (tgt := 88) dX5_daysToWell_79 (by decide) ?_ ?_
    · refine go_sipush (v := (401 : Int32)) dX5_daysToWell_88 (by decide) ?_
      exact go_iret rfl dX5_daysToWell_91
    · refine go_sipush (v := (400 : Int32)) dX5_daysToWell_82 (by decide) ?_
      refine go_goto (tgt := 91) dX5_daysToWell_85 (by decide) ?_
      exact go_iret rfl dX5_daysToWell_91
  · refine go_aload_n 0 rfl dX5_daysToWell_27 rfl ?_
    refine go_getR clX5 kt_69 7 (Nat.le_of_ble_eq_true rfl) (f := 83) (fun _ => rfl) gw157 dX5_daysToWell_28 ?_
    refine go_getILN clX1 kt_83 0 (Nat.le_of_ble_eq_true rfl) (c := 0) (fun _ => rfl) kr_83 gn138 dX5_daysToWell_31 ?_
    refine go_if_ne (tgt := 39) dX5_daysToWell_34 (by decide) ?_ ?_
    · refine go_aload_n 0 rfl dX5_daysToWell_39 rfl ?_
      refine go_getR clX5 kt_69 7 (Nat.le_of_ble_eq_true rfl) (f := 83) (fun _ => rfl) gw157 dX5_daysToWell_40 ?_
      refine go_aload_n 0 rfl dX5_daysToWell_43 rfl ?_
      refine go_getR clX5 kt_69 6 (Nat.le_of_ble_eq_true rfl) (f := 82) (fun _ => rfl) gw155 dX5_daysToWell_44 ?_
      refine go_iload_n 1 rfl dX5_daysToWell_47 rfl ?_
      refine go_ck (fun h4 => ?_)
      refine go_ialdL kt_82 kr_82 kl_82 h4 dX5_daysToWell_48 ?_
      refine go_nm (fun x5 => ?_)
      refine go_aload_n 0 rfl dX5_daysToWell_49 rfl ?_
      refine go_getR clX5 kt_69 0 (Nat.le_of_ble_eq_true rfl) (f := 0) (fun _ => rfl) gw113 dX5_daysToWell_50 ?_
      refine go_getILN clX3 kt_0 2 (Nat.le_of_ble_eq_true rfl) (c := 4) (fun _ => rfl) kr_0 gn130 dX5_daysToWell_53 ?_
      refine go_aload_n 0 rfl dX5_daysToWell_56 rfl ?_
      refine go_getR clX5 kt_69 0 (Nat.le_of_ble_eq_true rfl) (f := 0) (fun _ => rfl) gw113 dX5_daysToWell_57 ?_
      refine go_getILN clX3 kt_0 1 (Nat.le_of_ble_eq_true rfl) (c := 3) (fun _ => rfl) kr_0 gn131 dX5_daysToWell_60 ?_
      refine go_callVV (As := fun ad => [.int x5, .int (s.2.1 0 4), .int (s.2.1 0 3)]) (g_X1_passDay 83 x5 (s.2.1 0 4) (s.2.1 0 3) s.2) mv_X1_passDay clX1 kt_83 gw159 rfl ⟨Nat.le_of_ble_eq_true rfl, Nat.le_of_ble_eq_true rfl⟩ rfl (Nat.le_of_ble_eq_true rfl) dX5_daysToWell_63 (fun r6 u7 => ?_)
      refine go_iinc (v := (s.1 + (1 : Int32))) (lv' := [(3, .int (s.1 + (1 : Int32))), (0, .ref (ad 69))]) 1 rfl dX5_daysToWell_66 rfl (Nat.le_of_ble_eq_true rfl) rfl ?_
      refine go_goto (tgt := 18) dX5_daysToWell_69 (by decide) ?_
      exact go_sub [1, 0] rfl (hih18 ((s.1 + (1 : Int32)), u7))
    · refine go_iload_n 1 rfl dX5_daysToWell_37 rfl ?_
      exact go_iret rfl dX5_daysToWell_38
set_option maxHeartbeats 4000000 in
set_option maxRecDepth 100000 in
theorem g_X5_daysToWell (a1 : Nat) (a2 : Int32) (u : Uw) : ∀ l, Con l yX5_daysToWell mi_X5_daysToWell ivI (fun ad => [.ref (ad 69), .ref (ad a1), .int a2]) u (f_X5_daysToWell a1 a2 u) := by
  refine con_of (by decide) rfl (fun _ => Nat.le_of_ble_eq_true rfl) (fun X ad => ?_)
  show Go X ad mi_X5_daysToWell ivI 0 [(0, .ref (ad 69)), (1, .ref (ad a1)), (2, .int a2)] [] u (f_X5_daysToWell a1 a2 u)
  unfold f_X5_daysToWell
  refine go_aload_n 0 rfl dX5_daysToWell_0 rfl ?_
  refine go_getR clX5 kt_69 7 (Nat.le_of_ble_eq_true rfl) (f := 83) (fun _ => rfl) gw157 dX5_daysToWell_1 ?_
  refine go_aload_n 1 rfl dX5_daysToWell_4 rfl ?_
  refine go_callVV (As := fun ad => [.ref (ad a1)]) (g_X1_become 83 a1 u) mv_X1_become clX1 kt_83 gw158 rfl ⟨Nat.le_of_ble_eq_true rfl, Nat.le_of_ble_eq_true rfl⟩ rfl (Nat.le_of_ble_eq_true rfl) dX5_daysToWell_5 (fun r1 u2 => ?_)
  refine go_aload_n 0 rfl dX5_daysToWell_8 rfl ?_
  refine go_getR clX5 kt_69 7 (Nat.le_of_ble_eq_true rfl) (f := 83) (fun _ => rfl) gw157 dX5_daysToWell_9 ?_
  refine go_iload_n 2 rfl dX5_daysToWell_12 rfl ?_
  refine go_putILN clX1 kt_83 1 (Nat.le_of_ble_eq_true rfl) (c := 1) (fun _ => rfl) (by decide) kr_83 (fty := .int) (tyX1_ok 1 (Nat.le_of_ble_eq_true rfl)) rfl rfl rfl (fun _ => Nat.le_of_ble_eq_true rfl) gn137 dX5_daysToWell_13 ?_
  refine go_nmU (fun u3 => ?_)
  refine go_iconst (v := (0 : Int32)) dX5_daysToWell_16 (by decide) ?_
  refine go_istore_n (lv' := [(3, .int (0 : Int32)), (0, .ref (ad 69)), (1, .ref (ad a1)), (2, .int a2)]) dX5_daysToWell_17 rfl (Nat.le_of_ble_eq_true rfl) rfl ?_
  exact go_sub [1, 0] rfl (gl_X5_daysToWell_18 X ad  2100 ((0 : Int32), u3))
def f_X5_well (a1 : Int32) (u : Uw) : Option (Int32 × Uw) :=
  bd (f_X3_pilgrimAt 0 a1 u) fun r1 u2 =>
  ro r1
  (bd (f_X5_found (-1000000001 : Int32) u2) fun r3 u4 =>
  some (r3, u4))
  (fun e5 =>
  bd (f_X5_lookAhead (400 : Int32) u2) fun r6 u7 =>
  ck (kT e5 == 1) <|
  bd (f_X5_daysToWell e5 (u7.1 (kR e5) (kO e5 + 1)) u7) fun r9 u10 =>
  if r9 = (401 : Int32) then
  (bd (f_X5_found (-1000000004 : Int32) u10) fun r11 u12 =>
  some (r11, u12))
  else
  (some (r9, u10)))
set_option maxHeartbeats 4000000 in
set_option maxRecDepth 100000 in
theorem g_X5_well (a1 : Int32) (u : Uw) : ∀ l, Con l yX5_well mi_X5_well ivI (fun ad => [.ref (ad 69), .int a1]) u (f_X5_well a1 u) := by
  refine con_of (by decide) rfl (fun _ => Nat.le_of_ble_eq_true rfl) (fun X ad => ?_)
  show Go X ad mi_X5_well ivI 0 [(0, .ref (ad 69)), (1, .int a1)] [] u (f_X5_well a1 u)
  unfold f_X5_well
  refine go_aload_n 0 rfl dX5_well_0 rfl ?_
  refine go_getR clX5 kt_69 0 (Nat.le_of_ble_eq_true rfl) (f := 0) (fun _ => rfl) gw113 dX5_well_1 ?_
  refine go_iload_n 1 rfl dX5_well_4 rfl ?_
  refine go_callVR (As := fun ad => [.int a1]) (g_X3_pilgrimAt 0 a1 u) mv_X3_pilgrimAt clX3 kt_0 gw135 rfl ⟨Nat.le_of_ble_eq_true rfl, Nat.le_of_ble_eq_true rfl⟩ rfl (Nat.le_of_ble_eq_true rfl) dX5_well_5 (fun r1 u2 => ?_)
  refine go_ro ?_ (fun e5 => ?_)
  · refine go_astore_nN (lv' := [(2, .null), (0, .ref (ad 69)), (1, .int a1)]) dX5_well_8 rfl (Nat.le_of_ble_eq_true rfl) rfl ?_
    refine go_aload_nN 0 rfl dX5_well_9 rfl ?_
    refine go_ifnonnullN dX5_well_10 ?_
    refine go_aload_n 1 rfl dX5_well_13 rfl ?_
    refine go_ldc (v := (-1000000001 : Int32)) gw110 dX5_well_14 ?_
    refine go_callVI (As := fun ad => [.int (-1000000001 : Int32)]) (g_X5_found (-1000000001 : Int32) u2) mv_X5_found clX5 kt_69 gw117 rfl ⟨Nat.le_of_ble_eq_true rfl, Nat.le_of_ble_eq_true rfl⟩ rfl (Nat.le_of_ble_eq_true rfl) dX5_well_16 (fun r3 u4 => ?_)
    exact go_iret rfl dX5_well_19
  · refine go_astore_n (lv' := [(2, .ref (ad e5)), (0, .ref (ad 69)), (1, .int a1)]) dX5_well_8 rfl (Nat.le_of_ble_eq_true rfl) rfl ?_
    refine go_aload_n 0 rfl dX5_well_9 rfl ?_
    refine go_ifnonnull (tgt := 20) dX5_well_10 (by decide) ?_
    refine go_aload_n 1 rfl dX5_well_20 rfl ?_
    refine go_sipush (v := (400 : Int32)) dX5_well_21 (by decide) ?_
    refine go_callVV (As := fun ad => [.int (400 : Int32)]) (g_X5_lookAhead (400 : Int32) u2) mv_X5_lookAhead clX5 kt_69 gw160 rfl ⟨Nat.le_of_ble_eq_true rfl, Nat.le_of_ble_eq_true rfl⟩ rfl (Nat.le_of_ble_eq_true rfl) dX5_well_24 (fun r6 u7 => ?_)
    refine go_aload_n 1 rfl dX5_well_27 rfl ?_
    refine go_aload_n 0 rfl dX5_well_28 rfl ?_
    refine go_aload_n 0 rfl dX5_well_29 rfl ?_
    refine go_ck (fun h8 => ?_)
    refine go_getIN clX1 h8 1 (Nat.le_of_ble_eq_true rfl) (c := 1) (fun _ => rfl) gn137 dX5_well_30 ?_
    refine go_callVI (As := fun ad => [.ref (ad e5), .int (u7.1 (kR e5) (kO e5 + 1))]) (g_X5_daysToWell e5 (u7.1 (kR e5) (kO e5 + 1)) u7) mv_X5_daysToWell clX5 kt_69 gw162 rfl ⟨Nat.le_of_ble_eq_true rfl, Nat.le_of_ble_eq_true rfl⟩ rfl (Nat.le_of_ble_eq_true rfl) dX5_well_33 (fun r9 u10 => ?_)
    refine go_istore_n (lv' := [(3, .int r9), (2, .ref (ad e5)), (0, .ref (ad 69)), (1, .int a1)]) dX5_well_36 rfl (Nat.le_of_ble_eq_true rfl) rfl ?_
    refine go_iload_n 0 rfl dX5_well_37 rfl ?_
    refine go_sipush (v := (401 : Int32)) dX5_well_38 (by decide) ?_
    refine go_icmp_ne (tgt := 53) dX5_well_41 (by decide) ?_ ?_
    · refine go_iload_n 0 rfl dX5_well_53 rfl ?_
      exact go_iret rfl dX5_well_54
    · refine go_aload_n 2 rfl dX5_well_44 rfl ?_
      refine go_ldc (v := (-1000000004 : Int32)) gw163 dX5_well_45 ?_
      refine go_callVI (As := fun ad => [.int (-1000000004 : Int32)]) (g_X5_found (-1000000004 : Int32) u10) mv_X5_found clX5 kt_69 gw117 rfl ⟨Nat.le_of_ble_eq_true rfl, Nat.le_of_ble_eq_true rfl⟩ rfl (Nat.le_of_ble_eq_true rfl) dX5_well_47 (fun r11 u12 => ?_)
      refine go_goto (tgt := 54) dX5_well_50 (by decide) ?_
      exact go_iret rfl dX5_well_54
def b_X5_next_22 (ih22 : Nat × Int32 × Uw → Option (Int32 × Uw)) (s : Nat × Int32 × Uw) : Option (Int32 × Uw) :=
  if (400 : Int32) < s.2.1 then
  (bd (f_X5_found (-1000000004 : Int32) s.2.2) fun r6 u7 =>
  some (r6, u7))
  else
  (ck (kT s.1 == 0) <|
  bd (f_X0_isHoly s.1 ((s.2.2.1 0 2) + s.2.1) s.2.2) fun r9 u10 =>
  if r9 = true then
  (some (((u10.1 0 2) + s.2.1), u10))
  else
  (ih22 (s.1, (s.2.1 + (1 : Int32)), u10)))
def f_X5_next (a1 : Int32) (u : Uw) : Option (Int32 × Uw) :=
  bd (f_X3_calendarAt 0 a1 u) fun r1 u2 =>
  ro r1
  (bd (f_X5_found (-1000000001 : Int32) u2) fun r3 u4 =>
  some (r3, u4))
  (fun e5 =>
  lp b_X5_next_22 2100 (e5, (0 : Int32), u2))
set_option maxHeartbeats 4000000 in
set_option maxRecDepth 100000 in
theorem gl_X5_next_22 (X : Cx) (ad : Nat → Nat) : ∀ (n : Nat) (s : Nat × Int32 × Uw), Go X ad mi_X5_next ivI 22 [(0, .ref (ad 69)), (2, .ref (ad s.1)), (3, .int s.2.1)] [] s.2.2 (lp b_X5_next_22 n s) := by
  refine go_lp (G := fun (s : Nat × Int32 × Uw) o => Go X ad mi_X5_next ivI 22 [(0, .ref (ad 69)), (2, .ref (ad s.1)), (3, .int s.2.1)] [] s.2.2 o) (fun _ => go_none) (fun ih22 hih22 s => ?_)
  show Go X ad mi_X5_next ivI 22 [(0, .ref (ad 69)), (2, .ref (ad s.1)), (3, .int s.2.1)] [] s.2.2 (b_X5_next_22 ih22 s)
  unfold b_X5_next_22
  refine go_iload_n 2 rfl dX5_next_22 rfl ?_
  refine go_sipush (v := (400 : Int32)) dX5_next_23 (by decide) ?_
  refine go_icmp_gt (tgt := 61) dX5_next_26 (by decide) ?_ ?_
  · refine go_aload_n 0 rfl dX5_next_61 rfl ?_
    refine go_ldc (v := (-1000000004 : Int32)) gw163 dX5_next_62 ?_
    refine go_callVI (As := fun ad => [.int (-1000000004 : Int32)]) (g_X5_found (-1000000004 : Int32) s.2.2) mv_X5_found clX5 kt_69 gw117 rfl ⟨Nat.le_of_ble_eq_true rfl, Nat.le_of_ble_eq_true rfl⟩ rfl (Nat.le_of_ble_eq_true rfl) dX5_next_64 (fun r6 u7 => ?_)
    exact go_iret rfl dX5_next_67
  · refine go_aload_n 1 rfl dX5_next_29 rfl ?_
    refine go_aload_n 0 rfl dX5_next_30 rfl ?_
    refine go_getR clX5 kt_69 0 (Nat.le_of_ble_eq_true rfl) (f := 0) (fun _ => rfl) gw113 dX5_next_31 ?_
    refine go_getILN clX3 kt_0 0 (Nat.le_of_ble_eq_true rfl) (c := 2) (fun _ => rfl) kr_0 gn142 dX5_next_34 ?_
    refine go_iload_n 2 rfl dX5_next_37 rfl ?_
    refine go_iadd dX5_next_38 ?_
    refine go_ck (fun h8 => ?_)
    refine go_callVZ (As := fun ad => [.int ((s.2.2.1 0 2) + s.2.1)]) (g_X0_isHoly s.1 ((s.2.2.1 0 2) + s.2.1) s.2.2) mv_X0_isHoly clX0 h8 gw128 rfl ⟨Nat.le_of_ble_eq_true rfl, Nat.le_of_ble_eq_true rfl⟩ rfl (Nat.le_of_ble_eq_true rfl) dX5_next_39 (fun r9 u10 => ?_)
    refine go_ifz_eq (tgt := 55) dX5_next_42 (by decide) ?_ ?_
    · refine go_iinc (v := (s.2.1 + (1 : Int32))) (lv' := [(3, .int (s.2.1 + (1 : Int32))), (0, .ref (ad 69)), (2, .ref (ad s.1))]) 2 rfl dX5_next_55 rfl (Nat.le_of_ble_eq_true rfl) rfl ?_
      refine go_goto (tgt := 22) dX5_next_58 (by decide) ?_
      exact go_sub [1, 2, 0] rfl (hih22 (s.1, (s.2.1 + (1 : Int32)), u10))
    · refine go_aload_n 0 rfl dX5_next_45 rfl ?_
      refine go_getR clX5 kt_69 0 (Nat.le_of_ble_eq_true rfl) (f := 0) (fun _ => rfl) gw113 dX5_next_46 ?_
      refine go_getILN clX3 kt_0 0 (Nat.le_of_ble_eq_true rfl) (c := 2) (fun _ => rfl) kr_0 gn142 dX5_next_49 ?_
      refine go_iload_n 2 rfl dX5_next_52 rfl ?_
      refine go_iadd dX5_next_53 ?_
      exact go_iret rfl dX5_next_54
set_option maxHeartbeats 4000000 in
set_option maxRecDepth 100000 in
theorem g_X5_next (a1 : Int32) (u : Uw) : ∀ l, Con l yX5_next mi_X5_next ivI (fun ad => [.ref (ad 69), .int a1]) u (f_X5_next a1 u) := by
  refine con_of (by decide) rfl (fun _ => Nat.le_of_ble_eq_true rfl) (fun X ad => ?_)
  show Go X ad mi_X5_next ivI 0 [(0, .ref (ad 69)), (1, .int a1)] [] u (f_X5_next a1 u)
  unfold f_X5_next
  refine go_aload_n 0 rfl dX5_next_0 rfl ?_
  refine go_getR clX5 kt_69 0 (Nat.le_of_ble_eq_true rfl) (f := 0) (fun _ => rfl) gw113 dX5_next_1 ?_
  refine go_iload_n 1 rfl dX5_next_4 rfl ?_
  refine go_callVR (As := fun ad => [.int a1]) (g_X3_calendarAt 0 a1 u) mv_X3_calendarAt clX3 kt_0 gw118 rfl ⟨Nat.le_of_ble_eq_true rfl, Nat.le_of_ble_eq_true rfl⟩ rfl (Nat.le_of_ble_eq_true rfl) dX5_next_5 (fun r1 u2 => ?_)
  refine go_ro ?_ (fun e5 => ?_)
  · refine go_astore_nN (lv' := [(2, .null), (0, .ref (ad 69)), (1, .int a1)]) dX5_next_8 rfl (Nat.le_of_ble_eq_true rfl) rfl ?_
    refine go_aload_nN 0 rfl dX5_next_9 rfl ?_
    refine go_ifnonnullN dX5_next_10 ?_
    refine go_aload_n 1 rfl dX5_next_13 rfl ?_
    refine go_ldc (v := (-1000000001 : Int32)) gw110 dX5_next_14 ?_
    refine go_callVI (As := fun ad => [.int (-1000000001 : Int32)]) (g_X5_found (-1000000001 : Int32) u2) mv_X5_found clX5 kt_69 gw117 rfl ⟨Nat.le_of_ble_eq_true rfl, Nat.le_of_ble_eq_true rfl⟩ rfl (Nat.le_of_ble_eq_true rfl) dX5_next_16 (fun r3 u4 => ?_)
    exact go_iret rfl dX5_next_19
  · refine go_astore_n (lv' := [(2, .ref (ad e5)), (0, .ref (ad 69)), (1, .int a1)]) dX5_next_8 rfl (Nat.le_of_ble_eq_true rfl) rfl ?_
    refine go_aload_n 0 rfl dX5_next_9 rfl ?_
    refine go_ifnonnull (tgt := 20) dX5_next_10 (by decide) ?_
    refine go_iconst (v := (0 : Int32)) dX5_next_20 (by decide) ?_
    refine go_istore_n (lv' := [(3, .int (0 : Int32)), (2, .ref (ad e5)), (0, .ref (ad 69)), (1, .int a1)]) dX5_next_21 rfl (Nat.le_of_ble_eq_true rfl) rfl ?_
    exact go_sub [2, 1, 0] rfl (gl_X5_next_22 X ad  2100 (e5, (0 : Int32), u2))
def f_X5_agreeAhead (a1 : Int32) (a2 : Int32) (a3 : Int32) (u : Uw) : Option (Bool × Uw) :=
  if a3 < 0 then
  (some (false, u))
  else
  (if (400 : Int32) ≤ a3 then
  (some (false, u))
  else
  (ck (inb a3 400) <|
  nm (u.1 4 a3.toNatClampNeg) fun x2 =>
  bd (f_X5_isIn x2 a1 u) fun r3 u4 =>
  nm (u4.1 4 a3.toNatClampNeg) fun x5 =>
  bd (f_X5_isIn x5 a2 u4) fun r6 u7 =>
  if (bI r3) = (bI r6) then
  (some (true, u7))
  else
  (some (false, u7))))
set_option maxHeartbeats 4000000 in
set_option maxRecDepth 100000 in
theorem g_X5_agreeAhead (a1 : Int32) (a2 : Int32) (a3 : Int32) (u : Uw) : ∀ l, Con l yX5_agreeAhead mi_X5_agreeAhead ivZ (fun ad => [.ref (ad 69), .int a1, .int a2, .int a3]) u (f_X5_agreeAhead a1 a2 a3 u) := by
  refine con_of (by decide) rfl (fun _ => Nat.le_of_ble_eq_true rfl) (fun X ad => ?_)
  show Go X ad mi_X5_agreeAhead ivZ 0 [(0, .ref (ad 69)), (1, .int a1), (2, .int a2), (3, .int a3)] [] u (f_X5_agreeAhead a1 a2 a3 u)
  unfold f_X5_agreeAhead
  refine go_iload_n 3 rfl dX5_agreeAhead_0 rfl ?_
  refine go_if_lt (tgt := 40) dX5_agreeAhead_1 (by decide) ?_ ?_
  · refine go_iconst (v := (0 : Int32)) dX5_agreeAhead_40 (by decide) ?_
    exact go_zret (b := false) rfl dX5_agreeAhead_41
  · refine go_iload_n 3 rfl dX5_agreeAhead_4 rfl ?_
    refine go_aload_n 0 rfl dX5_agreeAhead_5 rfl ?_
    refine go_getR clX5 kt_69 6 (Nat.le_of_ble_eq_true rfl) (f := 82) (fun _ => rfl) gw155 dX5_agreeAhead_6 ?_
    refine go_alen10 (v := (400 : Int32)) kt_82 (by rw [kl_82]; decide) dX5_agreeAhead_9 ?_
    refine go_icmp_ge (tgt := 40) dX5_agreeAhead_10 (by decide) ?_ ?_
    · refine go_iconst (v := (0 : Int32)) dX5_agreeAhead_40 (by decide) ?_
      exact go_zret (b := false) rfl dX5_agreeAhead_41
    · refine go_aload_n 0 rfl dX5_agreeAhead_13 rfl ?_
      refine go_getR clX5 kt_69 6 (Nat.le_of_ble_eq_true rfl) (f := 82) (fun _ => rfl) gw155 dX5_agreeAhead_14 ?_
      refine go_iload_n 3 rfl dX5_agreeAhead_17 rfl ?_
      refine go_ck (fun h1 => ?_)
      refine go_ialdL kt_82 kr_82 kl_82 h1 dX5_agreeAhead_18 ?_
      refine go_nm (fun x2 => ?_)
      refine go_iload_n 1 rfl dX5_agreeAhead_19 rfl ?_
      refine go_callSZ (As := fun ad => [.int x2, .int a1]) (g_X5_isIn x2 a1 u) mo_X5_isIn gw28 gw164 rfl ⟨Nat.le_of_ble_eq_true rfl, Nat.le_of_ble_eq_true rfl⟩ rfl (Nat.le_of_ble_eq_true rfl) dX5_agreeAhead_20 (fun r3 u4 => ?_)
      refine go_aload_n 0 rfl dX5_agreeAhead_23 rfl ?_
      refine go_getR clX5 kt_69 6 (Nat.le_of_ble_eq_true rfl) (f := 82) (fun _ => rfl) gw155 dX5_agreeAhead_24 ?_
      refine go_iload_n 3 rfl dX5_agreeAhead_27 rfl ?_
      refine go_ialdL kt_82 kr_82 kl_82 h1 dX5_agreeAhead_28 ?_
      refine go_nm (fun x5 => ?_)
      refine go_iload_n 2 rfl dX5_agreeAhead_29 rfl ?_
      refine go_callSZ (As := fun ad => [.int x5, .int a2]) (g_X5_isIn x5 a2 u4) mo_X5_isIn gw28 gw164 rfl ⟨Nat.le_of_ble_eq_true rfl, Nat.le_of_ble_eq_true rfl⟩ rfl (Nat.le_of_ble_eq_true rfl) dX5_agreeAhead_30 (fun r6 u7 => ?_)
      refine go_icmp_ne (tgt := 40) dX5_agreeAhead_33 (by decide) ?_ ?_
      · refine go_iconst (v := (0 : Int32)) dX5_agreeAhead_40 (by decide) ?_
        exact go_zret (b := false) rfl dX5_agreeAhead_41
      · refine go_iconst (v := (1 : Int32)) dX5_agreeAhead_36 (by decide) ?_
        refine go_goto (tgt := 41) dX5_agreeAhead_37 (by decide) ?_
        exact go_zret (b := true) rfl dX5_agreeAhead_41
def b_X5_agree_41 (ih41 : Int32 × Int32 × Int32 × Int32 × Int32 × Uw → Option (Int32 × Uw)) (s : Int32 × Int32 × Int32 × Int32 × Int32 × Uw) : Option (Int32 × Uw) :=
  if s.2.2.1 ≤ s.2.2.2.2.1 then
  (some (s.2.2.2.1, s.2.2.2.2.2))
  else
  (bd (f_X5_agreeAhead s.1 s.2.1 s.2.2.2.2.1 s.2.2.2.2.2) fun r9 u10 =>
  if r9 = true then
  (ih41 (s.1, s.2.1, s.2.2.1, (s.2.2.2.1 + (1 : Int32)), (s.2.2.2.2.1 + (1 : Int32)), u10))
  else
  (ih41 (s.1, s.2.1, s.2.2.1, s.2.2.2.1, (s.2.2.2.2.1 + (1 : Int32)), u10)))
def f_X5_agree (a1 : Int32) (a2 : Int32) (a3 : Int32) (u : Uw) : Option (Int32 × Uw) :=
  bd (f_X3_hasBoth 0 a1 a2 u) fun r1 u2 =>
  if r1 = true then
  (bd (f_X5_within a3 (1 : Int32) (400 : Int32) u2) fun r5 u6 =>
  if r5 = true then
  (bd (f_X5_lookAhead a3 u6) fun r7 u8 =>
  lp b_X5_agree_41 2100 (a1, a2, a3, (0 : Int32), (0 : Int32), u8))
  else
  (bd (f_X5_found (-1000000001 : Int32) u6) fun r11 u12 =>
  some (r11, u12)))
  else
  (bd (f_X5_found (-1000000001 : Int32) u2) fun r3 u4 =>
  some (r3, u4))
set_option maxHeartbeats 4000000 in
set_option maxRecDepth 100000 in
theorem gl_X5_agree_41 (X : Cx) (ad : Nat → Nat) : ∀ (n : Nat) (s : Int32 × Int32 × Int32 × Int32 × Int32 × Uw), Go X ad mi_X5_agree ivI 41 [(0, .ref (ad 69)), (1, .int s.1), (2, .int s.2.1), (3, .int s.2.2.1), (4, .int s.2.2.2.1), (5, .int s.2.2.2.2.1)] [] s.2.2.2.2.2 (lp b_X5_agree_41 n s) := by
  refine go_lp (G := fun (s : Int32 × Int32 × Int32 × Int32 × Int32 × Uw) o => Go X ad mi_X5_agree ivI 41 [(0, .ref (ad 69)), (1, .int s.1), (2, .int s.2.1), (3, .int s.2.2.1), (4, .int s.2.2.2.1), (5, .int s.2.2.2.2.1)] [] s.2.2.2.2.2 o) (fun _ => go_none) (fun ih41 hih41 s => ?_)
  show Go X ad mi_X5_agree ivI 41 [(0, .ref (ad 69)), (1, .int s.1), (2, .int s.2.1), (3, .int s.2.2.1), (4, .int s.2.2.2.1), (5, .int s.2.2.2.2.1)] [] s.2.2.2.2.2 (b_X5_agree_41 ih41 s)
  unfold b_X5_agree_41
  refine go_iload 5 rfl dX5_agree_41 ?_
  refine go_iload_n 3 rfl dX5_agree_43 rfl ?_
  refine go_icmp_ge (tgt := 67) dX5_agree_44 (by decide) ?_ ?_
  · refine go_iload 4 rfl dX5_agree_67 ?_
    exact go_iret rfl dX5_agree_69
  · refine go_aload_n 0 rfl dX5_agree_47 rfl ?_
    refine go_iload_n 1 rfl dX5_agree_48 rfl ?_
    refine go_iload_n 2 rfl dX5_agree_49 rfl ?_
    refine go_iload 5 rfl dX5_agree_50 ?_
    refine go_callVZ (As := fun ad => [.int s.1, .int s.2.1, .int s.2.2.2.2.1]) (g_X5_agreeAhead s.1 s.2.1 s.2.2.2.2.1 s.2.2.2.2.2) mv_X5_agreeAhead clX5 kt_69 gw166 rfl ⟨Nat.le_of_ble_eq_true rfl, Nat.le_of_ble_eq_true rfl⟩ rfl (Nat.le_of_ble_eq_true rfl) dX5_agree_52 (fun r9 u10 => ?_)
    refine go_ifz_eq (tgt := 61) dX5_agree_55 (by decide) ?_ ?_
    · refine go_iinc (v := (s.2.2.2.2.1 + (1 : Int32))) (lv' := [(5, .int (s.2.2.2.2.1 + (1 : Int32))), (0, .ref (ad 69)), (1, .int s.1), (2, .int s.2.1), (3, .int s.2.2.1), (4, .int s.2.2.2.1)]) 5 rfl dX5_agree_61 rfl (Nat.le_of_ble_eq_true rfl) rfl ?_
      refine go_goto (tgt := 41) dX5_agree_64 (by decide) ?_
      exact go_sub [1, 2, 3, 4, 5, 0] rfl (hih41 (s.1, s.2.1, s.2.2.1, s.2.2.2.1, (s.2.2.2.2.1 + (1 : Int32)), u10))
    · refine go_iinc (v := (s.2.2.2.1 + (1 : Int32))) (lv' := [(4, .int (s.2.2.2.1 + (1 : Int32))), (0, .ref (ad 69)), (1, .int s.1), (2, .int s.2.1), (3, .int s.2.2.1), (5, .int s.2.2.2.2.1)]) 4 rfl dX5_agree_58 rfl (Nat.le_of_ble_eq_true rfl) rfl ?_
      refine go_iinc (v := (s.2.2.2.2.1 + (1 : Int32))) (lv' := [(5, .int (s.2.2.2.2.1 + (1 : Int32))), (4, .int (s.2.2.2.1 + (1 : Int32))), (0, .ref (ad 69)), (1, .int s.1), (2, .int s.2.1), (3, .int s.2.2.1)]) 5 rfl dX5_agree_61 rfl (Nat.le_of_ble_eq_true rfl) rfl ?_
      refine go_goto (tgt := 41) dX5_agree_64 (by decide) ?_
      exact go_sub [2, 3, 4, 5, 1, 0] rfl (hih41 (s.1, s.2.1, s.2.2.1, (s.2.2.2.1 + (1 : Int32)), (s.2.2.2.2.1 + (1 : Int32)), u10))
set_option maxHeartbeats 4000000 in
set_option maxRecDepth 100000 in
theorem g_X5_agree (a1 : Int32) (a2 : Int32) (a3 : Int32) (u : Uw) : ∀ l, Con l yX5_agree mi_X5_agree ivI (fun ad => [.ref (ad 69), .int a1, .int a2, .int a3]) u (f_X5_agree a1 a2 a3 u) := by
  refine con_of (by decide) rfl (fun _ => Nat.le_of_ble_eq_true rfl) (fun X ad => ?_)
  show Go X ad mi_X5_agree ivI 0 [(0, .ref (ad 69)), (1, .int a1), (2, .int a2), (3, .int a3)] [] u (f_X5_agree a1 a2 a3 u)
  unfold f_X5_agree
  refine go_aload_n 0 rfl dX5_agree_0 rfl ?_
  refine go_getR clX5 kt_69 0 (Nat.le_of_ble_eq_true rfl) (f := 0) (fun _ => rfl) gw113 dX5_agree_1 ?_
  refine go_iload_n 1 rfl dX5_agree_4 rfl ?_
  refine go_iload_n 2 rfl dX5_agree_5 rfl ?_
  refine go_callVZ (As := fun ad => [.int a1, .int a2]) (g_X3_hasBoth 0 a1 a2 u) mv_X3_hasBoth clX3 kt_0 gw165 rfl ⟨Nat.le_of_ble_eq_true rfl, Nat.le_of_ble_eq_true rfl⟩ rfl (Nat.le_of_ble_eq_true rfl) dX5_agree_6 (fun r1 u2 => ?_)
  refine go_ifz_eq (tgt := 23) dX5_agree_9 (by decide) ?_ ?_
  · refine go_aload_n 0 rfl dX5_agree_23 rfl ?_
    refine go_ldc (v := (-1000000001 : Int32)) gw110 dX5_agree_24 ?_
    refine go_callVI (As := fun ad => [.int (-1000000001 : Int32)]) (g_X5_found (-1000000001 : Int32) u2) mv_X5_found clX5 kt_69 gw117 rfl ⟨Nat.le_of_ble_eq_true rfl, Nat.le_of_ble_eq_true rfl⟩ rfl (Nat.le_of_ble_eq_true rfl) dX5_agree_26 (fun r3 u4 => ?_)
    exact go_iret rfl dX5_agree_29
  · refine go_iload_n 3 rfl dX5_agree_12 rfl ?_
    refine go_iconst (v := (1 : Int32)) dX5_agree_13 (by decide) ?_
    refine go_sipush (v := (400 : Int32)) dX5_agree_14 (by decide) ?_
    refine go_callSZ (As := fun ad => [.int a3, .int (1 : Int32), .int (400 : Int32)]) (g_X5_within a3 (1 : Int32) (400 : Int32) u2) mo_X5_within gw85 gw125 rfl ⟨Nat.le_of_ble_eq_true rfl, Nat.le_of_ble_eq_true rfl⟩ rfl (Nat.le_of_ble_eq_true rfl) dX5_agree_17 (fun r5 u6 => ?_)
    refine go_ifz_ne (tgt := 30) dX5_agree_20 (by decide) ?_ ?_
    · refine go_aload_n 0 rfl dX5_agree_30 rfl ?_
      refine go_iload_n 3 rfl dX5_agree_31 rfl ?_
      refine go_callVV (As := fun ad => [.int a3]) (g_X5_lookAhead a3 u6) mv_X5_lookAhead clX5 kt_69 gw160 rfl ⟨Nat.le_of_ble_eq_true rfl, Nat.le_of_ble_eq_true rfl⟩ rfl (Nat.le_of_ble_eq_true rfl) dX5_agree_32 (fun r7 u8 => ?_)
      refine go_iconst (v := (0 : Int32)) dX5_agree_35 (by decide) ?_
      refine go_istore (lv' := [(4, .int (0 : Int32)), (0, .ref (ad 69)), (1, .int a1), (2, .int a2), (3, .int a3)]) dX5_agree_36 (Nat.le_of_ble_eq_true rfl) rfl ?_
      refine go_iconst (v := (0 : Int32)) dX5_agree_38 (by decide) ?_
      refine go_istore (lv' := [(5, .int (0 : Int32)), (4, .int (0 : Int32)), (0, .ref (ad 69)), (1, .int a1), (2, .int a2), (3, .int a3)]) dX5_agree_39 (Nat.le_of_ble_eq_true rfl) rfl ?_
      exact go_sub [2, 3, 4, 5, 1, 0] rfl (gl_X5_agree_41 X ad  2100 (a1, a2, a3, (0 : Int32), (0 : Int32), u8))
    · refine go_aload_n 0 rfl dX5_agree_23 rfl ?_
      refine go_ldc (v := (-1000000001 : Int32)) gw110 dX5_agree_24 ?_
      refine go_callVI (As := fun ad => [.int (-1000000001 : Int32)]) (g_X5_found (-1000000001 : Int32) u6) mv_X5_found clX5 kt_69 gw117 rfl ⟨Nat.le_of_ble_eq_true rfl, Nat.le_of_ble_eq_true rfl⟩ rfl (Nat.le_of_ble_eq_true rfl) dX5_agree_26 (fun r11 u12 => ?_)
      exact go_iret rfl dX5_agree_29
def b_X5_row_44 (ih44 : Int32 × Int32 × Int32 × Int32 × Int32 × Int32 × Uw → Option (Int32 × Uw)) (s : Int32 × Int32 × Int32 × Int32 × Int32 × Int32 × Uw) : Option (Int32 × Uw) :=
  if s.2.2.1 ≤ s.2.2.2.2.2.1 then
  (some (s.2.2.2.1, s.2.2.2.2.2.2))
  else
  (bd (f_X5_agreeAhead s.1 s.2.1 s.2.2.2.2.2.1 s.2.2.2.2.2.2) fun r9 u10 =>
  if r9 = true then
  (nm (s.2.2.2.2.1 + (1 : Int32)) fun x12 =>
  nm (mxI s.2.2.2.1 x12) fun x13 =>
  ih44 (s.1, s.2.1, s.2.2.1, x13, x12, (s.2.2.2.2.2.1 + (1 : Int32)), u10))
  else
  (nm (mxI s.2.2.2.1 (0 : Int32)) fun x11 =>
  ih44 (s.1, s.2.1, s.2.2.1, x11, (0 : Int32), (s.2.2.2.2.2.1 + (1 : Int32)), u10)))
def f_X5_row (a1 : Int32) (a2 : Int32) (a3 : Int32) (u : Uw) : Option (Int32 × Uw) :=
  bd (f_X3_hasBoth 0 a1 a2 u) fun r1 u2 =>
  if r1 = true then
  (bd (f_X5_within a3 (1 : Int32) (400 : Int32) u2) fun r5 u6 =>
  if r5 = true then
  (bd (f_X5_lookAhead a3 u6) fun r7 u8 =>
  lp b_X5_row_44 2100 (a1, a2, a3, (0 : Int32), (0 : Int32), (0 : Int32), u8))
  else
  (bd (f_X5_found (-1000000001 : Int32) u6) fun r14 u15 =>
  some (r14, u15)))
  else
  (bd (f_X5_found (-1000000001 : Int32) u2) fun r3 u4 =>
  some (r3, u4))
set_option maxHeartbeats 4000000 in
set_option maxRecDepth 100000 in
theorem gl_X5_row_44 (X : Cx) (ad : Nat → Nat) : ∀ (n : Nat) (s : Int32 × Int32 × Int32 × Int32 × Int32 × Int32 × Uw), Go X ad mi_X5_row ivI 44 [(0, .ref (ad 69)), (1, .int s.1), (2, .int s.2.1), (3, .int s.2.2.1), (4, .int s.2.2.2.1), (5, .int s.2.2.2.2.1), (6, .int s.2.2.2.2.2.1)] [] s.2.2.2.2.2.2 (lp b_X5_row_44 n s) := by
  refine go_lp (G := fun (s : Int32 × Int32 × Int32 × Int32 × Int32 × Int32 × Uw) o => Go X ad mi_X5_row ivI 44 [(0, .ref (ad 69)), (1, .int s.1), (2, .int s.2.1), (3, .int s.2.2.1), (4, .int s.2.2.2.1), (5, .int s.2.2.2.2.1), (6, .int s.2.2.2.2.2.1)] [] s.2.2.2.2.2.2 o) (fun _ => go_none) (fun ih44 hih44 s => ?_)
  show Go X ad mi_X5_row ivI 44 [(0, .ref (ad 69)), (1, .int s.1), (2, .int s.2.1), (3, .int s.2.2.1), (4, .int s.2.2.2.1), (5, .int s.2.2.2.2.1), (6, .int s.2.2.2.2.2.1)] [] s.2.2.2.2.2.2 (b_X5_row_44 ih44 s)
  unfold b_X5_row_44
  refine go_iload 6 rfl dX5_row_44 ?_
  refine go_iload_n 3 rfl dX5_row_46 rfl ?_
  refine go_icmp_ge (tgt := 86) dX5_row_47 (by decide) ?_ ?_
  · refine go_iload 4 rfl dX5_row_86 ?_
    exact go_iret rfl dX5_row_88
  · refine go_aload_n 0 rfl dX5_row_50 rfl ?_
    refine go_iload_n 1 rfl dX5_row_51 rfl ?_
    refine go_iload_n 2 rfl dX5_row_52 rfl ?_
    refine go_iload 6 rfl dX5_row_53 ?_
    refine go_callVZ (As := fun ad => [.int s.1, .int s.2.1, .int s.2.2.2.2.2.1]) (g_X5_agreeAhead s.1 s.2.1 s.2.2.2.2.2.1 s.2.2.2.2.2.2) mv_X5_agreeAhead clX5 kt_69 gw166 rfl ⟨Nat.le_of_ble_eq_true rfl, Nat.le_of_ble_eq_true rfl⟩ rfl (Nat.le_of_ble_eq_true rfl) dX5_row_55 (fun r9 u10 => ?_)
    refine go_ifz_eq (tgt := 68) dX5_row_58 (by decide) ?_ ?_
    · refine go_iconst (v := (0 : Int32)) dX5_row_68 (by decide) ?_
      refine go_istore (lv' := [(5, .int (0 : Int32)), (0, .ref (ad 69)), (1, .int s.1), (2, .int s.2.1), (3, .int s.2.2.1), (4, .int s.2.2.2.1), (6, .int s.2.2.2.2.2.1)]) dX5_row_69 (Nat.le_of_ble_eq_true rfl) rfl ?_
      refine go_iload 5 rfl dX5_row_71 ?_
      refine go_iload 0 rfl dX5_row_73 ?_
      refine go_max gw167 gw25 gw22 gw26 (Nat.le_of_ble_eq_true rfl) (Nat.le_of_ble_eq_true rfl) dX5_row_75 ?_
      refine go_nm (fun x11 => ?_)
      refine go_istore (lv' := [(4, .int x11), (5, .int (0 : Int32)), (0, .ref (ad 69)), (1, .int s.1), (2, .int s.2.1), (3, .int s.2.2.1), (6, .int s.2.2.2.2.2.1)]) dX5_row_78 (Nat.le_of_ble_eq_true rfl) rfl ?_
      refine go_iinc (v := (s.2.2.2.2.2.1 + (1 : Int32))) (lv' := [(6, .int (s.2.2.2.2.2.1 + (1 : Int32))), (4, .int x11), (5, .int (0 : Int32)), (0, .ref (ad 69)), (1, .int s.1), (2, .int s.2.1), (3, .int s.2.2.1)]) 6 rfl dX5_row_80 rfl (Nat.le_of_ble_eq_true rfl) rfl ?_
      refine go_goto (tgt := 44) dX5_row_83 (by decide) ?_
      exact go_sub [3, 4, 5, 6, 1, 2, 0] rfl (hih44 (s.1, s.2.1, s.2.2.1, x11, (0 : Int32), (s.2.2.2.2.2.1 + (1 : Int32)), u10))
    · refine go_iload 5 rfl dX5_row_61 ?_
      refine go_iconst (v := (1 : Int32)) dX5_row_63 (by decide) ?_
      refine go_iadd dX5_row_64 ?_
      refine go_goto (tgt := 69) dX5_row_65 (by decide) ?_
      refine go_nm (fun x12 => ?_)
      refine go_istore (lv' := [(5, .int x12), (0, .ref (ad 69)), (1, .int s.1), (2, .int s.2.1), (3, .int s.2.2.1), (4, .int s.2.2.2.1), (6, .int s.2.2.2.2.2.1)]) dX5_row_69 (Nat.le_of_ble_eq_true rfl) rfl ?_
      refine go_iload 5 rfl dX5_row_71 ?_
      refine go_iload 0 rfl dX5_row_73 ?_
      refine go_max gw167 gw25 gw22 gw26 (Nat.le_of_ble_eq_true rfl) (Nat.le_of_ble_eq_true rfl) dX5_row_75 ?_
      refine go_nm (fun x13 => ?_)
      refine go_istore (lv' := [(4, .int x13), (5, .int x12), (0, .ref (ad 69)), (1, .int s.1), (2, .int s.2.1), (3, .int s.2.2.1), (6, .int s.2.2.2.2.2.1)]) dX5_row_78 (Nat.le_of_ble_eq_true rfl) rfl ?_
      refine go_iinc (v := (s.2.2.2.2.2.1 + (1 : Int32))) (lv' := [(6, .int (s.2.2.2.2.2.1 + (1 : Int32))), (4, .int x13), (5, .int x12), (0, .ref (ad 69)), (1, .int s.1), (2, .int s.2.1), (3, .int s.2.2.1)]) 6 rfl dX5_row_80 rfl (Nat.le_of_ble_eq_true rfl) rfl ?_
      refine go_goto (tgt := 44) dX5_row_83 (by decide) ?_
      exact go_sub [3, 4, 5, 6, 1, 2, 0] rfl (hih44 (s.1, s.2.1, s.2.2.1, x13, x12, (s.2.2.2.2.2.1 + (1 : Int32)), u10))
set_option maxHeartbeats 4000000 in
set_option maxRecDepth 100000 in
theorem g_X5_row (a1 : Int32) (a2 : Int32) (a3 : Int32) (u : Uw) : ∀ l, Con l yX5_row mi_X5_row ivI (fun ad => [.ref (ad 69), .int a1, .int a2, .int a3]) u (f_X5_row a1 a2 a3 u) := by
  refine con_of (by decide) rfl (fun _ => Nat.le_of_ble_eq_true rfl) (fun X ad => ?_)
  show Go X ad mi_X5_row ivI 0 [(0, .ref (ad 69)), (1, .int a1), (2, .int a2), (3, .int a3)] [] u (f_X5_row a1 a2 a3 u)
  unfold f_X5_row
  refine go_aload_n 0 rfl dX5_row_0 rfl ?_
  refine go_getR clX5 kt_69 0 (Nat.le_of_ble_eq_true rfl) (f := 0) (fun _ => rfl) gw113 dX5_row_1 ?_
  refine go_iload_n 1 rfl dX5_row_4 rfl ?_
  refine go_iload_n 2 rfl dX5_row_5 rfl ?_
  refine go_callVZ (As := fun ad => [.int a1, .int a2]) (g_X3_hasBoth 0 a1 a2 u) mv_X3_hasBoth clX3 kt_0 gw165 rfl ⟨Nat.le_of_ble_eq_true rfl, Nat.le_of_ble_eq_true rfl⟩ rfl (Nat.le_of_ble_eq_true rfl) dX5_row_6 (fun r1 u2 => ?_)
  refine go_ifz_eq (tgt := 23) dX5_row_9 (by decide) ?_ ?_
  · refine go_aload_n 0 rfl dX5_row_23 rfl ?_
    refine go_ldc (v := (-1000000001 : Int32)) gw110 dX5_row_24 ?_
    refine go_callVI (As := fun ad => [.int (-1000000001 : Int32)]) (g_X5_found (-1000000001 : Int32) u2) mv_X5_found clX5 kt_69 gw117 rfl ⟨Nat.le_of_ble_eq_true rfl, Nat.le_of_ble_eq_true rfl⟩ rfl (Nat.le_of_ble_eq_true rfl) dX5_row_26 (fun r3 u4 => ?_)
    exact go_iret rfl dX5_row_29
  · refine go_iload_n 3 rfl dX5_row_12 rfl ?_
    refine go_iconst (v := (1 : Int32)) dX5_row_13 (by decide) ?_
    refine go_sipush (v := (400 : Int32)) dX5_row_14 (by decide) ?_
    refine go_callSZ (As := fun ad => [.int a3, .int (1 : Int32), .int (400 : Int32)]) (g_X5_within a3 (1 : Int32) (400 : Int32) u2) mo_X5_within gw85 gw125 rfl ⟨Nat.le_of_ble_eq_true rfl, Nat.le_of_ble_eq_true rfl⟩ rfl (Nat.le_of_ble_eq_true rfl) dX5_row_17 (fun r5 u6 => ?_)
    refine go_ifz_ne (tgt := 30) dX5_row_20 (by decide) ?_ ?_
    · refine go_aload_n 0 rfl dX5_row_30 rfl ?_
      refine go_iload_n 3 rfl dX5_row_31 rfl ?_
      refine go_callVV (As := fun ad => [.int a3]) (g_X5_lookAhead a3 u6) mv_X5_lookAhead clX5 kt_69 gw160 rfl ⟨Nat.le_of_ble_eq_true rfl, Nat.le_of_ble_eq_true rfl⟩ rfl (Nat.le_of_ble_eq_true rfl) dX5_row_32 (fun r7 u8 => ?_)
      refine go_iconst (v := (0 : Int32)) dX5_row_35 (by decide) ?_
      refine go_istore (lv' := [(4, .int (0 : Int32)), (0, .ref (ad 69)), (1, .int a1), (2, .int a2), (3, .int a3)]) dX5_row_36 (Nat.le_of_ble_eq_true rfl) rfl ?_
      refine go_iconst (v := (0 : Int32)) dX5_row_38 (by decide) ?_
      refine go_istore (lv' := [(5, .int (0 : Int32)), (4, .int (0 : Int32)), (0, .ref (ad 69)), (1, .int a1), (2, .int a2), (3, .int a3)]) dX5_row_39 (Nat.le_of_ble_eq_true rfl) rfl ?_
      refine go_iconst (v := (0 : Int32)) dX5_row_41 (by decide) ?_
      refine go_istore (lv' := [(6, .int (0 : Int32)), (5, .int (0 : Int32)), (4, .int (0 : Int32)), (0, .ref (ad 69)), (1, .int a1), (2, .int a2), (3, .int a3)]) dX5_row_42 (Nat.le_of_ble_eq_true rfl) rfl ?_
      exact go_sub [3, 4, 5, 6, 2, 1, 0] rfl (gl_X5_row_44 X ad  2100 (a1, a2, a3, (0 : Int32), (0 : Int32), (0 : Int32), u8))
    · refine go_aload_n 0 rfl dX5_row_23 rfl ?_
      refine go_ldc (v := (-1000000001 : Int32)) gw110 dX5_row_24 ?_
      refine go_callVI (As := fun ad => [.int (-1000000001 : Int32)]) (g_X5_found (-1000000001 : Int32) u6) mv_X5_found clX5 kt_69 gw117 rfl ⟨Nat.le_of_ble_eq_true rfl, Nat.le_of_ble_eq_true rfl⟩ rfl (Nat.le_of_ble_eq_true rfl) dX5_row_26 (fun r14 u15 => ?_)
      exact go_iret rfl dX5_row_29
def b_X5_meet_28 (ih28 : Int32 × Int32 × Uw → Option (Int32 × Uw)) (s : Int32 × Int32 × Uw) : Option (Int32 × Uw) :=
  if (2000 : Int32) < s.2.1 then
  (bd (f_X5_found (-1000000004 : Int32) s.2.2) fun r3 u4 =>
  some (r3, u4))
  else
  (bd (f_X3_holySet 0 ((s.2.2.1 0 2) + s.2.1) s.2.2) fun r5 u6 =>
  if r5 = s.1 then
  (some (((u6.1 0 2) + s.2.1), u6))
  else
  (ih28 (s.1, (s.2.1 + (1 : Int32)), u6)))
def f_X5_meet (a1 : Int32) (u : Uw) : Option (Int32 × Uw) :=
  bd (f_X5_within a1 (1 : Int32) (((1 : Int32) <<< ((u.1 0 0) &&& 31)) - (1 : Int32)) u) fun r1 u2 =>
  if r1 = true then
  (lp b_X5_meet_28 2100 (a1, (0 : Int32), u2))
  else
  (bd (f_X5_found (-1000000001 : Int32) u2) fun r7 u8 =>
  some (r7, u8))
set_option maxHeartbeats 4000000 in
set_option maxRecDepth 100000 in
theorem gl_X5_meet_28 (X : Cx) (ad : Nat → Nat) : ∀ (n : Nat) (s : Int32 × Int32 × Uw), Go X ad mi_X5_meet ivI 28 [(0, .ref (ad 69)), (1, .int s.1), (2, .int s.2.1)] [] s.2.2 (lp b_X5_meet_28 n s) := by
  refine go_lp (G := fun (s : Int32 × Int32 × Uw) o => Go X ad mi_X5_meet ivI 28 [(0, .ref (ad 69)), (1, .int s.1), (2, .int s.2.1)] [] s.2.2 o) (fun _ => go_none) (fun ih28 hih28 s => ?_)
  show Go X ad mi_X5_meet ivI 28 [(0, .ref (ad 69)), (1, .int s.1), (2, .int s.2.1)] [] s.2.2 (b_X5_meet_28 ih28 s)
  unfold b_X5_meet_28
  refine go_iload_n 2 rfl dX5_meet_28 rfl ?_
  refine go_sipush (v := (2000 : Int32)) dX5_meet_29 (by decide) ?_
  refine go_icmp_gt (tgt := 71) dX5_meet_32 (by decide) ?_ ?_
  · refine go_aload_n 0 rfl dX5_meet_71 rfl ?_
    refine go_ldc (v := (-1000000004 : Int32)) gw163 dX5_meet_72 ?_
    refine go_callVI (As := fun ad => [.int (-1000000004 : Int32)]) (g_X5_found (-1000000004 : Int32) s.2.2) mv_X5_found clX5 kt_69 gw117 rfl ⟨Nat.le_of_ble_eq_true rfl, Nat.le_of_ble_eq_true rfl⟩ rfl (Nat.le_of_ble_eq_true rfl) dX5_meet_74 (fun r3 u4 => ?_)
    exact go_iret rfl dX5_meet_77
  · refine go_aload_n 0 rfl dX5_meet_35 rfl ?_
    refine go_getR clX5 kt_69 0 (Nat.le_of_ble_eq_true rfl) (f := 0) (fun _ => rfl) gw113 dX5_meet_36 ?_
    refine go_aload_n 0 rfl dX5_meet_39 rfl ?_
    refine go_getR clX5 kt_69 0 (Nat.le_of_ble_eq_true rfl) (f := 0) (fun _ => rfl) gw113 dX5_meet_40 ?_
    refine go_getILN clX3 kt_0 0 (Nat.le_of_ble_eq_true rfl) (c := 2) (fun _ => rfl) kr_0 gn142 dX5_meet_43 ?_
    refine go_iload_n 2 rfl dX5_meet_46 rfl ?_
    refine go_iadd dX5_meet_47 ?_
    refine go_callVI (As := fun ad => [.int ((s.2.2.1 0 2) + s.2.1)]) (g_X3_holySet 0 ((s.2.2.1 0 2) + s.2.1) s.2.2) mv_X3_holySet clX3 kt_0 gw156 rfl ⟨Nat.le_of_ble_eq_true rfl, Nat.le_of_ble_eq_true rfl⟩ rfl (Nat.le_of_ble_eq_true rfl) dX5_meet_48 (fun r5 u6 => ?_)
    refine go_iload_n 1 rfl dX5_meet_51 rfl ?_
    refine go_icmp_ne (tgt := 65) dX5_meet_52 (by decide) ?_ ?_
    · refine go_iinc (v := (s.2.1 + (1 : Int32))) (lv' := [(2, .int (s.2.1 + (1 : Int32))), (0, .ref (ad 69)), (1, .int s.1)]) 2 rfl dX5_meet_65 rfl (Nat.le_of_ble_eq_true rfl) rfl ?_
      refine go_goto (tgt := 28) dX5_meet_68 (by decide) ?_
      exact go_sub [1, 2, 0] rfl (hih28 (s.1, (s.2.1 + (1 : Int32)), u6))
    · refine go_aload_n 0 rfl dX5_meet_55 rfl ?_
      refine go_getR clX5 kt_69 0 (Nat.le_of_ble_eq_true rfl) (f := 0) (fun _ => rfl) gw113 dX5_meet_56 ?_
      refine go_getILN clX3 kt_0 0 (Nat.le_of_ble_eq_true rfl) (c := 2) (fun _ => rfl) kr_0 gn142 dX5_meet_59 ?_
      refine go_iload_n 2 rfl dX5_meet_62 rfl ?_
      refine go_iadd dX5_meet_63 ?_
      exact go_iret rfl dX5_meet_64
set_option maxHeartbeats 4000000 in
set_option maxRecDepth 100000 in
theorem g_X5_meet (a1 : Int32) (u : Uw) : ∀ l, Con l yX5_meet mi_X5_meet ivI (fun ad => [.ref (ad 69), .int a1]) u (f_X5_meet a1 u) := by
  refine con_of (by decide) rfl (fun _ => Nat.le_of_ble_eq_true rfl) (fun X ad => ?_)
  show Go X ad mi_X5_meet ivI 0 [(0, .ref (ad 69)), (1, .int a1)] [] u (f_X5_meet a1 u)
  unfold f_X5_meet
  refine go_iload_n 1 rfl dX5_meet_0 rfl ?_
  refine go_iconst (v := (1 : Int32)) dX5_meet_1 (by decide) ?_
  refine go_iconst (v := (1 : Int32)) dX5_meet_2 (by decide) ?_
  refine go_aload_n 0 rfl dX5_meet_3 rfl ?_
  refine go_getR clX5 kt_69 0 (Nat.le_of_ble_eq_true rfl) (f := 0) (fun _ => rfl) gw113 dX5_meet_4 ?_
  refine go_getILN clX3 kt_0 5 (Nat.le_of_ble_eq_true rfl) (c := 0) (fun _ => rfl) kr_0 gn114 dX5_meet_7 ?_
  refine go_ishl dX5_meet_10 ?_
  refine go_iconst (v := (1 : Int32)) dX5_meet_11 (by decide) ?_
  refine go_isub dX5_meet_12 ?_
  refine go_callSZ (As := fun ad => [.int a1, .int (1 : Int32), .int (((1 : Int32) <<< ((u.1 0 0) &&& 31)) - (1 : Int32))]) (g_X5_within a1 (1 : Int32) (((1 : Int32) <<< ((u.1 0 0) &&& 31)) - (1 : Int32)) u) mo_X5_within gw85 gw125 rfl ⟨Nat.le_of_ble_eq_true rfl, Nat.le_of_ble_eq_true rfl⟩ rfl (Nat.le_of_ble_eq_true rfl) dX5_meet_13 (fun r1 u2 => ?_)
  refine go_ifz_ne (tgt := 26) dX5_meet_16 (by decide) ?_ ?_
  · refine go_iconst (v := (0 : Int32)) dX5_meet_26 (by decide) ?_
    refine go_istore_n (lv' := [(2, .int (0 : Int32)), (0, .ref (ad 69)), (1, .int a1)]) dX5_meet_27 rfl (Nat.le_of_ble_eq_true rfl) rfl ?_
    exact go_sub [1, 2, 0] rfl (gl_X5_meet_28 X ad  2100 (a1, (0 : Int32), u2))
  · refine go_aload_n 0 rfl dX5_meet_19 rfl ?_
    refine go_ldc (v := (-1000000001 : Int32)) gw110 dX5_meet_20 ?_
    refine go_callVI (As := fun ad => [.int (-1000000001 : Int32)]) (g_X5_found (-1000000001 : Int32) u2) mv_X5_found clX5 kt_69 gw117 rfl ⟨Nat.le_of_ble_eq_true rfl, Nat.le_of_ble_eq_true rfl⟩ rfl (Nat.le_of_ble_eq_true rfl) dX5_meet_22 (fun r7 u8 => ?_)
    exact go_iret rfl dX5_meet_25
