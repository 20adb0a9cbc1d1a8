/-! methods: what each does to the world, and that its bytecode does so (laid by wip/whole/gen) -/
def f_J0_isLatin1_aae02 (a0 : Nat) (u : Uw) : Option (Bool × Uw) :=
  ck (isS a0) <|
  some (true, u)
set_option maxHeartbeats 4000000 in
set_option maxRecDepth 100000 in
theorem g_J0_isLatin1_aae02 (a0 : Nat) (u : Uw) : ∀ l, Con l yJ0_isLatin1_aae02 mi_J0_isLatin1_aae02 ivZ (fun ad => [.ref (ad a0)]) u (f_J0_isLatin1_aae02 a0 u) := by
  refine con_of (by decide) rfl (fun _ => Nat.le_of_ble_eq_true rfl) (fun X ad => ?_)
  show Go X ad mi_J0_isLatin1_aae02 ivZ 0 [(0, .ref (ad a0))] [] u (f_J0_isLatin1_aae02 a0 u)
  unfold f_J0_isLatin1_aae02
  refine go_getcs gw71 dJ0_isLatin1_aae02_0 ?_
  refine go_if_eq_f (tgt := 17) (by decide) dJ0_isLatin1_aae02_3 (by decide) ?_
  refine go_aload_n 0 rfl dJ0_isLatin1_aae02_6 rfl ?_
  refine go_ck (fun h1 => ?_)
  refine go_getsc h1 gw72 dJ0_isLatin1_aae02_7 ?_
  refine go_if_ne_f (tgt := 17) (by decide) dJ0_isLatin1_aae02_10 (by decide) ?_
  refine go_iconst (v := (1 : Int32)) dJ0_isLatin1_aae02_13 (by decide) ?_
  refine go_goto (tgt := 18) dJ0_isLatin1_aae02_14 (by decide) ?_
  exact go_zret (b := true) rfl dJ0_isLatin1_aae02_18
def f_J3_checkIndex_8e157 (a0 : Int32) (a1 : Int32) (u : Uw) : Option (Int32 × Uw) :=
  if a0 < 0 then
  (none)
  else
  (if a0 < a1 then
  (some (a0, u))
  else
  (none))
set_option maxHeartbeats 4000000 in
set_option maxRecDepth 100000 in
theorem g_J3_checkIndex_8e157 (a0 : Int32) (a1 : Int32) (a2 : (Option Nat)) (u : Uw) : ∀ l, Con l yJ3_checkIndex_8e157 mi_J3_checkIndex_8e157 ivI (fun ad => [.int a0, .int a1, va_rf a2]) u (f_J3_checkIndex_8e157 a0 a1 u) := by
  cases a2 with
  | none =>
    refine con_of (by decide) rfl (fun _ => Nat.le_of_ble_eq_true rfl) (fun X ad => ?_)
    refine go_sub [0, 1] (lv' := [(0, .int a0), (1, .int a1)]) rfl ?_
    unfold f_J3_checkIndex_8e157
    refine go_iload_n 0 rfl dJ3_checkIndex_8e157_0 rfl ?_
    refine go_if_lt (tgt := 9) dJ3_checkIndex_8e157_1 (by decide) ?_ ?_
    · exact go_none
    · refine go_iload_n 0 rfl dJ3_checkIndex_8e157_4 rfl ?_
      refine go_iload_n 1 rfl dJ3_checkIndex_8e157_5 rfl ?_
      refine go_icmp_lt (tgt := 16) dJ3_checkIndex_8e157_6 (by decide) ?_ ?_
      · refine go_iload_n 0 rfl dJ3_checkIndex_8e157_16 rfl ?_
        exact go_iret rfl dJ3_checkIndex_8e157_17
      · exact go_none
  | some w =>
    refine con_of (by decide) rfl (fun _ => Nat.le_of_ble_eq_true rfl) (fun X ad => ?_)
    refine go_sub [0, 1] (lv' := [(0, .int a0), (1, .int a1)]) rfl ?_
    unfold f_J3_checkIndex_8e157
    refine go_iload_n 0 rfl dJ3_checkIndex_8e157_0 rfl ?_
    refine go_if_lt (tgt := 9) dJ3_checkIndex_8e157_1 (by decide) ?_ ?_
    · exact go_none
    · refine go_iload_n 0 rfl dJ3_checkIndex_8e157_4 rfl ?_
      refine go_iload_n 1 rfl dJ3_checkIndex_8e157_5 rfl ?_
      refine go_icmp_lt (tgt := 16) dJ3_checkIndex_8e157_6 (by decide) ?_ ?_
      · refine go_iload_n 0 rfl dJ3_checkIndex_8e157_16 rfl ?_
        exact go_iret rfl dJ3_checkIndex_8e157_17
      · exact go_none
def f_J0_checkIndex_df160 (a0 : Int32) (a1 : Int32) (u : Uw) : Option (Unit × Uw) :=
  bd (f_J3_checkIndex_8e157 a0 a1 u) fun r2 u3 =>
  some ((), u3)
set_option maxHeartbeats 4000000 in
set_option maxRecDepth 100000 in
theorem g_J0_checkIndex_df160 (a0 : Int32) (a1 : Int32) (u : Uw) : ∀ l, Con l yJ0_checkIndex_df160 mi_J0_checkIndex_df160 ivV (fun ad => [.int a0, .int a1]) u (f_J0_checkIndex_df160 a0 a1 u) := by
  refine con_of (by decide) rfl (fun _ => Nat.le_of_ble_eq_true rfl) (fun X ad => ?_)
  show Go X ad mi_J0_checkIndex_df160 ivV 0 [(0, .int a0), (1, .int a1)] [] u (f_J0_checkIndex_df160 a0 a1 u)
  unfold f_J0_checkIndex_df160
  refine go_iload_n 0 rfl dJ0_checkIndex_df160_0 rfl ?_
  refine go_iload_n 1 rfl dJ0_checkIndex_df160_1 rfl ?_
  refine go_getfm gw75 dJ0_checkIndex_df160_2 (fun q1 => ?_)
  refine go_callSI (As := fun ad => [.int a0, .int a1, va_rf q1]) (g_J3_checkIndex_8e157 a0 a1 q1 u) mo_J3_checkIndex_8e157 gw76 gw77 rfl ⟨Nat.le_of_ble_eq_true rfl, Nat.le_of_ble_eq_true rfl⟩ rfl (Nat.le_of_ble_eq_true rfl) dJ0_checkIndex_df160_5 (fun r2 u3 => ?_)
  refine go_pop dJ0_checkIndex_df160_8 rfl ?_
  exact go_vret rfl dJ0_checkIndex_df160_9
def f_J1_charAt_3b067 (a0 : Nat) (a1 : Int32) (u : Uw) : Option (UInt16 × Uw) :=
  ck (isV a0) <|
  bd (f_J0_checkIndex_df160 a1 (Int32.ofNat (stL.getD (a0 - 130) 0)) u) fun r2 u3 =>
  ck (inb a1 (stL.getD (a0 - 130) 0)) <|
  nm ((stB.getD (a0 - 130) []).getD a1.toNatClampNeg 0) fun x5 =>
  some ((x5 &&& (255 : Int32)).toUInt32.toUInt16, u3)
set_option maxHeartbeats 4000000 in
set_option maxRecDepth 100000 in
theorem g_J1_charAt_3b067 (a0 : Nat) (a1 : Int32) (u : Uw) : ∀ l, Con l yJ1_charAt_3b067 mi_J1_charAt_3b067 ivC (fun ad => [.ref (ad a0), .int a1]) u (f_J1_charAt_3b067 a0 a1 u) := by
  refine con_of (by decide) rfl (fun _ => Nat.le_of_ble_eq_true rfl) (fun X ad => ?_)
  show Go X ad mi_J1_charAt_3b067 ivC 0 [(0, .ref (ad a0)), (1, .int a1)] [] u (f_J1_charAt_3b067 a0 a1 u)
  unfold f_J1_charAt_3b067
  refine go_iload_n 1 rfl dJ1_charAt_3b067_0 rfl ?_
  refine go_aload_n 0 rfl dJ1_charAt_3b067_1 rfl ?_
  refine go_ck (fun h1 => ?_)
  refine go_alenV h1 dJ1_charAt_3b067_2 ?_
  refine go_callSV (As := fun ad => [.int a1, .int (Int32.ofNat (stL.getD (a0 - 130) 0))]) (g_J0_checkIndex_df160 a1 (Int32.ofNat (stL.getD (a0 - 130) 0)) u) mo_J0_checkIndex_df160 gw78 gw79 rfl ⟨Nat.le_of_ble_eq_true rfl, Nat.le_of_ble_eq_true rfl⟩ rfl (Nat.le_of_ble_eq_true rfl) dJ1_charAt_3b067_3 (fun r2 u3 => ?_)
  refine go_aload_n 0 rfl dJ1_charAt_3b067_6 rfl ?_
  refine go_iload_n 1 rfl dJ1_charAt_3b067_7 rfl ?_
  refine go_ck (fun h4 => ?_)
  refine go_baldV h1 h4 dJ1_charAt_3b067_8 ?_
  refine go_nm (fun x5 => ?_)
  refine go_sipush (v := (255 : Int32)) dJ1_charAt_3b067_9 (by decide) ?_
  refine go_iand dJ1_charAt_3b067_12 ?_
  refine go_i2c dJ1_charAt_3b067_13 ?_
  exact go_cret2 rfl dJ1_charAt_3b067_14
def f_J0_charAt_5068e (a0 : Nat) (a1 : Int32) (u : Uw) : Option (UInt16 × Uw) :=
  ck (isS a0) <|
  bd (f_J0_isLatin1_aae02 a0 u) fun r2 u3 =>
  if r2 = true then
  (bd (f_J1_charAt_3b067 (a0 + 20) a1 u3) fun r4 u5 =>
  some (r4, u5))
  else
  (none)
set_option maxHeartbeats 4000000 in
set_option maxRecDepth 100000 in
theorem g_J0_charAt_5068e (a0 : Nat) (a1 : Int32) (u : Uw) : ∀ l, Con l yJ0_charAt_5068e mi_J0_charAt_5068e ivC (fun ad => [.ref (ad a0), .int a1]) u (f_J0_charAt_5068e a0 a1 u) := by
  refine con_of (by decide) rfl (fun _ => Nat.le_of_ble_eq_true rfl) (fun X ad => ?_)
  show Go X ad mi_J0_charAt_5068e ivC 0 [(0, .ref (ad a0)), (1, .int a1)] [] u (f_J0_charAt_5068e a0 a1 u)
  unfold f_J0_charAt_5068e
  refine go_aload_n 0 rfl dJ0_charAt_5068e_0 rfl ?_
  refine go_ck (fun h1 => ?_)
  refine go_callTZ (As := fun ad => []) (g_J0_isLatin1_aae02 a0 u) mv_J0_isLatin1_aae02 h1 gw80 rfl ⟨Nat.le_of_ble_eq_true rfl, Nat.le_of_ble_eq_true rfl⟩ rfl (Nat.le_of_ble_eq_true rfl) dJ0_charAt_5068e_1 (fun r2 u3 => ?_)
  refine go_ifz_eq (tgt := 16) dJ0_charAt_5068e_4 (by decide) ?_ ?_
  · refine go_aload_n 0 rfl dJ0_charAt_5068e_16 rfl ?_
    refine go_getsv h1 gw73 dJ0_charAt_5068e_17 ?_
    refine go_iload_n 1 rfl dJ0_charAt_5068e_20 rfl ?_
    exact go_none
  · refine go_aload_n 0 rfl dJ0_charAt_5068e_7 rfl ?_
    refine go_getsv h1 gw73 dJ0_charAt_5068e_8 ?_
    refine go_iload_n 1 rfl dJ0_charAt_5068e_11 rfl ?_
    refine go_callSC (As := fun ad => [.ref (ad (a0 + 20)), .int a1]) (g_J1_charAt_3b067 (a0 + 20) a1 u3) mo_J1_charAt_3b067 gw81 gw82 rfl ⟨Nat.le_of_ble_eq_true rfl, Nat.le_of_ble_eq_true rfl⟩ rfl (Nat.le_of_ble_eq_true rfl) dJ0_charAt_5068e_12 (fun r4 u5 => ?_)
    exact go_cret rfl dJ0_charAt_5068e_15
def b_X4_isWord_28 (ih28 : Nat × Int32 × Uw → Option (Bool × Uw)) (s : Nat × Int32 × Uw) : Option (Bool × Uw) :=
  ck (isS s.1) <|
  bd (f_J0_length_8abf5 s.1 s.2.2) fun r5 u6 =>
  if r5 ≤ s.2.1 then
  (some (true, u6))
  else
  (bd (f_X4_byteAt ((u6.1 7 2) + s.2.1) u6) fun r7 u8 =>
  bd (f_J0_charAt_5068e s.1 s.2.1 u8) fun r9 u10 =>
  if r7 = (cI r9) then
  (ih28 (s.1, (s.2.1 + (1 : Int32)), u10))
  else
  (some (false, u10)))
def f_X4_isWord (a1 : Nat) (u : Uw) : Option (Bool × Uw) :=
  if (u.1 7 1) = (1 : Int32) then
  (ck (isS a1) <|
  bd (f_J0_length_8abf5 a1 u) fun r2 u3 =>
  if ((u.1 7 3) - (u.1 7 2)) = r2 then
  (lp b_X4_isWord_28 2100 (a1, (0 : Int32), u3))
  else
  (some (false, u3)))
  else
  (some (false, u))
set_option maxHeartbeats 4000000 in
set_option maxRecDepth 100000 in
theorem gl_X4_isWord_28 (X : Cx) (ad : Nat → Nat) : ∀ (n : Nat) (s : Nat × Int32 × Uw), Go X ad mi_X4_isWord ivZ 28 [(0, .ref (ad 70)), (1, .ref (ad s.1)), (2, .int s.2.1)] [] s.2.2 (lp b_X4_isWord_28 n s) := by
  refine go_lp (G := fun (s : Nat × Int32 × Uw) o => Go X ad mi_X4_isWord ivZ 28 [(0, .ref (ad 70)), (1, .ref (ad s.1)), (2, .int s.2.1)] [] s.2.2 o) (fun _ => go_none) (fun ih28 hih28 s => ?_)
  show Go X ad mi_X4_isWord ivZ 28 [(0, .ref (ad 70)), (1, .ref (ad s.1)), (2, .int s.2.1)] [] s.2.2 (b_X4_isWord_28 ih28 s)
  unfold b_X4_isWord_28
  refine go_iload_n 2 rfl dX4_isWord_28 rfl ?_
  refine go_aload_n 1 rfl dX4_isWord_29 rfl ?_
  refine go_ck (fun h4 => ?_)
  refine go_callTI (As := fun ad => []) (g_J0_length_8abf5 s.1 s.2.2) mv_J0_length_8abf5 h4 gw83 rfl ⟨Nat.le_of_ble_eq_true rfl, Nat.le_of_ble_eq_true rfl⟩ rfl (Nat.le_of_ble_eq_true rfl) dX4_isWord_30 (fun r5 u6 => ?_)
  refine go_icmp_ge (tgt := 62) dX4_isWord_33 (by decide) ?_ ?_
  · refine go_iconst (v := (1 : Int32)) dX4_isWord_62 (by decide) ?_
    exact go_zret (b := true) rfl dX4_isWord_63
  · refine go_aload_n 0 rfl dX4_isWord_36 rfl ?_
    refine go_aload_n 0 rfl dX4_isWord_37 rfl ?_
    refine go_getIL clX4 kt_70 4 (Nat.le_of_ble_eq_true rfl) (c := 2) (fun _ => rfl) kr_70 gw62 dX4_isWord_38 ?_
    refine go_iload_n 2 rfl dX4_isWord_41 rfl ?_
    refine go_iadd dX4_isWord_42 ?_
    refine go_callVI (As := fun ad => [.int ((u6.1 7 2) + s.2.1)]) (g_X4_byteAt ((u6.1 7 2) + s.2.1) u6) mv_X4_byteAt clX4 kt_70 gw63 rfl ⟨Nat.le_of_ble_eq_true rfl, Nat.le_of_ble_eq_true rfl⟩ rfl (Nat.le_of_ble_eq_true rfl) dX4_isWord_43 (fun r7 u8 => ?_)
    refine go_aload_n 1 rfl dX4_isWord_46 rfl ?_
    refine go_iload_n 2 rfl dX4_isWord_47 rfl ?_
    refine go_callTC (As := fun ad => [.int s.2.1]) (g_J0_charAt_5068e s.1 s.2.1 u8) mv_J0_charAt_5068e h4 gw84 rfl ⟨Nat.le_of_ble_eq_true rfl, Nat.le_of_ble_eq_true rfl⟩ rfl (Nat.le_of_ble_eq_true rfl) dX4_isWord_48 (fun r9 u10 => ?_)
    refine go_icmp_eq (tgt := 56) dX4_isWord_51 (by decide) ?_ ?_
    · refine go_iinc (v := (s.2.1 + (1 : Int32))) (lv' := [(2, .int (s.2.1 + (1 : Int32))), (0, .ref (ad 70)), (1, .ref (ad s.1))]) 2 rfl dX4_isWord_56 rfl (Nat.le_of_ble_eq_true rfl) rfl ?_
      refine go_goto (tgt := 28) dX4_isWord_59 (by decide) ?_
      exact go_sub [1, 2, 0] rfl (hih28 (s.1, (s.2.1 + (1 : Int32)), u10))
    · refine go_iconst (v := (0 : Int32)) dX4_isWord_54 (by decide) ?_
      exact go_zret (b := false) rfl dX4_isWord_55
set_option maxHeartbeats 4000000 in
set_option maxRecDepth 100000 in
theorem g_X4_isWord (a1 : Nat) (u : Uw) : ∀ l, Con l yX4_isWord mi_X4_isWord ivZ (fun ad => [.ref (ad 70), .ref (ad a1)]) u (f_X4_isWord a1 u) := by
  refine con_of (by decide) rfl (fun _ => Nat.le_of_ble_eq_true rfl) (fun X ad => ?_)
  show Go X ad mi_X4_isWord ivZ 0 [(0, .ref (ad 70)), (1, .ref (ad a1))] [] u (f_X4_isWord a1 u)
  unfold f_X4_isWord
  refine go_aload_n 0 rfl dX4_isWord_0 rfl ?_
  refine go_getIL clX4 kt_70 3 (Nat.le_of_ble_eq_true rfl) (c := 1) (fun _ => rfl) kr_70 gw68 dX4_isWord_1 ?_
  refine go_iconst (v := (1 : Int32)) dX4_isWord_4 (by decide) ?_
  refine go_icmp_ne (tgt := 24) dX4_isWord_5 (by decide) ?_ ?_
  · refine go_iconst (v := (0 : Int32)) dX4_isWord_24 (by decide) ?_
    exact go_zret (b := false) rfl dX4_isWord_25
  · refine go_aload_n 0 rfl dX4_isWord_8 rfl ?_
    refine go_getIL clX4 kt_70 5 (Nat.le_of_ble_eq_true rfl) (c := 3) (fun _ => rfl) kr_70 gw61 dX4_isWord_9 ?_
    refine go_aload_n 0 rfl dX4_isWord_12 rfl ?_
    refine go_getIL clX4 kt_70 4 (Nat.le_of_ble_eq_true rfl) (c := 2) (fun _ => rfl) kr_70 gw62 dX4_isWord_13 ?_
    refine go_isub dX4_isWord_16 ?_
    refine go_aload_n 1 rfl dX4_isWord_17 rfl ?_
    refine go_ck (fun h1 => ?_)
    refine go_callTI (As := fun ad => []) (g_J0_length_8abf5 a1 u) mv_J0_length_8abf5 h1 gw83 rfl ⟨Nat.le_of_ble_eq_true rfl, Nat.le_of_ble_eq_true rfl⟩ rfl (Nat.le_of_ble_eq_true rfl) dX4_isWord_18 (fun r2 u3 => ?_)
    refine go_icmp_eq (tgt := 26) dX4_isWord_21 (by decide) ?_ ?_
    · refine go_iconst (v := (0 : Int32)) dX4_isWord_26 (by decide) ?_
      refine go_istore_n (lv' := [(2, .int (0 : Int32)), (0, .ref (ad 70)), (1, .ref (ad a1))]) dX4_isWord_27 rfl (Nat.le_of_ble_eq_true rfl) rfl ?_
      exact go_sub [1, 2, 0] rfl (gl_X4_isWord_28 X ad  2100 (a1, (0 : Int32), u3))
    · refine go_iconst (v := (0 : Int32)) dX4_isWord_24 (by decide) ?_
      exact go_zret (b := false) rfl dX4_isWord_25
def f_X5_within (a0 : Int32) (a1 : Int32) (a2 : Int32) (u : Uw) : Option (Bool × Uw) :=
  if a0 < a1 then
  (some (false, u))
  else
  (if a2 < a0 then
  (some (false, u))
  else
  (some (true, u)))
set_option maxHeartbeats 4000000 in
set_option maxRecDepth 100000 in
theorem g_X5_within (a0 : Int32) (a1 : Int32) (a2 : Int32) (u : Uw) : ∀ l, Con l yX5_within mi_X5_within ivZ (fun ad => [.int a0, .int a1, .int a2]) u (f_X5_within a0 a1 a2 u) := by
  refine con_of (by decide) rfl (fun _ => Nat.le_of_ble_eq_true rfl) (fun X ad => ?_)
  show Go X ad mi_X5_within ivZ 0 [(0, .int a0), (1, .int a1), (2, .int a2)] [] u (f_X5_within a0 a1 a2 u)
  unfold f_X5_within
  refine go_iload_n 0 rfl dX5_within_0 rfl ?_
  refine go_iload_n 1 rfl dX5_within_1 rfl ?_
  refine go_icmp_lt (tgt := 14) dX5_within_2 (by decide) ?_ ?_
  · refine go_iconst (v := (0 : Int32)) dX5_within_14 (by decide) ?_
    exact go_zret (b := false) rfl dX5_within_15
  · refine go_iload_n 0 rfl dX5_within_5 rfl ?_
    refine go_iload_n 2 rfl dX5_within_6 rfl ?_
    refine go_icmp_gt (tgt := 14) dX5_within_7 (by decide) ?_ ?_
    · refine go_iconst (v := (0 : Int32)) dX5_within_14 (by decide) ?_
      exact go_zret (b := false) rfl dX5_within_15
    · refine go_iconst (v := (1 : Int32)) dX5_within_10 (by decide) ?_
      refine go_goto (tgt := 15) dX5_within_11 (by decide) ?_
      exact go_zret (b := true) rfl dX5_within_15
def f_X4_isNumber (a1 : Int32) (a2 : Int32) (u : Uw) : Option (Bool × Uw) :=
  if (u.1 7 1) = (2 : Int32) then
  (bd (f_X5_within (u.1 7 4) a1 a2 u) fun r1 u2 =>
  if r1 = true then
  (some (true, u2))
  else
  (some (false, u2)))
  else
  (some (false, u))
set_option maxHeartbeats 4000000 in
set_option maxRecDepth 100000 in
theorem g_X4_isNumber (a1 : Int32) (a2 : Int32) (u : Uw) : ∀ l, Con l yX4_isNumber mi_X4_isNumber ivZ (fun ad => [.ref (ad 70), .int a1, .int a2]) u (f_X4_isNumber a1 a2 u) := by
  refine con_of (by decide) rfl (fun _ => Nat.le_of_ble_eq_true rfl) (fun X ad => ?_)
  show Go X ad mi_X4_isNumber ivZ 0 [(0, .ref (ad 70)), (1, .int a1), (2, .int a2)] [] u (f_X4_isNumber a1 a2 u)
  unfold f_X4_isNumber
  refine go_aload_n 0 rfl dX4_isNumber_0 rfl ?_
  refine go_getIL clX4 kt_70 3 (Nat.le_of_ble_eq_true rfl) (c := 1) (fun _ => rfl) kr_70 gw68 dX4_isNumber_1 ?_
  refine go_iconst (v := (2 : Int32)) dX4_isNumber_4 (by decide) ?_
  refine go_icmp_ne (tgt := 24) dX4_isNumber_5 (by decide) ?_ ?_
  · refine go_iconst (v := (0 : Int32)) dX4_isNumber_24 (by decide) ?_
    exact go_zret (b := false) rfl dX4_isNumber_25
  · refine go_aload_n 0 rfl dX4_isNumber_8 rfl ?_
    refine go_getIL clX4 kt_70 6 (Nat.le_of_ble_eq_true rfl) (c := 4) (fun _ => rfl) kr_70 gw69 dX4_isNumber_9 ?_
    refine go_iload_n 1 rfl dX4_isNumber_12 rfl ?_
    refine go_iload_n 2 rfl dX4_isNumber_13 rfl ?_
    refine go_callSNZ (As := fun ad => [.int (u.1 7 4), .int a1, .int a2]) (g_X5_within (u.1 7 4) a1 a2 u) mo_X5_within gw85 gn86 rfl ⟨Nat.le_of_ble_eq_true rfl, Nat.le_of_ble_eq_true rfl⟩ rfl (Nat.le_of_ble_eq_true rfl) dX4_isNumber_14 (fun r1 u2 => ?_)
    refine go_ifz_eq (tgt := 24) dX4_isNumber_17 (by decide) ?_ ?_
    · refine go_iconst (v := (0 : Int32)) dX4_isNumber_24 (by decide) ?_
      exact go_zret (b := false) rfl dX4_isNumber_25
    · refine go_iconst (v := (1 : Int32)) dX4_isNumber_20 (by decide) ?_
      refine go_goto (tgt := 25) dX4_isNumber_21 (by decide) ?_
      exact go_zret (b := true) rfl dX4_isNumber_25
def f_X4_tellPilgrim (u : Uw) : Option (Bool × Uw) :=
  if (u.1 2 1) < (8 : Int32) then
  (bd (f_X4_readToken  u) fun r1 u2 =>
  bd (f_X4_isNumber (0 : Int32) (99 : Int32) u2) fun r3 u4 =>
  if r3 = true then
  (nm (u4.1 7 4) fun x5 =>
  bd (f_X4_readToken  u4) fun r6 u7 =>
  bd (f_X4_isWord 117 u7) fun r8 u9 =>
  if r8 = true then
  (bd (f_X4_readToken  u9) fun r12 u13 =>
  bd (f_X4_isNumber (0 : Int32) ((u13.1 2 0) - (1 : Int32)) u13) fun r14 u15 =>
  if r14 = true then
  (nm (u15.1 7 4) fun x16 =>
  bd (f_X4_readToken  u15) fun r17 u18 =>
  bd (f_X3_addPilgrim 46 x5 x16 u18) fun r19 u20 =>
  some (true, u20))
  else
  (some (false, u15)))
  else
  (bd (f_X3_addPilgrim 46 x5 (-1 : Int32) u9) fun r10 u11 =>
  some (true, u11)))
  else
  (some (false, u4)))
  else
  (some (false, u))
set_option maxHeartbeats 4000000 in
set_option maxRecDepth 100000 in
theorem g_X4_tellPilgrim (u : Uw) : ∀ l, Con l yX4_tellPilgrim mi_X4_tellPilgrim ivZ (fun ad => [.ref (ad 70)]) u (f_X4_tellPilgrim u) := by
  refine con_of (by decide) rfl (fun _ => Nat.le_of_ble_eq_true rfl) (fun X ad => ?_)
  show Go X ad mi_X4_tellPilgrim ivZ 0 [(0, .ref (ad 70))] [] u (f_X4_tellPilgrim u)
  unfold f_X4_tellPilgrim
  refine go_aload_n 0 rfl dX4_tellPilgrim_0 rfl ?_
  refine go_getR clX4 kt_70 2 (Nat.le_of_ble_eq_true rfl) (f := 46) (fun _ => rfl) gw87 dX4_tellPilgrim_1 ?_
  refine go_getILN clX3 kt_46 6 (Nat.le_of_ble_eq_true rfl) (c := 1) (fun _ => rfl) kr_46 gn88 dX4_tellPilgrim_4 ?_
  refine go_bipush (v := (8 : Int32)) dX4_tellPilgrim_7 (by decide) ?_
  refine go_icmp_lt (tgt := 14) dX4_tellPilgrim_9 (by decide) ?_ ?_
  · refine go_aload_n 0 rfl dX4_tellPilgrim_14 rfl ?_
    refine go_callVV (As := fun ad => []) (g_X4_readToken  u) mv_X4_readToken clX4 kt_70 gw89 rfl ⟨Nat.le_of_ble_eq_true rfl, Nat.le_of_ble_eq_true rfl⟩ rfl (Nat.le_of_ble_eq_true rfl) dX4_tellPilgrim_15 (fun r1 u2 => ?_)
    refine go_aload_n 0 rfl dX4_tellPilgrim_18 rfl ?_
    refine go_iconst (v := (0 : Int32)) dX4_tellPilgrim_19 (by decide) ?_
    refine go_bipush (v := (99 : Int32)) dX4_tellPilgrim_20 (by decide) ?_
    refine go_callVZ (As := fun ad => [.int (0 : Int32), .int (99 : Int32)]) (g_X4_isNumber (0 : Int32) (99 : Int32) u2) mv_X4_isNumber clX4 kt_70 gw90 rfl ⟨Nat.le_of_ble_eq_true rfl, Nat.le_of_ble_eq_true rfl⟩ rfl (Nat.le_of_ble_eq_true rfl) dX4_tellPilgrim_22 (fun r3 u4 => ?_)
    refine go_ifz_ne (tgt := 30) dX4_tellPilgrim_25 (by decide) ?_ ?_
    · refine go_aload_n 0 rfl dX4_tellPilgrim_30 rfl ?_
      refine go_getIL clX4 kt_70 6 (Nat.le_of_ble_eq_true rfl) (c := 4) (fun _ => rfl) kr_70 gw69 dX4_tellPilgrim_31 ?_
      refine go_nm (fun x5 => ?_)
      refine go_istore_n (lv' := [(1, .int x5), (0, .ref (ad 70))]) dX4_tellPilgrim_34 rfl (Nat.le_of_ble_eq_true rfl) rfl ?_
      refine go_iconst (v := (-1 : Int32)) dX4_tellPilgrim_35 (by decide) ?_
      refine go_istore_n (lv' := [(2, .int (-1 : Int32)), (1, .int x5), (0, .ref (ad 70))]) dX4_tellPilgrim_36 rfl (Nat.le_of_ble_eq_true rfl) rfl ?_
      refine go_aload_n 2 rfl dX4_tellPilgrim_37 rfl ?_
      refine go_callVV (As := fun ad => []) (g_X4_readToken  u4) mv_X4_readToken clX4 kt_70 gw89 rfl ⟨Nat.le_of_ble_eq_true rfl, Nat.le_of_ble_eq_true rfl⟩ rfl (Nat.le_of_ble_eq_true rfl) dX4_tellPilgrim_38 (fun r6 u7 => ?_)
      refine go_aload_n 2 rfl dX4_tellPilgrim_41 rfl ?_
      refine go_ldcs 7 (by decide) rfl rfl dX4_tellPilgrim_42 ?_
      refine go_callVZ (As := fun ad => [.ref (ad 117)]) (g_X4_isWord 117 u7) mv_X4_isWord clX4 kt_70 gw91 rfl ⟨Nat.le_of_ble_eq_true rfl, Nat.le_of_ble_eq_true rfl⟩ rfl (Nat.le_of_ble_eq_true rfl) dX4_tellPilgrim_44 (fun r8 u9 => ?_)
      refine go_ifz_eq (tgt := 82) dX4_tellPilgrim_47 (by decide) ?_ ?_
      · refine go_aload_n 2 rfl dX4_tellPilgrim_82 rfl ?_
        refine go_getR clX4 kt_70 2 (Nat.le_of_ble_eq_true rfl) (f := 46) (fun _ => rfl) gw87 dX4_tellPilgrim_83 ?_
        refine go_iload_n 1 rfl dX4_tellPilgrim_86 rfl ?_
        refine go_iload_n 0 rfl dX4_tellPilgrim_87 rfl ?_
        refine go_callVV (As := fun ad => [.int x5, .int (-1 : Int32)]) (g_X3_addPilgrim 46 x5 (-1 : Int32) u9) mv_X3_addPilgrim clX3 kt_46 gw92 rfl ⟨Nat.le_of_ble_eq_true rfl, Nat.le_of_ble_eq_true rfl⟩ rfl (Nat.le_of_ble_eq_true rfl) dX4_tellPilgrim_88 (fun r10 u11 => ?_)
        refine go_iconst (v := (1 : Int32)) dX4_tellPilgrim_91 (by decide) ?_
        exact go_zret (b := true) rfl dX4_tellPilgrim_92
      · refine go_aload_n 2 rfl dX4_tellPilgrim_50 rfl ?_
        refine go_callVV (As := fun ad => []) (g_X4_readToken  u9) mv_X4_readToken clX4 kt_70 gw89 rfl ⟨Nat.le_of_ble_eq_true rfl, Nat.le_of_ble_eq_true rfl⟩ rfl (Nat.le_of_ble_eq_true rfl) dX4_tellPilgrim_51 (fun r12 u13 => ?_)
        refine go_aload_n 2 rfl dX4_tellPilgrim_54 rfl ?_
        refine go_iconst (v := (0 : Int32)) dX4_tellPilgrim_55 (by decide) ?_
        refine go_aload_n 2 rfl dX4_tellPilgrim_56 rfl ?_
        refine go_getR clX4 kt_70 2 (Nat.le_of_ble_eq_true rfl) (f := 46) (fun _ => rfl) gw87 dX4_tellPilgrim_57 ?_
        refine go_getILN clX3 kt_46 5 (Nat.le_of_ble_eq_true rfl) (c := 0) (fun _ => rfl) kr_46 gn93 dX4_tellPilgrim_60 ?_
        refine go_iconst (v := (1 : Int32)) dX4_tellPilgrim_63 (by decide) ?_
        refine go_isub dX4_tellPilgrim_64 ?_
        refine go_callVZ (As := fun ad => [.int (0 : Int32), .int ((u13.1 2 0) - (1 : Int32))]) (g_X4_isNumber (0 : Int32) ((u13.1 2 0) - (1 : Int32)) u13) mv_X4_isNumber clX4 kt_70 gw90 rfl ⟨Nat.le_of_ble_eq_true rfl, Nat.le_of_ble_eq_true rfl⟩ rfl (Nat.le_of_ble_eq_true rfl) dX4_tellPilgrim_65 (fun r14 u15 => ?_)
        refine go_ifz_ne (tgt := 73) dX4_tellPilgrim_68 (by decide) ?_ ?_
        · refine go_aload_n 2 rfl dX4_tellPilgrim_73 rfl ?_
          refine go_getIL clX4 kt_70 6 (Nat.le_of_ble_eq_true rfl) (c := 4) (fun _ => rfl) kr_70 gw69 dX4_tellPilgrim_74 ?_
          refine go_nm (fun x16 => ?_)
          refine go_istore_n (lv' := [(2, .int x16), (1, .int x5), (0, .ref (ad 70))]) dX4_tellPilgrim_77 rfl (Nat.le_of_ble_eq_true rfl) rfl ?_
          refine go_aload_n 2 rfl dX4_tellPilgrim_78 rfl ?_
          refine go_callVV (As := fun ad => []) (g_X4_readToken  u15) mv_X4_readToken clX4 kt_70 gw89 rfl ⟨Nat.le_of_ble_eq_true rfl, Nat.le_of_ble_eq_true rfl⟩ rfl (Nat.le_of_ble_eq_true rfl) dX4_tellPilgrim_79 (fun r17 u18 => ?_)
          refine go_aload_n 2 rfl dX4_tellPilgrim_82 rfl ?_
          refine go_getR clX4 kt_70 2 (Nat.le_of_ble_eq_true rfl) (f := 46) (fun _ => rfl) gw87 dX4_tellPilgrim_83 ?_
          refine go_iload_n 1 rfl dX4_tellPilgrim_86 rfl ?_
          refine go_iload_n 0 rfl dX4_tellPilgrim_87 rfl ?_
          refine go_callVV (As := fun ad => [.int x5, .int x16]) (g_X3_addPilgrim 46 x5 x16 u18) mv_X3_addPilgrim clX3 kt_46 gw92 rfl ⟨Nat.le_of_ble_eq_true rfl, Nat.le_of_ble_eq_true rfl⟩ rfl (Nat.le_of_ble_eq_true rfl) dX4_tellPilgrim_88 (fun r19 u20 => ?_)
          refine go_iconst (v := (1 : Int32)) dX4_tellPilgrim_91 (by decide) ?_
          exact go_zret (b := true) rfl dX4_tellPilgrim_92
        · refine go_iconst (v := (0 : Int32)) dX4_tellPilgrim_71 (by decide) ?_
          exact go_zret (b := false) rfl dX4_tellPilgrim_72
    · refine go_iconst (v := (0 : Int32)) dX4_tellPilgrim_28 (by decide) ?_
      exact go_zret (b := false) rfl dX4_tellPilgrim_29
  · refine go_iconst (v := (0 : Int32)) dX4_tellPilgrim_12 (by decide) ?_
    exact go_zret (b := false) rfl dX4_tellPilgrim_13
def f_X4_tellTruth (u : Uw) : Option (Bool × Uw) :=
  bd (f_X4_readToken  u) fun r1 u2 =>
  bd (f_X4_isNumber (0 : Int32) (5 : Int32) u2) fun r3 u4 =>
  if r3 = true then
  (nm (w1 u4 2 4 (u4.1 7 4)) fun u5 =>
  bd (f_X4_readToken  u5) fun r6 u7 =>
  some (true, u7))
  else
  (some (false, u4))
set_option maxHeartbeats 4000000 in
set_option maxRecDepth 100000 in
theorem g_X4_tellTruth (u : Uw) : ∀ l, Con l yX4_tellTruth mi_X4_tellTruth ivZ (fun ad => [.ref (ad 70)]) u (f_X4_tellTruth u) := by
  refine con_of (by decide) rfl (fun _ => Nat.le_of_ble_eq_true rfl) (fun X ad => ?_)
  show Go X ad mi_X4_tellTruth ivZ 0 [(0, .ref (ad 70))] [] u (f_X4_tellTruth u)
  unfold f_X4_tellTruth
  refine go_aload_n 0 rfl dX4_tellTruth_0 rfl ?_
  refine go_callVV (As := fun ad => []) (g_X4_readToken  u) mv_X4_readToken clX4 kt_70 gw89 rfl ⟨Nat.le_of_ble_eq_true rfl, Nat.le_of_ble_eq_true rfl⟩ rfl (Nat.le_of_ble_eq_true rfl) dX4_tellTruth_1 (fun r1 u2 => ?_)
  refine go_aload_n 0 rfl dX4_tellTruth_4 rfl ?_
  refine go_iconst (v := (0 : Int32)) dX4_tellTruth_5 (by decide) ?_
  refine go_iconst (v := (5 : Int32)) dX4_tellTruth_6 (by decide) ?_
  refine go_callVZ (As := fun ad => [.int (0 : Int32), .int (5 : Int32)]) (g_X4_isNumber (0 : Int32) (5 : Int32) u2) mv_X4_isNumber clX4 kt_70 gw90 rfl ⟨Nat.le_of_ble_eq_true rfl, Nat.le_of_ble_eq_true rfl⟩ rfl (Nat.le_of_ble_eq_true rfl) dX4_tellTruth_7 (fun r3 u4 => ?_)
  refine go_ifz_ne (tgt := 15) dX4_tellTruth_10 (by decide) ?_ ?_
  · refine go_aload_n 0 rfl dX4_tellTruth_15 rfl ?_
    refine go_getR clX4 kt_70 2 (Nat.le_of_ble_eq_true rfl) (f := 46) (fun _ => rfl) gw87 dX4_tellTruth_16 ?_
    refine go_aload_n 0 rfl dX4_tellTruth_19 rfl ?_
    refine go_getIL clX4 kt_70 6 (Nat.le_of_ble_eq_true rfl) (c := 4) (fun _ => rfl) kr_70 gw69 dX4_tellTruth_20 ?_
    refine go_putILN clX3 kt_46 2 (Nat.le_of_ble_eq_true rfl) (c := 4) (fun _ => rfl) (by decide) kr_46 (fty := .int) (tyX3_ok 2 (Nat.le_of_ble_eq_true rfl)) rfl rfl rfl (fun _ => Nat.le_of_ble_eq_true rfl) gn94 dX4_tellTruth_23 ?_
    refine go_nmU (fun u5 => ?_)
    refine go_aload_n 0 rfl dX4_tellTruth_26 rfl ?_
    refine go_callVV (As := fun ad => []) (g_X4_readToken  u5) mv_X4_readToken clX4 kt_70 gw89 rfl ⟨Nat.le_of_ble_eq_true rfl, Nat.le_of_ble_eq_true rfl⟩ rfl (Nat.le_of_ble_eq_true rfl) dX4_tellTruth_27 (fun r6 u7 => ?_)
    refine go_iconst (v := (1 : Int32)) dX4_tellTruth_30 (by decide) ?_
    exact go_zret (b := true) rfl dX4_tellTruth_31
  · refine go_iconst (v := (0 : Int32)) dX4_tellTruth_13 (by decide) ?_
    exact go_zret (b := false) rfl dX4_tellTruth_14
def f_X4_tellPower (u : Uw) : Option (Bool × Uw) :=
  bd (f_X4_readToken  u) fun r1 u2 =>
  bd (f_X4_isNumber (1 : Int32) (50 : Int32) u2) fun r3 u4 =>
  if r3 = true then
  (nm (w1 u4 2 3 (u4.1 7 4)) fun u5 =>
  bd (f_X4_readToken  u5) fun r6 u7 =>
  some (true, u7))
  else
  (some (false, u4))
set_option maxHeartbeats 4000000 in
set_option maxRecDepth 100000 in
theorem g_X4_tellPower (u : Uw) : ∀ l, Con l yX4_tellPower mi_X4_tellPower ivZ (fun ad => [.ref (ad 70)]) u (f_X4_tellPower u) := by
  refine con_of (by decide) rfl (fun _ => Nat.le_of_ble_eq_true rfl) (fun X ad => ?_)
  show Go X ad mi_X4_tellPower ivZ 0 [(0, .ref (ad 70))] [] u (f_X4_tellPower u)
  unfold f_X4_tellPower
  refine go_aload_n 0 rfl dX4_tellPower_0 rfl ?_
  refine go_callVV (As := fun ad => []) (g_X4_readToken  u) mv_X4_readToken clX4 kt_70 gw89 rfl ⟨Nat.le_of_ble_eq_true rfl, Nat.le_of_ble_eq_true rfl⟩ rfl (Nat.le_of_ble_eq_true rfl) dX4_tellPower_1 (fun r1 u2 => ?_)
  refine go_aload_n 0 rfl dX4_tellPower_4 rfl ?_
  refine go_iconst (v := (1 : Int32)) dX4_tellPower_5 (by decide) ?_
  refine go_bipush (v := (50 : Int32)) dX4_tellPower_6 (by decide) ?_
  refine go_callVZ (As := fun ad => [.int (1 : Int32), .int (50 : Int32)]) (g_X4_isNumber (1 : Int32) (50 : Int32) u2) mv_X4_isNumber clX4 kt_70 gw90 rfl ⟨Nat.le_of_ble_eq_true rfl, Nat.le_of_ble_eq_true rfl⟩ rfl (Nat.le_of_ble_eq_true rfl) dX4_tellPower_8 (fun r3 u4 => ?_)
  refine go_ifz_ne (tgt := 16) dX4_tellPower_11 (by decide) ?_ ?_
  · refine go_aload_n 0 rfl dX4_tellPower_16 rfl ?_
    refine go_getR clX4 kt_70 2 (Nat.le_of_ble_eq_true rfl) (f := 46) (fun _ => rfl) gw87 dX4_tellPower_17 ?_
    refine go_aload_n 0 rfl dX4_tellPower_20 rfl ?_
    refine go_getIL clX4 kt_70 6 (Nat.le_of_ble_eq_true rfl) (c := 4) (fun _ => rfl) kr_70 gw69 dX4_tellPower_21 ?_
    refine go_putILN clX3 kt_46 1 (Nat.le_of_ble_eq_true rfl) (c := 3) (fun _ => rfl) (by decide) kr_46 (fty := .int) (tyX3_ok 1 (Nat.le_of_ble_eq_true rfl)) rfl rfl rfl (fun _ => Nat.le_of_ble_eq_true rfl) gn95 dX4_tellPower_24 ?_
    refine go_nmU (fun u5 => ?_)
    refine go_aload_n 0 rfl dX4_tellPower_27 rfl ?_
    refine go_callVV (As := fun ad => []) (g_X4_readToken  u5) mv_X4_readToken clX4 kt_70 gw89 rfl ⟨Nat.le_of_ble_eq_true rfl, Nat.le_of_ble_eq_true rfl⟩ rfl (Nat.le_of_ble_eq_true rfl) dX4_tellPower_28 (fun r6 u7 => ?_)
    refine go_iconst (v := (1 : Int32)) dX4_tellPower_31 (by decide) ?_
    exact go_zret (b := true) rfl dX4_tellPower_32
  · refine go_iconst (v := (0 : Int32)) dX4_tellPower_14 (by decide) ?_
    exact go_zret (b := false) rfl dX4_tellPower_15
def f_X4_nameOf (a0 : Int32) (u : Uw) : Option ((Option Nat) × Uw) :=
  nm a0 fun x1 =>
  if x1 = (0 : Int32) then
  (some (some 118, u))
  else
  (if x1 = (1 : Int32) then
  (some (some 119, u))
  else
  (if x1 = (2 : Int32) then
  (some (some 120, u))
  else
  (if x1 = (3 : Int32) then
  (some (some 121, u))
  else
  (if x1 = (4 : Int32) then
  (some (some 122, u))
  else
  (some (some 123, u))))))
set_option maxHeartbeats 4000000 in
set_option maxRecDepth 100000 in
theorem g_X4_nameOf (a0 : Int32) (u : Uw) : ∀ l, Con l yX4_nameOf mi_X4_nameOf ivR (fun ad => [.int a0]) u (f_X4_nameOf a0 u) := by
  refine con_of (by decide) rfl (fun _ => Nat.le_of_ble_eq_true rfl) (fun X ad => ?_)
  show Go X ad mi_X4_nameOf ivR 0 [(0, .int a0)] [] u (f_X4_nameOf a0 u)
  unfold f_X4_nameOf
  refine go_iload_n 0 rfl dX4_nameOf_0 rfl ?_
  refine go_nm (fun x1 => ?_)
  refine go_ite (fun hx => ?_) (fun h2 => ?_)
  · subst hx
    refine go_tin (off := 35) (tgt := 36) dX4_nameOf_1 (by decide) (by decide) (by decide) (by decide) ?_
    refine go_ldcs 8 (by decide) rfl rfl dX4_nameOf_36 ?_
    exact go_aret rfl dX4_nameOf_38
  · refine go_ite (fun hx => ?_) (fun h3 => ?_)
    · subst hx
      refine go_tin (off := 38) (tgt := 39) dX4_nameOf_1 (by decide) (by decide) (by decide) (by decide) ?_
      refine go_ldcs 9 (by decide) rfl rfl dX4_nameOf_39 ?_
      exact go_aret rfl dX4_nameOf_41
    · refine go_ite (fun hx => ?_) (fun h4 => ?_)
      · subst hx
        refine go_tin (off := 41) (tgt := 42) dX4_nameOf_1 (by decide) (by decide) (by decide) (by decide) ?_
        refine go_ldcs 10 (by decide) rfl rfl dX4_nameOf_42 ?_
        exact go_aret rfl dX4_nameOf_44
      · refine go_ite (fun hx => ?_) (fun h5 => ?_)
        · subst hx
          refine go_tin (off := 44) (tgt := 45) dX4_nameOf_1 (by decide) (by decide) (by decide) (by decide) ?_
          refine go_ldcs 11 (by decide) rfl rfl dX4_nameOf_45 ?_
          exact go_aret rfl dX4_nameOf_47
        · refine go_ite (fun hx => ?_) (fun h6 => ?_)
          · subst hx
            refine go_tin (off := 47) (tgt := 48) dX4_nameOf_1 (by decide) (by decide) (by decide) (by decide) ?_
            refine go_ldcs 12 (by decide) rfl rfl dX4_nameOf_48 ?_
            exact go_aret rfl dX4_nameOf_50
          · refine go_tout (tgt := 51) dX4_nameOf_1 ?_ (by decide) ?_
            · have a0 : x1.toInt ≠ 0 := int_ne h2; have a1 : x1.toInt ≠ 1 := int_ne h3; have a2 : x1.toInt ≠ 2 := int_ne h4; have a3 : x1.toInt ≠ 3 := int_ne h5; have a4 : x1.toInt ≠ 4 := int_ne h6; omega
            · refine go_ldcs 13 (by decide) rfl rfl dX4_nameOf_51 ?_
              exact go_aret rfl dX4_nameOf_53
def b_X4_kindNamed_2 (ih2 : Int32 × Uw → Option (Int32 × Uw)) (s : Int32 × Uw) : Option (Int32 × Uw) :=
  if (5 : Int32) < s.1 then
  (some ((-1 : Int32), s.2))
  else
  (bd (f_X4_nameOf s.1 s.2) fun r1 u2 =>
  ro r1
  (none)
  (fun e3 =>
  bd (f_X4_isWord e3 u2) fun r4 u5 =>
  if r4 = true then
  (some (s.1, u5))
  else
  (ih2 ((s.1 + (1 : Int32)), u5))))
def f_X4_kindNamed (u : Uw) : Option (Int32 × Uw) :=
  lp b_X4_kindNamed_2 2100 ((0 : Int32), u)
set_option maxHeartbeats 4000000 in
set_option maxRecDepth 100000 in
theorem gl_X4_kindNamed_2 (X : Cx) (ad : Nat → Nat) : ∀ (n : Nat) (s : Int32 × Uw), Go X ad mi_X4_kindNamed ivI 2 [(0, .ref (ad 70)), (1, .int s.1)] [] s.2 (lp b_X4_kindNamed_2 n s) := by
  refine go_lp (G := fun (s : Int32 × Uw) o => Go X ad mi_X4_kindNamed ivI 2 [(0, .ref (ad 70)), (1, .int s.1)] [] s.2 o) (fun _ => go_none) (fun ih2 hih2 s => ?_)
  show Go X ad mi_X4_kindNamed ivI 2 [(0, .ref (ad 70)), (1, .int s.1)] [] s.2 (b_X4_kindNamed_2 ih2 s)
  unfold b_X4_kindNamed_2
  refine go_iload_n 1 rfl dX4_kindNamed_2 rfl ?_
  refine go_iconst (v := (5 : Int32)) dX4_kindNamed_3 (by decide) ?_
  refine go_icmp_gt (tgt := 26) dX4_kindNamed_4 (by decide) ?_ ?_
  · refine go_iconst (v := (-1 : Int32)) dX4_kindNamed_26 (by decide) ?_
    exact go_iret rfl dX4_kindNamed_27
  · refine go_aload_n 0 rfl dX4_kindNamed_7 rfl ?_
    refine go_iload_n 1 rfl dX4_kindNamed_8 rfl ?_
    refine go_callSR (As := fun ad => [.int s.1]) (g_X4_nameOf s.1 s.2) mo_X4_nameOf gw96 gw97 rfl ⟨Nat.le_of_ble_eq_true rfl, Nat.le_of_ble_eq_true rfl⟩ rfl (Nat.le_of_ble_eq_true rfl) dX4_kindNamed_9 (fun r1 u2 => ?_)
    refine go_ro ?_ (fun e3 => ?_)
    · exact go_none
    · refine go_callVZ (As := fun ad => [.ref (ad e3)]) (g_X4_isWord e3 u2) mv_X4_isWord clX4 kt_70 gw91 rfl ⟨Nat.le_of_ble_eq_true rfl, Nat.le_of_ble_eq_true rfl⟩ rfl (Nat.le_of_ble_eq_true rfl) dX4_kindNamed_12 (fun r4 u5 => ?_)
      refine go_ifz_eq (tgt := 20) dX4_kindNamed_15 (by decide) ?_ ?_
      · refine go_iinc (v := (s.1 + (1 : Int32))) (lv' := [(1, .int (s.1 + (1 : Int32))), (0, .ref (ad 70))]) 1 rfl dX4_kindNamed_20 rfl (Nat.le_of_ble_eq_true rfl) rfl ?_
        refine go_goto (tgt := 2) dX4_kindNamed_23 (by decide) ?_
        exact go_sub [1, 0] rfl (hih2 ((s.1 + (1 : Int32)), u5))
      · refine go_iload_n 1 rfl dX4_kindNamed_18 rfl ?_
        exact go_iret rfl dX4_kindNamed_19
set_option maxHeartbeats 4000000 in
set_option maxRecDepth 100000 in
theorem g_X4_kindNamed (u : Uw) : ∀ l, Con l yX4_kindNamed mi_X4_kindNamed ivI (fun ad => [.ref (ad 70)]) u (f_X4_kindNamed u) := by
  refine con_of (by decide) rfl (fun _ => Nat.le_of_ble_eq_true rfl) (fun X ad => ?_)
  show Go X ad mi_X4_kindNamed ivI 0 [(0, .ref (ad 70))] [] u (f_X4_kindNamed u)
  unfold f_X4_kindNamed
  refine go_iconst (v := (0 : Int32)) dX4_kindNamed_0 (by decide) ?_
  refine go_istore_n (lv' := [(1, .int (0 : Int32)), (0, .ref (ad 70))]) dX4_kindNamed_1 rfl (Nat.le_of_ble_eq_true rfl) rfl ?_
  exact go_sub [1, 0] rfl (gl_X4_kindNamed_2 X ad  2100 ((0 : Int32), u))
def f_X4_tellField (a1 : Nat) (a2 : Int32) (u : Uw) : Option (Bool × Uw) :=
  bd (f_X3_calendarAt 46 ((u.1 2 0) - (1 : Int32)) u) fun r1 u2 =>
  ro r1
  (some (true, u2))
  (fun e3 =>
  bd (f_X4_isWord a1 u2) fun r4 u5 =>
  if r4 = true then
  (bd (f_X4_readToken  u5) fun r6 u7 =>
  if (u7.1 7 1) = (2 : Int32) then
  (bd (f_X0_allows a2 (u7.1 7 4) u7) fun r8 u9 =>
  if r8 = true then
  (ck (kT e3 == 0) <|
  bd (f_X0_change e3 a2 (u9.1 7 4) u9) fun r11 u12 =>
  bd (f_X4_readToken  u12) fun r13 u14 =>
  some (true, u14))
  else
  (some (false, u9)))
  else
  (some (false, u7)))
  else
  (some (true, u5)))
set_option maxHeartbeats 4000000 in
set_option maxRecDepth 100000 in
theorem g_X4_tellField (a1 : Nat) (a2 : Int32) (u : Uw) : ∀ l, Con l yX4_tellField mi_X4_tellField ivZ (fun ad => [.ref (ad 70), .ref (ad a1), .int a2]) u (f_X4_tellField a1 a2 u) := by
  refine con_of (by decide) rfl (fun _ => Nat.le_of_ble_eq_true rfl) (fun X ad => ?_)
  show Go X ad mi_X4_tellField ivZ 0 [(0, .ref (ad 70)), (1, .ref (ad a1)), (2, .int a2)] [] u (f_X4_tellField a1 a2 u)
  unfold f_X4_tellField
  refine go_aload_n 0 rfl dX4_tellField_0 rfl ?_
  refine go_getR clX4 kt_70 2 (Nat.le_of_ble_eq_true rfl) (f := 46) (fun _ => rfl) gw87 dX4_tellField_1 ?_
  refine go_aload_n 0 rfl dX4_tellField_4 rfl ?_
  refine go_getR clX4 kt_70 2 (Nat.le_of_ble_eq_true rfl) (f := 46) (fun _ => rfl) gw87 dX4_tellField_5 ?_
  refine go_getILN clX3 kt_46 5 (Nat.le_of_ble_eq_true rfl) (c := 0) (fun _ => rfl) kr_46 gn93 dX4_tellField_8 ?_
  refine go_iconst (v := (1 : Int32)) dX4_tellField_11 (by decide) ?_
  refine go_isub dX4_tellField_12 ?_
  refine go_callVR (As := fun ad => [.int ((u.1 2 0) - (1 : Int32))]) (g_X3_calendarAt 46 ((u.1 2 0) - (1 : Int32)) u) mv_X3_calendarAt clX3 kt_46 gw98 rfl ⟨Nat.le_of_ble_eq_true rfl, Nat.le_of_ble_eq_true rfl⟩ rfl (Nat.le_of_ble_eq_true rfl) dX4_tellField_13 (fun r1 u2 => ?_)
  refine go_ro ?_ (fun e3 => ?_)
  · refine go_astore_nN (lv' := [(3, .null), (0, .ref (ad 70)), (1, .ref (ad a1)), (2, .int a2)]) dX4_tellField_16 rfl (Nat.le_of_ble_eq_true rfl) rfl ?_
    refine go_aload_nN 0 rfl dX4_tellField_17 rfl ?_
    refine go_ifnullN (tgt := 29) dX4_tellField_18 (by decide) ?_
    refine go_iconst (v := (1 : Int32)) dX4_tellField_29 (by decide) ?_
    exact go_zret (b := true) rfl dX4_tellField_30
  · refine go_astore_n (lv' := [(3, .ref (ad e3)), (0, .ref (ad 70)), (1, .ref (ad a1)), (2, .int a2)]) dX4_tellField_16 rfl (Nat.le_of_ble_eq_true rfl) rfl ?_
    refine go_aload_n 0 rfl dX4_tellField_17 rfl ?_
    refine go_ifnull dX4_tellField_18 ?_
    refine go_aload_n 1 rfl dX4_tellField_21 rfl ?_
    refine go_aload_n 2 rfl dX4_tellField_22 rfl ?_
    refine go_callVZ (As := fun ad => [.ref (ad a1)]) (g_X4_isWord a1 u2) mv_X4_isWord clX4 kt_70 gw91 rfl ⟨Nat.le_of_ble_eq_true rfl, Nat.le_of_ble_eq_true rfl⟩ rfl (Nat.le_of_ble_eq_true rfl) dX4_tellField_23 (fun r4 u5 => ?_)
    refine go_ifz_ne (tgt := 31) dX4_tellField_26 (by decide) ?_ ?_
    · refine go_aload_n 1 rfl dX4_tellField_31 rfl ?_
      refine go_callVV (As := fun ad => []) (g_X4_readToken  u5) mv_X4_readToken clX4 kt_70 gw89 rfl ⟨Nat.le_of_ble_eq_true rfl, Nat.le_of_ble_eq_true rfl⟩ rfl (Nat.le_of_ble_eq_true rfl) dX4_tellField_32 (fun r6 u7 => ?_)
      refine go_aload_n 1 rfl dX4_tellField_35 rfl ?_
      refine go_getIL clX4 kt_70 3 (Nat.le_of_ble_eq_true rfl) (c := 1) (fun _ => rfl) kr_70 gw68 dX4_tellField_36 ?_
      refine go_iconst (v := (2 : Int32)) dX4_tellField_39 (by decide) ?_
      refine go_icmp_ne (tgt := 54) dX4_tellField_40 (by decide) ?_ ?_
      · refine go_iconst (v := (0 : Int32)) dX4_tellField_54 (by decide) ?_
        exact go_zret (b := false) rfl dX4_tellField_55
      · refine go_iload_n 3 rfl dX4_tellField_43 rfl ?_
        refine go_aload_n 1 rfl dX4_tellField_44 rfl ?_
        refine go_getIL clX4 kt_70 6 (Nat.le_of_ble_eq_true rfl) (c := 4) (fun _ => rfl) kr_70 gw69 dX4_tellField_45 ?_
        refine go_callSZ (As := fun ad => [.int a2, .int (u7.1 7 4)]) (g_X0_allows a2 (u7.1 7 4) u7) mo_X0_allows gw10 gw99 rfl ⟨Nat.le_of_ble_eq_true rfl, Nat.le_of_ble_eq_true rfl⟩ rfl (Nat.le_of_ble_eq_true rfl) dX4_tellField_48 (fun r8 u9 => ?_)
        refine go_ifz_ne (tgt := 56) dX4_tellField_51 (by decide) ?_ ?_
        · refine go_aload_n 0 rfl dX4_tellField_56 rfl ?_
          refine go_iload_n 3 rfl dX4_tellField_57 rfl ?_
          refine go_aload_n 1 rfl dX4_tellField_58 rfl ?_
          refine go_getIL clX4 kt_70 6 (Nat.le_of_ble_eq_true rfl) (c := 4) (fun _ => rfl) kr_70 gw69 dX4_tellField_59 ?_
          refine go_ck (fun h10 => ?_)
          refine go_callVI (As := fun ad => [.int a2, .int (u9.1 7 4)]) (g_X0_change e3 a2 (u9.1 7 4) u9) mv_X0_change clX0 h10 gw100 rfl ⟨Nat.le_of_ble_eq_true rfl, Nat.le_of_ble_eq_true rfl⟩ rfl (Nat.le_of_ble_eq_true rfl) dX4_tellField_62 (fun r11 u12 => ?_)
          refine go_pop dX4_tellField_65 rfl ?_
          refine go_aload_n 1 rfl dX4_tellField_66 rfl ?_
          refine go_callVV (As := fun ad => []) (g_X4_readToken  u12) mv_X4_readToken clX4 kt_70 gw89 rfl ⟨Nat.le_of_ble_eq_true rfl, Nat.le_of_ble_eq_true rfl⟩ rfl (Nat.le_of_ble_eq_true rfl) dX4_tellField_67 (fun r13 u14 => ?_)
          refine go_iconst (v := (1 : Int32)) dX4_tellField_70 (by decide) ?_
          exact go_zret (b := true) rfl dX4_tellField_71
        · refine go_iconst (v := (0 : Int32)) dX4_tellField_54 (by decide) ?_
          exact go_zret (b := false) rfl dX4_tellField_55
    · refine go_iconst (v := (1 : Int32)) dX4_tellField_29 (by decide) ?_
      exact go_zret (b := true) rfl dX4_tellField_30
def f_X4_tellCalendar (u : Uw) : Option (Bool × Uw) :=
  bd (f_X4_kindNamed  u) fun r1 u2 =>
  if r1 < 0 then
  (some (false, u2))
  else
  (if (u2.1 2 0) < (6 : Int32) then
  (bd (f_X3_addCalendar 46 r1 u2) fun r3 u4 =>
  bd (f_X4_readToken  u4) fun r5 u6 =>
  bd (f_X4_tellField 113 (1 : Int32) u6) fun r7 u8 =>
  if r7 = true then
  (bd (f_X4_tellField 114 (2 : Int32) u8) fun r9 u10 =>
  if r9 = true then
  (bd (f_X4_tellField 115 (3 : Int32) u10) fun r11 u12 =>
  if r11 = true then
  (bd (f_X4_tellField 116 (4 : Int32) u12) fun r13 u14 =>
  if r13 = true then
  (some (true, u14))
  else
  (some (false, u14)))
  else
  (some (false, u12)))
  else
  (some (false, u10)))
  else
  (some (false, u8)))
  else
  (some (false, u2)))
set_option maxHeartbeats 4000000 in
set_option maxRecDepth 100000 in
theorem g_X4_tellCalendar (u : Uw) : ∀ l, Con l yX4_tellCalendar mi_X4_tellCalendar ivZ (fun ad => [.ref (ad 70)]) u (f_X4_tellCalendar u) := by
  refine con_of (by decide) rfl (fun _ => Nat.le_of_ble_eq_true rfl) (fun X ad => ?_)
  show Go X ad mi_X4_tellCalendar ivZ 0 [(0, .ref (ad 70))] [] u (f_X4_tellCalendar u)
  unfold f_X4_tellCalendar
  refine go_aload_n 0 rfl dX4_tellCalendar_0 rfl ?_
  refine go_callVI (As := fun ad => []) (g_X4_kindNamed  u) mv_X4_kindNamed clX4 kt_70 gw101 rfl ⟨Nat.le_of_ble_eq_true rfl, Nat.le_of_ble_eq_true rfl⟩ rfl (Nat.le_of_ble_eq_true rfl) dX4_tellCalendar_1 (fun r1 u2 => ?_)
  refine go_istore_n (lv' := [(1, .int r1), (0, .ref (ad 70))]) dX4_tellCalendar_4 rfl (Nat.le_of_ble_eq_true rfl) rfl ?_
  refine go_iload_n 0 rfl dX4_tellCalendar_5 rfl ?_
  refine go_if_lt (tgt := 21) dX4_tellCalendar_6 (by decide) ?_ ?_
  · refine go_iconst (v := (0 : Int32)) dX4_tellCalendar_21 (by decide) ?_
    exact go_zret (b := false) rfl dX4_tellCalendar_22
  · refine go_aload_n 1 rfl dX4_tellCalendar_9 rfl ?_
    refine go_getR clX4 kt_70 2 (Nat.le_of_ble_eq_true rfl) (f := 46) (fun _ => rfl) gw87 dX4_tellCalendar_10 ?_
    refine go_getILN clX3 kt_46 5 (Nat.le_of_ble_eq_true rfl) (c := 0) (fun _ => rfl) kr_46 gn93 dX4_tellCalendar_13 ?_
    refine go_bipush (v := (6 : Int32)) dX4_tellCalendar_16 (by decide) ?_
    refine go_icmp_lt (tgt := 23) dX4_tellCalendar_18 (by decide) ?_ ?_
    · refine go_aload_n 1 rfl dX4_tellCalendar_23 rfl ?_
      refine go_getR clX4 kt_70 2 (Nat.le_of_ble_eq_true rfl) (f := 46) (fun _ => rfl) gw87 dX4_tellCalendar_24 ?_
      refine go_iload_n 0 rfl dX4_tellCalendar_27 rfl ?_
      refine go_callVV (As := fun ad => [.int r1]) (g_X3_addCalendar 46 r1 u2) mv_X3_addCalendar clX3 kt_46 gw102 rfl ⟨Nat.le_of_ble_eq_true rfl, Nat.le_of_ble_eq_true rfl⟩ rfl (Nat.le_of_ble_eq_true rfl) dX4_tellCalendar_28 (fun r3 u4 => ?_)
      refine go_aload_n 1 rfl dX4_tellCalendar_31 rfl ?_
      refine go_callVV (As := fun ad => []) (g_X4_readToken  u4) mv_X4_readToken clX4 kt_70 gw89 rfl ⟨Nat.le_of_ble_eq_true rfl, Nat.le_of_ble_eq_true rfl⟩ rfl (Nat.le_of_ble_eq_true rfl) dX4_tellCalendar_32 (fun r5 u6 => ?_)
      refine go_aload_n 1 rfl dX4_tellCalendar_35 rfl ?_
      refine go_ldcs 3 (by decide) rfl rfl dX4_tellCalendar_36 ?_
      refine go_iconst (v := (1 : Int32)) dX4_tellCalendar_38 (by decide) ?_
      refine go_callVZ (As := fun ad => [.ref (ad 113), .int (1 : Int32)]) (g_X4_tellField 113 (1 : Int32) u6) mv_X4_tellField clX4 kt_70 gw103 rfl ⟨Nat.le_of_ble_eq_true rfl, Nat.le_of_ble_eq_true rfl⟩ rfl (Nat.le_of_ble_eq_true rfl) dX4_tellCalendar_39 (fun r7 u8 => ?_)
      refine go_ifz_eq (tgt := 79) dX4_tellCalendar_42 (by decide) ?_ ?_
      · refine go_iconst (v := (0 : Int32)) dX4_tellCalendar_79 (by decide) ?_
        exact go_zret (b := false) rfl dX4_tellCalendar_80
      · refine go_aload_n 1 rfl dX4_tellCalendar_45 rfl ?_
        refine go_ldcs 4 (by decide) rfl rfl dX4_tellCalendar_46 ?_
        refine go_iconst (v := (2 : Int32)) dX4_tellCalendar_48 (by decide) ?_
        refine go_callVZ (As := fun ad => [.ref (ad 114), .int (2 : Int32)]) (g_X4_tellField 114 (2 : Int32) u8) mv_X4_tellField clX4 kt_70 gw103 rfl ⟨Nat.le_of_ble_eq_true rfl, Nat.le_of_ble_eq_true rfl⟩ rfl (Nat.le_of_ble_eq_true rfl) dX4_tellCalendar_49 (fun r9 u10 => ?_)
        refine go_ifz_eq (tgt := 79) dX4_tellCalendar_52 (by decide) ?_ ?_
        · refine go_iconst (v := (0 : Int32)) dX4_tellCalendar_79 (by decide) ?_
          exact go_zret (b := false) rfl dX4_tellCalendar_80
        · refine go_aload_n 1 rfl dX4_tellCalendar_55 rfl ?_
          refine go_ldcs 5 (by decide) rfl rfl dX4_tellCalendar_56 ?_
          refine go_iconst (v := (3 : Int32)) dX4_tellCalendar_58 (by decide) ?_
          refine go_callVZ (As := fun ad => [.ref (ad 115), .int (3 : Int32)]) (g_X4_tellField 115 (3 : Int32) u10) mv_X4_tellField clX4 kt_70 gw103 rfl ⟨Nat.le_of_ble_eq_true rfl, Nat.le_of_ble_eq_true rfl⟩ rfl (Nat.le_of_ble_eq_true rfl) dX4_tellCalendar_59 (fun r11 u12 => ?_)
          refine go_ifz_eq (tgt := 79) dX4_tellCalendar_62 (by decide) ?_ ?_
          · refine go_iconst (v := (0 : Int32)) dX4_tellCalendar_79 (by decide) ?_
            exact go_zret (b := false) rfl dX4_tellCalendar_80
          · refine go_aload_n 1 rfl dX4_tellCalendar_65 rfl ?_
            refine go_ldcs 6 (by decide) rfl rfl dX4_tellCalendar_66 ?_
            refine go_iconst (v := (4 : Int32)) dX4_tellCalendar_68 (by decide) ?_
            refine go_callVZ (As := fun ad => [.ref (ad 116), .int (4 : Int32)]) (g_X4_tellField 116 (4 : Int32) u12) mv_X4_tellField clX4 kt_70 gw103 rfl ⟨Nat.le_of_ble_eq_true rfl, Nat.le_of_ble_eq_true rfl⟩ rfl (Nat.le_of_ble_eq_true rfl) dX4_tellCalendar_69 (fun r13 u14 => ?_)
            refine go_ifz_eq (tgt := 79) dX4_tellCalendar_72 (by decide) ?_ ?_
            · refine go_iconst (v := (0 : Int32)) dX4_tellCalendar_79 (by decide) ?_
              exact go_zret (b := false) rfl dX4_tellCalendar_80
            · refine go_iconst (v := (1 : Int32)) dX4_tellCalendar_75 (by decide) ?_
              refine go_goto (tgt := 80) dX4_tellCalendar_76 (by decide) ?_
              exact go_zret (b := true) rfl dX4_tellCalendar_80
    · refine go_iconst (v := (0 : Int32)) dX4_tellCalendar_21 (by decide) ?_
      exact go_zret (b := false) rfl dX4_tellCalendar_22
def f_X4_tellItem (u : Uw) : Option (Bool × Uw) :=
  bd (f_X4_isWord 110 u) fun r1 u2 =>
  if r1 = true then
  (bd (f_X4_tellPilgrim  u2) fun r13 u14 =>
  some (r13, u14))
  else
  (bd (f_X4_isWord 111 u2) fun r3 u4 =>
  if r3 = true then
  (bd (f_X4_tellTruth  u4) fun r11 u12 =>
  some (r11, u12))
  else
  (bd (f_X4_isWord 112 u4) fun r5 u6 =>
  if r5 = true then
  (bd (f_X4_tellPower  u6) fun r9 u10 =>
  some (r9, u10))
  else
  (bd (f_X4_tellCalendar  u6) fun r7 u8 =>
  some (r7, u8))))
set_option maxHeartbeats 4000000 in
set_option maxRecDepth 100000 in
theorem g_X4_tellItem (u : Uw) : ∀ l, Con l yX4_tellItem mi_X4_tellItem ivZ (fun ad => [.ref (ad 70)]) u (f_X4_tellItem u) := by
  refine con_of (by decide) rfl (fun _ => Nat.le_of_ble_eq_true rfl) (fun X ad => ?_)
  show Go X ad mi_X4_tellItem ivZ 0 [(0, .ref (ad 70))] [] u (f_X4_tellItem u)
  unfold f_X4_tellItem
  refine go_aload_n 0 rfl dX4_tellItem_0 rfl ?_
  refine go_ldcs 0 (by decide) rfl rfl dX4_tellItem_1 ?_
  refine go_callVZ (As := fun ad => [.ref (ad 110)]) (g_X4_isWord 110 u) mv_X4_isWord clX4 kt_70 gw91 rfl ⟨Nat.le_of_ble_eq_true rfl, Nat.le_of_ble_eq_true rfl⟩ rfl (Nat.le_of_ble_eq_true rfl) dX4_tellItem_3 (fun r1 u2 => ?_)
  refine go_ifz_eq (tgt := 14) dX4_tellItem_6 (by decide) ?_ ?_
  · refine go_aload_n 0 rfl dX4_tellItem_14 rfl ?_
    refine go_ldcs 1 (by decide) rfl rfl dX4_tellItem_15 ?_
    refine go_callVZ (As := fun ad => [.ref (ad 111)]) (g_X4_isWord 111 u2) mv_X4_isWord clX4 kt_70 gw91 rfl ⟨Nat.le_of_ble_eq_true rfl, Nat.le_of_ble_eq_true rfl⟩ rfl (Nat.le_of_ble_eq_true rfl) dX4_tellItem_17 (fun r3 u4 => ?_)
    refine go_ifz_eq (tgt := 28) dX4_tellItem_20 (by decide) ?_ ?_
    · refine go_aload_n 0 rfl dX4_tellItem_28 rfl ?_
      refine go_ldcs 2 (by decide) rfl rfl dX4_tellItem_29 ?_
      refine go_callVZ (As := fun ad => [.ref (ad 112)]) (g_X4_isWord 112 u4) mv_X4_isWord clX4 kt_70 gw91 rfl ⟨Nat.le_of_ble_eq_true rfl, Nat.le_of_ble_eq_true rfl⟩ rfl (Nat.le_of_ble_eq_true rfl) dX4_tellItem_31 (fun r5 u6 => ?_)
      refine go_ifz_eq (tgt := 42) dX4_tellItem_34 (by decide) ?_ ?_
      · refine go_aload_n 0 rfl dX4_tellItem_42 rfl ?_
        refine go_callVZ (As := fun ad => []) (g_X4_tellCalendar  u6) mv_X4_tellCalendar clX4 kt_70 gw104 rfl ⟨Nat.le_of_ble_eq_true rfl, Nat.le_of_ble_eq_true rfl⟩ rfl (Nat.le_of_ble_eq_true rfl) dX4_tellItem_43 (fun r7 u8 => ?_)
        exact go_zret rfl dX4_tellItem_46
      · refine go_aload_n 0 rfl dX4_tellItem_37 rfl ?_
        refine go_callVZ (As := fun ad => []) (g_X4_tellPower  u6) mv_X4_tellPower clX4 kt_70 gw105 rfl ⟨Nat.le_of_ble_eq_true rfl, Nat.le_of_ble_eq_true rfl⟩ rfl (Nat.le_of_ble_eq_true rfl) dX4_tellItem_38 (fun r9 u10 => ?_)
        exact go_zret rfl dX4_tellItem_41
    · refine go_aload_n 0 rfl dX4_tellItem_23 rfl ?_
      refine go_callVZ (As := fun ad => []) (g_X4_tellTruth  u4) mv_X4_tellTruth clX4 kt_70 gw106 rfl ⟨Nat.le_of_ble_eq_true rfl, Nat.le_of_ble_eq_true rfl⟩ rfl (Nat.le_of_ble_eq_true rfl) dX4_tellItem_24 (fun r11 u12 => ?_)
      exact go_zret rfl dX4_tellItem_27
  · refine go_aload_n 0 rfl dX4_tellItem_9 rfl ?_
    refine go_callVZ (As := fun ad => []) (g_X4_tellPilgrim  u2) mv_X4_tellPilgrim clX4 kt_70 gw107 rfl ⟨Nat.le_of_ble_eq_true rfl, Nat.le_of_ble_eq_true rfl⟩ rfl (Nat.le_of_ble_eq_true rfl) dX4_tellItem_10 (fun r13 u14 => ?_)
    exact go_zret rfl dX4_tellItem_13
def b_X4_tell_15 (ih15 : Int32 × Uw → Option (Int32 × Uw)) (s : Int32 × Uw) : Option (Int32 × Uw) :=
  if (120 : Int32) < s.1 then
  (some (((-1 : Int32) - (s.2.1 7 0)), s.2))
  else
  (bd (f_X4_readToken  s.2) fun r4 u5 =>
  bd (f_X4_tellItem  u5) fun r6 u7 =>
  if r6 = true then
  (if (u7.1 7 1) = 0 then
  (some (s.1, u7))
  else
  (if (u7.1 7 1) = (3 : Int32) then
  (ih15 ((s.1 + (1 : Int32)), u7))
  else
  (some (((-1 : Int32) - (u7.1 7 2)), u7))))
  else
  (some (((-1 : Int32) - (u7.1 7 2)), u7)))
def f_X4_tell (a1 : Nat) (u : Uw) : Option (Int32 × Uw) :=
  bd (f_X3_become 46 a1 u) fun r1 u2 =>
  nm (w1 u2 7 3 (0 : Int32)) fun u3 =>
  lp b_X4_tell_15 2100 ((1 : Int32), u3)
set_option maxHeartbeats 4000000 in
set_option maxRecDepth 100000 in
theorem gl_X4_tell_15 (X : Cx) (ad : Nat → Nat) : ∀ (n : Nat) (s : Int32 × Uw), Go X ad mi_X4_tell ivI 15 [(0, .ref (ad 70)), (2, .int s.1)] [] s.2 (lp b_X4_tell_15 n s) := by
  refine go_lp (G := fun (s : Int32 × Uw) o => Go X ad mi_X4_tell ivI 15 [(0, .ref (ad 70)), (2, .int s.1)] [] s.2 o) (fun _ => go_none) (fun ih15 hih15 s => ?_)
  show Go X ad mi_X4_tell ivI 15 [(0, .ref (ad 70)), (2, .int s.1)] [] s.2 (b_X4_tell_15 ih15 s)
  unfold b_X4_tell_15
  refine go_iload_n 1 rfl dX4_tell_15 rfl ?_
  refine go_bipush (v := (120 : Int32)) dX4_tell_16 (by decide) ?_
  refine go_icmp_gt (tgt := 69) dX4_tell_18 (by decide) ?_ ?_
  · refine go_iconst (v := (-1 : Int32)) dX4_tell_69 (by decide) ?_
    refine go_aload_n 0 rfl dX4_tell_70 rfl ?_
    refine go_getIL clX4 kt_70 1 (Nat.le_of_ble_eq_true rfl) (c := 0) (fun _ => rfl) kr_70 gw59 dX4_tell_71 ?_
    refine go_isub dX4_tell_74 ?_
    exact go_iret rfl dX4_tell_75
  · refine go_aload_n 0 rfl dX4_tell_21 rfl ?_
    refine go_callVV (As := fun ad => []) (g_X4_readToken  s.2) mv_X4_readToken clX4 kt_70 gw89 rfl ⟨Nat.le_of_ble_eq_true rfl, Nat.le_of_ble_eq_true rfl⟩ rfl (Nat.le_of_ble_eq_true rfl) dX4_tell_22 (fun r4 u5 => ?_)
    refine go_aload_n 0 rfl dX4_tell_25 rfl ?_
    refine go_callVZ (As := fun ad => []) (g_X4_tellItem  u5) mv_X4_tellItem clX4 kt_70 gw109 rfl ⟨Nat.le_of_ble_eq_true rfl, Nat.le_of_ble_eq_true rfl⟩ rfl (Nat.le_of_ble_eq_true rfl) dX4_tell_26 (fun r6 u7 => ?_)
    refine go_ifz_ne (tgt := 39) dX4_tell_29 (by decide) ?_ ?_
    · refine go_aload_n 0 rfl dX4_tell_39 rfl ?_
      refine go_getIL clX4 kt_70 3 (Nat.le_of_ble_eq_true rfl) (c := 1) (fun _ => rfl) kr_70 gw68 dX4_tell_40 ?_
      refine go_if_ne (tgt := 48) dX4_tell_43 (by decide) ?_ ?_
      · refine go_aload_n 0 rfl dX4_tell_48 rfl ?_
        refine go_getIL clX4 kt_70 3 (Nat.le_of_ble_eq_true rfl) (c := 1) (fun _ => rfl) kr_70 gw68 dX4_tell_49 ?_
        refine go_iconst (v := (3 : Int32)) dX4_tell_52 (by decide) ?_
        refine go_icmp_eq (tgt := 63) dX4_tell_53 (by decide) ?_ ?_
        · refine go_iinc (v := (s.1 + (1 : Int32))) (lv' := [(2, .int (s.1 + (1 : Int32))), (0, .ref (ad 70))]) 1 rfl dX4_tell_63 rfl (Nat.le_of_ble_eq_true rfl) rfl ?_
          refine go_goto (tgt := 15) dX4_tell_66 (by decide) ?_
          exact go_sub [1, 0] rfl (hih15 ((s.1 + (1 : Int32)), u7))
        · refine go_iconst (v := (-1 : Int32)) dX4_tell_56 (by decide) ?_
          refine go_aload_n 0 rfl dX4_tell_57 rfl ?_
          refine go_getIL clX4 kt_70 4 (Nat.le_of_ble_eq_true rfl) (c := 2) (fun _ => rfl) kr_70 gw62 dX4_tell_58 ?_
          refine go_isub dX4_tell_61 ?_
          exact go_iret rfl dX4_tell_62
      · refine go_iload_n 1 rfl dX4_tell_46 rfl ?_
        exact go_iret rfl dX4_tell_47
    · refine go_iconst (v := (-1 : Int32)) dX4_tell_32 (by decide) ?_
      refine go_aload_n 0 rfl dX4_tell_33 rfl ?_
      refine go_getIL clX4 kt_70 4 (Nat.le_of_ble_eq_true rfl) (c := 2) (fun _ => rfl) kr_70 gw62 dX4_tell_34 ?_
      refine go_isub dX4_tell_37 ?_
      exact go_iret rfl dX4_tell_38
set_option maxHeartbeats 4000000 in
set_option maxRecDepth 100000 in
theorem g_X4_tell (a1 : Nat) (u : Uw) : ∀ l, Con l yX4_tell mi_X4_tell ivI (fun ad => [.ref (ad 70), .ref (ad a1)]) u (f_X4_tell a1 u) := by
  refine con_of (by decide) rfl (fun _ => Nat.le_of_ble_eq_true rfl) (fun X ad => ?_)
  show Go X ad mi_X4_tell ivI 0 [(0, .ref (ad 70)), (1, .ref (ad a1))] [] u (f_X4_tell a1 u)
  unfold f_X4_tell
  refine go_aload_n 0 rfl dX4_tell_0 rfl ?_
  refine go_getR clX4 kt_70 2 (Nat.le_of_ble_eq_true rfl) (f := 46) (fun _ => rfl) gw87 dX4_tell_1 ?_
  refine go_aload_n 1 rfl dX4_tell_4 rfl ?_
  refine go_callVV (As := fun ad => [.ref (ad a1)]) (g_X3_become 46 a1 u) mv_X3_become clX3 kt_46 gw108 rfl ⟨Nat.le_of_ble_eq_true rfl, Nat.le_of_ble_eq_true rfl⟩ rfl (Nat.le_of_ble_eq_true rfl) dX4_tell_5 (fun r1 u2 => ?_)
  refine go_aload_n 0 rfl dX4_tell_8 rfl ?_
  refine go_iconst (v := (0 : Int32)) dX4_tell_9 (by decide) ?_
  refine go_putIL clX4 kt_70 5 (Nat.le_of_ble_eq_true rfl) (c := 3) (fun _ => rfl) (by decide) kr_70 (fty := .int) (tyX4_ok 5 (Nat.le_of_ble_eq_true rfl)) rfl rfl rfl (fun _ => Nat.le_of_ble_eq_true rfl) gw61 dX4_tell_10 ?_
  refine go_nmU (fun u3 => ?_)
  refine go_iconst (v := (1 : Int32)) dX4_tell_13 (by decide) ?_
  refine go_istore_n (lv' := [(2, .int (1 : Int32)), (0, .ref (ad 70)), (1, .ref (ad a1))]) dX4_tell_14 rfl (Nat.le_of_ble_eq_true rfl) rfl ?_
  exact go_sub [1, 0] rfl (gl_X4_tell_15 X ad  2100 ((1 : Int32), u3))
def f_X5_found (a1 : Int32) (u : Uw) : Option (Int32 × Uw) :=
  nm ((-1000000001 : Int32) - a1) fun x1 =>
  if x1 < 0 then
  (some (a1, u))
  else
  (if (7 : Int32) ≤ x1 then
  (some (a1, u))
  else
  (ck (inb x1 7) <|
  nm (u.1 3 x1.toNatClampNeg) fun x3 =>
  nm (w1 u 3 x1.toNatClampNeg (x3 + (1 : Int32))) fun u4 =>
  some (a1, u4)))
set_option maxHeartbeats 4000000 in
set_option maxRecDepth 100000 in
theorem g_X5_found (a1 : Int32) (u : Uw) : ∀ l, Con l yX5_found mi_X5_found ivI (fun ad => [.ref (ad 69), .int a1]) u (f_X5_found a1 u) := by
  refine con_of (by decide) rfl (fun _ => Nat.le_of_ble_eq_true rfl) (fun X ad => ?_)
  show Go X ad mi_X5_found ivI 0 [(0, .ref (ad 69)), (1, .int a1)] [] u (f_X5_found a1 u)
  unfold f_X5_found
  refine go_ldc (v := (-1000000001 : Int32)) gw110 dX5_found_0 ?_
  refine go_iload_n 1 rfl dX5_found_2 rfl ?_
  refine go_isub dX5_found_3 ?_
  refine go_nm (fun x1 => ?_)
  refine go_istore_n (lv' := [(2, .int x1), (0, .ref (ad 69)), (1, .int a1)]) dX5_found_4 rfl (Nat.le_of_ble_eq_true rfl) rfl ?_
  refine go_iload_n 0 rfl dX5_found_5 rfl ?_
  refine go_if_lt (tgt := 28) dX5_found_6 (by decide) ?_ ?_
  · refine go_iload_n 2 rfl dX5_found_28 rfl ?_
    exact go_iret rfl dX5_found_29
  · refine go_iload_n 0 rfl dX5_found_9 rfl ?_
    refine go_aload_n 1 rfl dX5_found_10 rfl ?_
    refine go_getR clX5 kt_69 5 (Nat.le_of_ble_eq_true rfl) (f := 81) (fun _ => rfl) gw111 dX5_found_11 ?_
    refine go_alen10 (v := (7 : Int32)) kt_81 (by rw [kl_81]; decide) dX5_found_14 ?_
    refine go_icmp_ge (tgt := 28) dX5_found_15 (by decide) ?_ ?_
    · refine go_iload_n 2 rfl dX5_found_28 rfl ?_
      exact go_iret rfl dX5_found_29
    · refine go_aload_n 1 rfl dX5_found_18 rfl ?_
      refine go_getR clX5 kt_69 5 (Nat.le_of_ble_eq_true rfl) (f := 81) (fun _ => rfl) gw111 dX5_found_19 ?_
      refine go_iload_n 0 rfl dX5_found_22 rfl ?_
      refine go_dup2 dX5_found_23 rfl rfl ?_
      refine go_ck (fun h2 => ?_)
      refine go_ialdL kt_81 kr_81 kl_81 h2 dX5_found_24 ?_
      refine go_nm (fun x3 => ?_)
      refine go_iconst (v := (1 : Int32)) dX5_found_25 (by decide) ?_
      refine go_iadd dX5_found_26 ?_
      refine go_iastL kt_81 kr_81 kl_81 h2 dX5_found_27 ?_
      refine go_nmU (fun u4 => ?_)
      refine go_iload_n 2 rfl dX5_found_28 rfl ?_
      exact go_iret rfl dX5_found_29
def f_X5_calendar (a1 : Int32) (u : Uw) : Option (Int32 × Uw) :=
  bd (f_X0_allows (0 : Int32) a1 u) fun r1 u2 =>
  if r1 = true then
  (if (u2.1 0 0) < (6 : Int32) then
  (bd (f_X3_addCalendar 0 a1 u2) fun r3 u4 =>
  some (((u4.1 0 0) - (1 : Int32)), u4))
  else
  (bd (f_X5_found (-1000000002 : Int32) u2) fun r5 u6 =>
  some (r5, u6)))
  else
  (bd (f_X5_found (-1000000001 : Int32) u2) fun r7 u8 =>
  some (r7, u8))
set_option maxHeartbeats 4000000 in
set_option maxRecDepth 100000 in
theorem g_X5_calendar (a1 : Int32) (u : Uw) : ∀ l, Con l yX5_calendar mi_X5_calendar ivI (fun ad => [.ref (ad 69), .int a1]) u (f_X5_calendar a1 u) := by
  refine con_of (by decide) rfl (fun _ => Nat.le_of_ble_eq_true rfl) (fun X ad => ?_)
  show Go X ad mi_X5_calendar ivI 0 [(0, .ref (ad 69)), (1, .int a1)] [] u (f_X5_calendar a1 u)
  unfold f_X5_calendar
  refine go_iconst (v := (0 : Int32)) dX5_calendar_0 (by decide) ?_
  refine go_iload_n 1 rfl dX5_calendar_1 rfl ?_
  refine go_callSZ (As := fun ad => [.int (0 : Int32), .int a1]) (g_X0_allows (0 : Int32) a1 u) mo_X0_allows gw10 gw112 rfl ⟨Nat.le_of_ble_eq_true rfl, Nat.le_of_ble_eq_true rfl⟩ rfl (Nat.le_of_ble_eq_true rfl) dX5_calendar_2 (fun r1 u2 => ?_)
  refine go_ifz_ne (tgt := 15) dX5_calendar_5 (by decide) ?_ ?_
  · refine go_aload_n 0 rfl dX5_calendar_15 rfl ?_
    refine go_getR clX5 kt_69 0 (Nat.le_of_ble_eq_true rfl) (f := 0) (fun _ => rfl) gw113 dX5_calendar_16 ?_
    refine go_getILN clX3 kt_0 5 (Nat.le_of_ble_eq_true rfl) (c := 0) (fun _ => rfl) kr_0 gn114 dX5_calendar_19 ?_
    refine go_bipush (v := (6 : Int32)) dX5_calendar_22 (by decide) ?_
    refine go_icmp_lt (tgt := 34) dX5_calendar_24 (by decide) ?_ ?_
    · refine go_aload_n 0 rfl dX5_calendar_34 rfl ?_
      refine go_getR clX5 kt_69 0 (Nat.le_of_ble_eq_true rfl) (f := 0) (fun _ => rfl) gw113 dX5_calendar_35 ?_
      refine go_iload_n 1 rfl dX5_calendar_38 rfl ?_
      refine go_callVV (As := fun ad => [.int a1]) (g_X3_addCalendar 0 a1 u2) mv_X3_addCalendar clX3 kt_0 gw115 rfl ⟨Nat.le_of_ble_eq_true rfl, Nat.le_of_ble_eq_true rfl⟩ rfl (Nat.le_of_ble_eq_true rfl) dX5_calendar_39 (fun r3 u4 => ?_)
      refine go_aload_n 0 rfl dX5_calendar_42 rfl ?_
      refine go_getR clX5 kt_69 0 (Nat.le_of_ble_eq_true rfl) (f := 0) (fun _ => rfl) gw113 dX5_calendar_43 ?_
      refine go_getILN clX3 kt_0 5 (Nat.le_of_ble_eq_true rfl) (c := 0) (fun _ => rfl) kr_0 gn114 dX5_calendar_46 ?_
      refine go_iconst (v := (1 : Int32)) dX5_calendar_49 (by decide) ?_
      refine go_isub dX5_calendar_50 ?_
      exact go_iret rfl dX5_calendar_51
    · refine go_aload_n 0 rfl dX5_calendar_27 rfl ?_
      refine go_ldc (v := (-1000000002 : Int32)) gw116 dX5_calendar_28 ?_
      refine go_callVI (As := fun ad => [.int (-1000000002 : Int32)]) (g_X5_found (-1000000002 : Int32) u2) mv_X5_found clX5 kt_69 gw117 rfl ⟨Nat.le_of_ble_eq_true rfl, Nat.le_of_ble_eq_true rfl⟩ rfl (Nat.le_of_ble_eq_true rfl) dX5_calendar_30 (fun r5 u6 => ?_)
      exact go_iret rfl dX5_calendar_33
  · refine go_aload_n 0 rfl dX5_calendar_8 rfl ?_
    refine go_ldc (v := (-1000000001 : Int32)) gw110 dX5_calendar_9 ?_
    refine go_callVI (As := fun ad => [.int (-1000000001 : Int32)]) (g_X5_found (-1000000001 : Int32) u2) mv_X5_found clX5 kt_69 gw117 rfl ⟨Nat.le_of_ble_eq_true rfl, Nat.le_of_ble_eq_true rfl⟩ rfl (Nat.le_of_ble_eq_true rfl) dX5_calendar_11 (fun r7 u8 => ?_)
    exact go_iret rfl dX5_calendar_14
def f_X5_of (a1 : Int32) (a2 : Int32) (u : Uw) : Option (Int32 × Uw) :=
  bd (f_X3_calendarAt 0 a1 u) fun r1 u2 =>
  ro r1
  (bd (f_X5_found (-1000000001 : Int32) u2) fun r3 u4 =>
  some (r3, u4))
  (fun e5 =>
  bd (f_X0_isField a2 u2) fun r6 u7 =>
  if r6 = true then
  (ck (kT e5 == 0) <|
  bd (f_X0_value e5 a2 u7) fun r9 u10 =>
  some (r9, u10))
  else
  (bd (f_X5_found (-1000000001 : Int32) u7) fun r11 u12 =>
  some (r11, u12)))
set_option maxHeartbeats 4000000 in
set_option maxRecDepth 100000 in
theorem g_X5_of (a1 : Int32) (a2 : Int32) (u : Uw) : ∀ l, Con l yX5_of mi_X5_of ivI (fun ad => [.ref (ad 69), .int a1, .int a2]) u (f_X5_of a1 a2 u) := by
  refine con_of (by decide) rfl (fun _ => Nat.le_of_ble_eq_true rfl) (fun X ad => ?_)
  show Go X ad mi_X5_of ivI 0 [(0, .ref (ad 69)), (1, .int a1), (2, .int a2)] [] u (f_X5_of a1 a2 u)
  unfold f_X5_of
  refine go_aload_n 0 rfl dX5_of_0 rfl ?_
  refine go_getR clX5 kt_69 0 (Nat.le_of_ble_eq_true rfl) (f := 0) (fun _ => rfl) gw113 dX5_of_1 ?_
  refine go_iload_n 1 rfl dX5_of_4 rfl ?_
  refine go_callVR (As := fun ad => [.int a1]) (g_X3_calendarAt 0 a1 u) mv_X3_calendarAt clX3 kt_0 gw118 rfl ⟨Nat.le_of_ble_eq_true rfl, Nat.le_of_ble_eq_true rfl⟩ rfl (Nat.le_of_ble_eq_true rfl) dX5_of_5 (fun r1 u2 => ?_)
  refine go_ro ?_ (fun e5 => ?_)
  · refine go_astore_nN (lv' := [(3, .null), (0, .ref (ad 69)), (1, .int a1), (2, .int a2)]) dX5_of_8 rfl (Nat.le_of_ble_eq_true rfl) rfl ?_
    refine go_aload_nN 0 rfl dX5_of_9 rfl ?_
    refine go_ifnullN (tgt := 20) dX5_of_10 (by decide) ?_
    refine go_aload_n 1 rfl dX5_of_20 rfl ?_
    refine go_ldc (v := (-1000000001 : Int32)) gw110 dX5_of_21 ?_
    refine go_callVI (As := fun ad => [.int (-1000000001 : Int32)]) (g_X5_found (-1000000001 : Int32) u2) mv_X5_found clX5 kt_69 gw117 rfl ⟨Nat.le_of_ble_eq_true rfl, Nat.le_of_ble_eq_true rfl⟩ rfl (Nat.le_of_ble_eq_true rfl) dX5_of_23 (fun r3 u4 => ?_)
    exact go_iret rfl dX5_of_26
  · refine go_astore_n (lv' := [(3, .ref (ad e5)), (0, .ref (ad 69)), (1, .int a1), (2, .int a2)]) dX5_of_8 rfl (Nat.le_of_ble_eq_true rfl) rfl ?_
    refine go_aload_n 0 rfl dX5_of_9 rfl ?_
    refine go_ifnull dX5_of_10 ?_
    refine go_iload_n 3 rfl dX5_of_13 rfl ?_
    refine go_callSZ (As := fun ad => [.int a2]) (g_X0_isField a2 u2) mo_X0_isField gw0 gw119 rfl ⟨Nat.le_of_ble_eq_true rfl, Nat.le_of_ble_eq_true rfl⟩ rfl (Nat.le_of_ble_eq_true rfl) dX5_of_14 (fun r6 u7 => ?_)
    refine go_ifz_ne (tgt := 27) dX5_of_17 (by decide) ?_ ?_
    · refine go_aload_n 0 rfl dX5_of_27 rfl ?_
      refine go_iload_n 3 rfl dX5_of_28 rfl ?_
      refine go_ck (fun h8 => ?_)
      refine go_callVI (As := fun ad => [.int a2]) (g_X0_value e5 a2 u7) mv_X0_value clX0 h8 gw120 rfl ⟨Nat.le_of_ble_eq_true rfl, Nat.le_of_ble_eq_true rfl⟩ rfl (Nat.le_of_ble_eq_true rfl) dX5_of_29 (fun r9 u10 => ?_)
      exact go_iret rfl dX5_of_32
    · refine go_aload_n 1 rfl dX5_of_20 rfl ?_
      refine go_ldc (v := (-1000000001 : Int32)) gw110 dX5_of_21 ?_
      refine go_callVI (As := fun ad => [.int (-1000000001 : Int32)]) (g_X5_found (-1000000001 : Int32) u7) mv_X5_found clX5 kt_69 gw117 rfl ⟨Nat.le_of_ble_eq_true rfl, Nat.le_of_ble_eq_true rfl⟩ rfl (Nat.le_of_ble_eq_true rfl) dX5_of_23 (fun r11 u12 => ?_)
      exact go_iret rfl dX5_of_26
def f_X5_set (a1 : Int32) (a2 : Int32) (a3 : Int32) (u : Uw) : Option (Int32 × Uw) :=
  bd (f_X3_calendarAt 0 a1 u) fun r1 u2 =>
  ro r1
  (bd (f_X5_found (-1000000001 : Int32) u2) fun r3 u4 =>
  some (r3, u4))
  (fun e5 =>
  if a2 = 0 then
  (bd (f_X5_found (-1000000001 : Int32) u2) fun r6 u7 =>
  some (r6, u7))
  else
  (bd (f_X0_allows a2 a3 u2) fun r8 u9 =>
  if r8 = true then
  (ck (kT e5 == 0) <|
  bd (f_X0_change e5 a2 a3 u9) fun r11 u12 =>
  some (r11, u12))
  else
  (bd (f_X5_found (-1000000001 : Int32) u9) fun r13 u14 =>
  some (r13, u14))))
set_option maxHeartbeats 4000000 in
set_option maxRecDepth 100000 in
theorem g_X5_set (a1 : Int32) (a2 : Int32) (a3 : Int32) (u : Uw) : ∀ l, Con l yX5_set mi_X5_set ivI (fun ad => [.ref (ad 69), .int a1, .int a2, .int a3]) u (f_X5_set a1 a2 a3 u) := by
  refine con_of (by decide) rfl (fun _ => Nat.le_of_ble_eq_true rfl) (fun X ad => ?_)
  show Go X ad mi_X5_set ivI 0 [(0, .ref (ad 69)), (1, .int a1), (2, .int a2), (3, .int a3)] [] u (f_X5_set a1 a2 a3 u)
  unfold f_X5_set
  refine go_aload_n 0 rfl dX5_set_0 rfl ?_
  refine go_getR clX5 kt_69 0 (Nat.le_of_ble_eq_true rfl) (f := 0) (fun _ => rfl) gw113 dX5_set_1 ?_
  refine go_iload_n 1 rfl dX5_set_4 rfl ?_
  refine go_callVR (As := fun ad => [.int a1]) (g_X3_calendarAt 0 a1 u) mv_X3_calendarAt clX3 kt_0 gw118 rfl ⟨Nat.le_of_ble_eq_true rfl, Nat.le_of_ble_eq_true rfl⟩ rfl (Nat.le_of_ble_eq_true rfl) dX5_set_5 (fun r1 u2 => ?_)
  refine go_ro ?_ (fun e5 => ?_)
  · refine go_astoreN (lv' := [(4, .null), (0, .ref (ad 69)), (1, .int a1), (2, .int a2), (3, .int a3)]) dX5_set_8 (Nat.le_of_ble_eq_true rfl) rfl ?_
    refine go_aloadN 0 rfl dX5_set_10 ?_
    refine go_ifnullN (tgt := 27) dX5_set_12 (by decide) ?_
    refine go_aload_n 1 rfl dX5_set_27 rfl ?_
    refine go_ldc (v := (-1000000001 : Int32)) gw110 dX5_set_28 ?_
    refine go_callVI (As := fun ad => [.int (-1000000001 : Int32)]) (g_X5_found (-1000000001 : Int32) u2) mv_X5_found clX5 kt_69 gw117 rfl ⟨Nat.le_of_ble_eq_true rfl, Nat.le_of_ble_eq_true rfl⟩ rfl (Nat.le_of_ble_eq_true rfl) dX5_set_30 (fun r3 u4 => ?_)
    exact go_iret rfl dX5_set_33
  · refine go_astore (lv' := [(4, .ref (ad e5)), (0, .ref (ad 69)), (1, .int a1), (2, .int a2), (3, .int a3)]) dX5_set_8 (Nat.le_of_ble_eq_true rfl) rfl ?_
    refine go_aload 0 rfl dX5_set_10 ?_
    refine go_ifnull dX5_set_12 ?_
    refine go_iload_n 3 rfl dX5_set_15 rfl ?_
    refine go_if_eq (tgt := 27) dX5_set_16 (by decide) ?_ ?_
    · refine go_aload_n 1 rfl dX5_set_27 rfl ?_
      refine go_ldc (v := (-1000000001 : Int32)) gw110 dX5_set_28 ?_
      refine go_callVI (As := fun ad => [.int (-1000000001 : Int32)]) (g_X5_found (-1000000001 : Int32) u2) mv_X5_found clX5 kt_69 gw117 rfl ⟨Nat.le_of_ble_eq_true rfl, Nat.le_of_ble_eq_true rfl⟩ rfl (Nat.le_of_ble_eq_true rfl) dX5_set_30 (fun r6 u7 => ?_)
      exact go_iret rfl dX5_set_33
    · refine go_iload_n 3 rfl dX5_set_19 rfl ?_
      refine go_iload_n 4 rfl dX5_set_20 rfl ?_
      refine go_callSZ (As := fun ad => [.int a2, .int a3]) (g_X0_allows a2 a3 u2) mo_X0_allows gw10 gw112 rfl ⟨Nat.le_of_ble_eq_true rfl, Nat.le_of_ble_eq_true rfl⟩ rfl (Nat.le_of_ble_eq_true rfl) dX5_set_21 (fun r8 u9 => ?_)
      refine go_ifz_ne (tgt := 34) dX5_set_24 (by decide) ?_ ?_
      · refine go_aload 0 rfl dX5_set_34 ?_
        refine go_iload_n 3 rfl dX5_set_36 rfl ?_
        refine go_iload_n 4 rfl dX5_set_37 rfl ?_
        refine go_ck (fun h10 => ?_)
        refine go_callVI (As := fun ad => [.int a2, .int a3]) (g_X0_change e5 a2 a3 u9) mv_X0_change clX0 h10 gw121 rfl ⟨Nat.le_of_ble_eq_true rfl, Nat.le_of_ble_eq_true rfl⟩ rfl (Nat.le_of_ble_eq_true rfl) dX5_set_38 (fun r11 u12 => ?_)
        exact go_iret rfl dX5_set_41
      · refine go_aload_n 1 rfl dX5_set_27 rfl ?_
        refine go_ldc (v := (-1000000001 : Int32)) gw110 dX5_set_28 ?_
        refine go_callVI (As := fun ad => [.int (-1000000001 : Int32)]) (g_X5_found (-1000000001 : Int32) u9) mv_X5_found clX5 kt_69 gw117 rfl ⟨Nat.le_of_ble_eq_true rfl, Nat.le_of_ble_eq_true rfl⟩ rfl (Nat.le_of_ble_eq_true rfl) dX5_set_30 (fun r13 u14 => ?_)
        exact go_iret rfl dX5_set_33
def f_X5_turn (a1 : Int32) (a2 : Int32) (u : Uw) : Option (Int32 × Uw) :=
  bd (f_X3_calendarAt 0 a1 u) fun r1 u2 =>
  ro r1
  (bd (f_X5_found (-1000000001 : Int32) u2) fun r3 u4 =>
  some (r3, u4))
  (fun e5 =>
  bd (f_X0_allows (0 : Int32) a2 u2) fun r6 u7 =>
  if r6 = true then
  (ck (kT e5 == 0) <|
  bd (f_X0_change e5 (0 : Int32) a2 u7) fun r9 u10 =>
  some (r9, u10))
  else
  (bd (f_X5_found (-1000000001 : Int32) u7) fun r11 u12 =>
  some (r11, u12)))
set_option maxHeartbeats 4000000 in
set_option maxRecDepth 100000 in
theorem g_X5_turn (a1 : Int32) (a2 : Int32) (u : Uw) : ∀ l, Con l yX5_turn mi_X5_turn ivI (fun ad => [.ref (ad 69), .int a1, .int a2]) u (f_X5_turn a1 a2 u) := by
  refine con_of (by decide) rfl (fun _ => Nat.le_of_ble_eq_true rfl) (fun X ad => ?_)
  show Go X ad mi_X5_turn ivI 0 [(0, .ref (ad 69)), (1, .int a1), (2, .int a2)] [] u (f_X5_turn a1 a2 u)
  unfold f_X5_turn
  refine go_aload_n 0 rfl dX5_turn_0 rfl ?_
  refine go_getR clX5 kt_69 0 (Nat.le_of_ble_eq_true rfl) (f := 0) (fun _ => rfl) gw113 dX5_turn_1 ?_
  refine go_iload_n 1 rfl dX5_turn_4 rfl ?_
  refine go_callVR (As := fun ad => [.int a1]) (g_X3_calendarAt 0 a1 u) mv_X3_calendarAt clX3 kt_0 gw118 rfl ⟨Nat.le_of_ble_eq_true rfl, Nat.le_of_ble_eq_true rfl⟩ rfl (Nat.le_of_ble_eq_true rfl) dX5_turn_5 (fun r1 u2 => ?_)
  refine go_ro ?_ (fun e5 => ?_)
  · refine go_astore_nN (lv' := [(3, .null), (0, .ref (ad 69)), (1, .int a1), (2, .int a2)]) dX5_turn_8 rfl (Nat.le_of_ble_eq_true rfl) rfl ?_
    refine go_aload_nN 0 rfl dX5_turn_9 rfl ?_
    refine go_ifnullN (tgt := 21) dX5_turn_10 (by decide) ?_
    refine go_aload_n 1 rfl dX5_turn_21 rfl ?_
    refine go_ldc (v := (-1000000001 : Int32)) gw110 dX5_turn_22 ?_
    refine go_callVI (As := fun ad => [.int (-1000000001 : Int32)]) (g_X5_found (-1000000001 : Int32) u2) mv_X5_found clX5 kt_69 gw117 rfl ⟨Nat.le_of_ble_eq_true rfl, Nat.le_of_ble_eq_true rfl⟩ rfl (Nat.le_of_ble_eq_true rfl) dX5_turn_24 (fun r3 u4 => ?_)
    exact go_iret rfl dX5_turn_27
  · refine go_astore_n (lv' := [(3, .ref (ad e5)), (0, .ref (ad 69)), (1, .int a1), (2, .int a2)]) dX5_turn_8 rfl (Nat.le_of_ble_eq_true rfl) rfl ?_
    refine go_aload_n 0 rfl dX5_turn_9 rfl ?_
    refine go_ifnull dX5_turn_10 ?_
    refine go_iconst (v := (0 : Int32)) dX5_turn_13 (by decide) ?_
    refine go_iload_n 3 rfl dX5_turn_14 rfl ?_
    refine go_callSZ (As := fun ad => [.int (0 : Int32), .int a2]) (g_X0_allows (0 : Int32) a2 u2) mo_X0_allows gw10 gw112 rfl ⟨Nat.le_of_ble_eq_true rfl, Nat.le_of_ble_eq_true rfl⟩ rfl (Nat.le_of_ble_eq_true rfl) dX5_turn_15 (fun r6 u7 => ?_)
    refine go_ifz_ne (tgt := 28) dX5_turn_18 (by decide) ?_ ?_
    · refine go_aload_n 0 rfl dX5_turn_28 rfl ?_
      refine go_iconst (v := (0 : Int32)) dX5_turn_29 (by decide) ?_
      refine go_iload_n 3 rfl dX5_turn_30 rfl ?_
      refine go_ck (fun h8 => ?_)
      refine go_callVI (As := fun ad => [.int (0 : Int32), .int a2]) (g_X0_change e5 (0 : Int32) a2 u7) mv_X0_change clX0 h8 gw121 rfl ⟨Nat.le_of_ble_eq_true rfl, Nat.le_of_ble_eq_true rfl⟩ rfl (Nat.le_of_ble_eq_true rfl) dX5_turn_31 (fun r9 u10 => ?_)
      exact go_iret rfl dX5_turn_34
    · refine go_aload_n 1 rfl dX5_turn_21 rfl ?_
      refine go_ldc (v := (-1000000001 : Int32)) gw110 dX5_turn_22 ?_
      refine go_callVI (As := fun ad => [.int (-1000000001 : Int32)]) (g_X5_found (-1000000001 : Int32) u7) mv_X5_found clX5 kt_69 gw117 rfl ⟨Nat.le_of_ble_eq_true rfl, Nat.le_of_ble_eq_true rfl⟩ rfl (Nat.le_of_ble_eq_true rfl) dX5_turn_24 (fun r11 u12 => ?_)
      exact go_iret rfl dX5_turn_27
def f_X5_as (a1 : Int32) (a2 : Int32) (u : Uw) : Option (Int32 × Uw) :=
  bd (f_X3_calendarAt 0 a1 u) fun r1 u2 =>
  ro r1
  (bd (f_X5_found (-1000000001 : Int32) u2) fun r3 u4 =>
  some (r3, u4))
  (fun e5 =>
  bd (f_X0_allows (0 : Int32) a2 u2) fun r6 u7 =>
  if r6 = true then
  (ck (kT e5 == 0) <|
  bd (f_X0_isOfKind e5 a2 u7) fun r9 u10 =>
  if r9 = true then
  (bd (f_X0_value e5 (1 : Int32) u10) fun r11 u12 =>
  some (r11, u12))
  else
  (bd (f_X5_found (-1000000003 : Int32) u10) fun r13 u14 =>
  some (r13, u14)))
  else
  (bd (f_X5_found (-1000000001 : Int32) u7) fun r15 u16 =>
  some (r15, u16)))
set_option maxHeartbeats 4000000 in
set_option maxRecDepth 100000 in
theorem g_X5_as (a1 : Int32) (a2 : Int32) (u : Uw) : ∀ l, Con l yX5_as mi_X5_as ivI (fun ad => [.ref (ad 69), .int a1, .int a2]) u (f_X5_as a1 a2 u) := by
  refine con_of (by decide) rfl (fun _ => Nat.le_of_ble_eq_true rfl) (fun X ad => ?_)
  show Go X ad mi_X5_as ivI 0 [(0, .ref (ad 69)), (1, .int a1), (2, .int a2)] [] u (f_X5_as a1 a2 u)
  unfold f_X5_as
  refine go_aload_n 0 rfl dX5_as_0 rfl ?_
  refine go_getR clX5 kt_69 0 (Nat.le_of_ble_eq_true rfl) (f := 0) (fun _ => rfl) gw113 dX5_as_1 ?_
  refine go_iload_n 1 rfl dX5_as_4 rfl ?_
  refine go_callVR (As := fun ad => [.int a1]) (g_X3_calendarAt 0 a1 u) mv_X3_calendarAt clX3 kt_0 gw118 rfl ⟨Nat.le_of_ble_eq_true rfl, Nat.le_of_ble_eq_true rfl⟩ rfl (Nat.le_of_ble_eq_true rfl) dX5_as_5 (fun r1 u2 => ?_)
  refine go_ro ?_ (fun e5 => ?_)
  · refine go_astore_nN (lv' := [(3, .null), (0, .ref (ad 69)), (1, .int a1), (2, .int a2)]) dX5_as_8 rfl (Nat.le_of_ble_eq_true rfl) rfl ?_
    refine go_aload_nN 0 rfl dX5_as_9 rfl ?_
    refine go_ifnullN (tgt := 21) dX5_as_10 (by decide) ?_
    refine go_aload_n 1 rfl dX5_as_21 rfl ?_
    refine go_ldc (v := (-1000000001 : Int32)) gw110 dX5_as_22 ?_
    refine go_callVI (As := fun ad => [.int (-1000000001 : Int32)]) (g_X5_found (-1000000001 : Int32) u2) mv_X5_found clX5 kt_69 gw117 rfl ⟨Nat.le_of_ble_eq_true rfl, Nat.le_of_ble_eq_true rfl⟩ rfl (Nat.le_of_ble_eq_true rfl) dX5_as_24 (fun r3 u4 => ?_)
    exact go_iret rfl dX5_as_27
  · refine go_astore_n (lv' := [(3, .ref (ad e5)), (0, .ref (ad 69)), (1, .int a1), (2, .int a2)]) dX5_as_8 rfl (Nat.le_of_ble_eq_true rfl) rfl ?_
    refine go_aload_n 0 rfl dX5_as_9 rfl ?_
    refine go_ifnull dX5_as_10 ?_
    refine go_iconst (v := (0 : Int32)) dX5_as_13 (by decide) ?_
    refine go_iload_n 3 rfl dX5_as_14 rfl ?_
    refine go_callSZ (As := fun ad => [.int (0 : Int32), .int a2]) (g_X0_allows (0 : Int32) a2 u2) mo_X0_allows gw10 gw112 rfl ⟨Nat.le_of_ble_eq_true rfl, Nat.le_of_ble_eq_true rfl⟩ rfl (Nat.le_of_ble_eq_true rfl) dX5_as_15 (fun r6 u7 => ?_)
    refine go_ifz_ne (tgt := 28) dX5_as_18 (by decide) ?_ ?_
    · refine go_aload_n 0 rfl dX5_as_28 rfl ?_
      refine go_iload_n 3 rfl dX5_as_29 rfl ?_
      refine go_ck (fun h8 => ?_)
      refine go_callVZ (As := fun ad => [.int a2]) (g_X0_isOfKind e5 a2 u7) mv_X0_isOfKind clX0 h8 gw122 rfl ⟨Nat.le_of_ble_eq_true rfl, Nat.le_of_ble_eq_true rfl⟩ rfl (Nat.le_of_ble_eq_true rfl) dX5_as_30 (fun r9 u10 => ?_)
      refine go_ifz_ne (tgt := 43) dX5_as_33 (by decide) ?_ ?_
      · refine go_aload_n 0 rfl dX5_as_43 rfl ?_
        refine go_iconst (v := (1 : Int32)) dX5_as_44 (by decide) ?_
        refine go_callVI (As := fun ad => [.int (1 : Int32)]) (g_X0_value e5 (1 : Int32) u10) mv_X0_value clX0 h8 gw120 rfl ⟨Nat.le_of_ble_eq_true rfl, Nat.le_of_ble_eq_true rfl⟩ rfl (Nat.le_of_ble_eq_true rfl) dX5_as_45 (fun r11 u12 => ?_)
        exact go_iret rfl dX5_as_48
      · refine go_aload_n 1 rfl dX5_as_36 rfl ?_
        refine go_ldc (v := (-1000000003 : Int32)) gw123 dX5_as_37 ?_
        refine go_callVI (As := fun ad => [.int (-1000000003 : Int32)]) (g_X5_found (-1000000003 : Int32) u10) mv_X5_found clX5 kt_69 gw117 rfl ⟨Nat.le_of_ble_eq_true rfl, Nat.le_of_ble_eq_true rfl⟩ rfl (Nat.le_of_ble_eq_true rfl) dX5_as_39 (fun r13 u14 => ?_)
        exact go_iret rfl dX5_as_42
    · refine go_aload_n 1 rfl dX5_as_21 rfl ?_
      refine go_ldc (v := (-1000000001 : Int32)) gw110 dX5_as_22 ?_
      refine go_callVI (As := fun ad => [.int (-1000000001 : Int32)]) (g_X5_found (-1000000001 : Int32) u7) mv_X5_found clX5 kt_69 gw117 rfl ⟨Nat.le_of_ble_eq_true rfl, Nat.le_of_ble_eq_true rfl⟩ rfl (Nat.le_of_ble_eq_true rfl) dX5_as_24 (fun r15 u16 => ?_)
      exact go_iret rfl dX5_as_27
def f_X5_date (a1 : Int32) (a2 : Int32) (a3 : Int32) (u : Uw) : Option (Int32 × Uw) :=
  bd (f_X3_calendarAt 0 a1 u) fun r1 u2 =>
  ro r1
  (bd (f_X5_found (-1000000001 : Int32) u2) fun r3 u4 =>
  some (r3, u4))
  (fun e5 =>
  bd (f_X5_within a2 (0 : Int32) (99999 : Int32) u2) fun r6 u7 =>
  if r6 = true then
  (bd (f_X5_within a3 (0 : Int32) (3 : Int32) u7) fun r10 u11 =>
  if r10 = true then
  (nm a3 fun x12 =>
  if x12 = (0 : Int32) then
  (ck (kT e5 == 0) <|
  bd (f_X0_dateAt e5 a2 u11) fun r14 u15 =>
  some (r14, u15))
  else
  (if x12 = (1 : Int32) then
  (ck (kT e5 == 0) <|
  bd (f_X0_monthAt e5 a2 u11) fun r18 u19 =>
  some (r18, u19))
  else
  (if x12 = (2 : Int32) then
  (ck (kT e5 == 0) <|
  bd (f_X0_isHoly e5 a2 u11) fun r22 u23 =>
  if r22 = true then
  (some ((1 : Int32), u23))
  else
  (some ((0 : Int32), u23)))
  else
  (ck (kT e5 == 0) <|
  bd (f_X0_runsAt e5 a2 u11) fun r26 u27 =>
  some (r26, u27)))))
  else
  (bd (f_X5_found (-1000000001 : Int32) u11) fun r28 u29 =>
  some (r28, u29)))
  else
  (bd (f_X5_found (-1000000001 : Int32) u7) fun r8 u9 =>
  some (r8, u9)))
set_option maxHeartbeats 4000000 in
set_option maxRecDepth 100000 in
theorem g_X5_date (a1 : Int32) (a2 : Int32) (a3 : Int32) (u : Uw) : ∀ l, Con l yX5_date mi_X5_date ivI (fun ad => [.ref (ad 69), .int a1, .int a2, .int a3]) u (f_X5_date a1 a2 a3 u) := by
  refine con_of (by decide) rfl (fun _ => Nat.le_of_ble_eq_true rfl) (fun X ad => ?_)
  show Go X ad mi_X5_date ivI 0 [(0, .ref (ad 69)), (1, .int a1), (2, .int a2), (3, .int a3)] [] u (f_X5_date a1 a2 a3 u)
  unfold f_X5_date
  refine go_aload_n 0 rfl dX5_date_0 rfl ?_
  refine go_getR clX5 kt_69 0 (Nat.le_of_ble_eq_true rfl) (f := 0) (fun _ => rfl) gw113 dX5_date_1 ?_
  refine go_iload_n 1 rfl dX5_date_4 rfl ?_
  refine go_callVR (As := fun ad => [.int a1]) (g_X3_calendarAt 0 a1 u) mv_X3_calendarAt clX3 kt_0 gw118 rfl ⟨Nat.le_of_ble_eq_true rfl, Nat.le_of_ble_eq_true rfl⟩ rfl (Nat.le_of_ble_eq_true rfl) dX5_date_5 (fun r1 u2 => ?_)
  refine go_ro ?_ (fun e5 => ?_)
  · refine go_astoreN (lv' := [(4, .null), (0, .ref (ad 69)), (1, .int a1), (2, .int a2), (3, .int a3)]) dX5_date_8 (Nat.le_of_ble_eq_true rfl) rfl ?_
    refine go_aloadN 0 rfl dX5_date_10 ?_
    refine go_ifnullN (tgt := 34) dX5_date_12 (by decide) ?_
    refine go_aload_n 1 rfl dX5_date_34 rfl ?_
    refine go_ldc (v := (-1000000001 : Int32)) gw110 dX5_date_35 ?_
    refine go_callVI (As := fun ad => [.int (-1000000001 : Int32)]) (g_X5_found (-1000000001 : Int32) u2) mv_X5_found clX5 kt_69 gw117 rfl ⟨Nat.le_of_ble_eq_true rfl, Nat.le_of_ble_eq_true rfl⟩ rfl (Nat.le_of_ble_eq_true rfl) dX5_date_37 (fun r3 u4 => ?_)
    exact go_iret rfl dX5_date_40
  · refine go_astore (lv' := [(4, .ref (ad e5)), (0, .ref (ad 69)), (1, .int a1), (2, .int a2), (3, .int a3)]) dX5_date_8 (Nat.le_of_ble_eq_true rfl) rfl ?_
    refine go_aload 0 rfl dX5_date_10 ?_
    refine go_ifnull dX5_date_12 ?_
    refine go_iload_n 3 rfl dX5_date_15 rfl ?_
    refine go_iconst (v := (0 : Int32)) dX5_date_16 (by decide) ?_
    refine go_ldc (v := (99999 : Int32)) gw124 dX5_date_17 ?_
    refine go_callSZ (As := fun ad => [.int a2, .int (0 : Int32), .int (99999 : Int32)]) (g_X5_within a2 (0 : Int32) (99999 : Int32) u2) mo_X5_within gw85 gw125 rfl ⟨Nat.le_of_ble_eq_true rfl, Nat.le_of_ble_eq_true rfl⟩ rfl (Nat.le_of_ble_eq_true rfl) dX5_date_19 (fun r6 u7 => ?_)
    refine go_ifz_eq (tgt := 34) dX5_date_22 (by decide) ?_ ?_
    · refine go_aload_n 1 rfl dX5_date_34 rfl ?_
      refine go_ldc (v := (-1000000001 : Int32)) gw110 dX5_date_35 ?_
      refine go_callVI (As := fun ad => [.int (-1000000001 : Int32)]) (g_X5_found (-1000000001 : Int32) u7) mv_X5_found clX5 kt_69 gw117 rfl ⟨Nat.le_of_ble_eq_true rfl, Nat.le_of_ble_eq_true rfl⟩ rfl (Nat.le_of_ble_eq_true rfl) dX5_date_37 (fun r8 u9 => ?_)
      exact go_iret rfl dX5_date_40
    · refine go_iload_n 4 rfl dX5_date_25 rfl ?_
      refine go_iconst (v := (0 : Int32)) dX5_date_26 (by decide) ?_
      refine go_iconst (v := (3 : Int32)) dX5_date_27 (by decide) ?_
      refine go_callSZ (As := fun ad => [.int a3, .int (0 : Int32), .int (3 : Int32)]) (g_X5_within a3 (0 : Int32) (3 : Int32) u7) mo_X5_within gw85 gw125 rfl ⟨Nat.le_of_ble_eq_true rfl, Nat.le_of_ble_eq_true rfl⟩ rfl (Nat.le_of_ble_eq_true rfl) dX5_date_28 (fun r10 u11 => ?_)
      refine go_ifz_ne (tgt := 41) dX5_date_31 (by decide) ?_ ?_
      · refine go_iload_n 4 rfl dX5_date_41 rfl ?_
        refine go_nm (fun x12 => ?_)
        refine go_ite (fun hx => ?_) (fun h16 => ?_)
        · subst hx
          refine go_tin (off := 26) (tgt := 68) dX5_date_42 (by decide) (by decide) (by decide) (by decide) ?_
          refine go_aload 0 rfl dX5_date_68 ?_
          refine go_iload_n 3 rfl dX5_date_70 rfl ?_
          refine go_ck (fun h13 => ?_)
          refine go_callVI (As := fun ad => [.int a2]) (g_X0_dateAt e5 a2 u11) mv_X0_dateAt clX0 h13 gw126 rfl ⟨Nat.le_of_ble_eq_true rfl, Nat.le_of_ble_eq_true rfl⟩ rfl (Nat.le_of_ble_eq_true rfl) dX5_date_71 (fun r14 u15 => ?_)
          exact go_iret rfl dX5_date_74
        · refine go_ite (fun hx => ?_) (fun h20 => ?_)
          · subst hx
            refine go_tin (off := 33) (tgt := 75) dX5_date_42 (by decide) (by decide) (by decide) (by decide) ?_
            refine go_aload 0 rfl dX5_date_75 ?_
            refine go_iload_n 3 rfl dX5_date_77 rfl ?_
            refine go_ck (fun h17 => ?_)
            refine go_callVI (As := fun ad => [.int a2]) (g_X0_monthAt e5 a2 u11) mv_X0_monthAt clX0 h17 gw127 rfl ⟨Nat.le_of_ble_eq_true rfl, Nat.le_of_ble_eq_true rfl⟩ rfl (Nat.le_of_ble_eq_true rfl) dX5_date_78 (fun r18 u19 => ?_)
            exact go_iret rfl dX5_date_81
          · refine go_ite (fun hx => ?_) (fun h24 => ?_)
            · subst hx
              refine go_tin (off := 40) (tgt := 82) dX5_date_42 (by decide) (by decide) (by decide) (by decide) ?_
              refine go_aload 0 rfl dX5_date_82 ?_
              refine go_iload_n 3 rfl dX5_date_84 rfl ?_
              refine go_ck (fun h21 => ?_)
              refine go_callVZ (As := fun ad => [.int a2]) (g_X0_isHoly e5 a2 u11) mv_X0_isHoly clX0 h21 gw128 rfl ⟨Nat.le_of_ble_eq_true rfl, Nat.le_of_ble_eq_true rfl⟩ rfl (Nat.le_of_ble_eq_true rfl) dX5_date_85 (fun r22 u23 => ?_)
              refine go_ifz_eq (tgt := 95) dX5_date_88 (by decide) ?_ ?_
              · refine go_iconst (v := (0 : Int32)) dX5_date_95 (by decide) ?_
                exact go_iret rfl dX5_date_96
              · refine go_iconst (v := (1 : Int32)) dX5_date_91 (by decide) ?_
                refine go_goto (tgt := 96) dX5_date_92 (by decide) ?_
                exact go_iret rfl dX5_date_96
            · refine go_tout (tgt := 97) dX5_date_42 ?_ (by decide) ?_
              · have a0 : x12.toInt ≠ 0 := int_ne h16; have a1 : x12.toInt ≠ 1 := int_ne h20; have a2 : x12.toInt ≠ 2 := int_ne h24; omega
              · refine go_aload 0 rfl dX5_date_97 ?_
                refine go_iload_n 3 rfl dX5_date_99 rfl ?_
                refine go_ck (fun h25 => ?_)
                refine go_callVI (As := fun ad => [.int a2]) (g_X0_runsAt e5 a2 u11) mv_X0_runsAt clX0 h25 gw129 rfl ⟨Nat.le_of_ble_eq_true rfl, Nat.le_of_ble_eq_true rfl⟩ rfl (Nat.le_of_ble_eq_true rfl) dX5_date_100 (fun r26 u27 => ?_)
                exact go_iret rfl dX5_date_103
      · refine go_aload_n 1 rfl dX5_date_34 rfl ?_
        refine go_ldc (v := (-1000000001 : Int32)) gw110 dX5_date_35 ?_
        refine go_callVI (As := fun ad => [.int (-1000000001 : Int32)]) (g_X5_found (-1000000001 : Int32) u11) mv_X5_found clX5 kt_69 gw117 rfl ⟨Nat.le_of_ble_eq_true rfl, Nat.le_of_ble_eq_true rfl⟩ rfl (Nat.le_of_ble_eq_true rfl) dX5_date_37 (fun r28 u29 => ?_)
        exact go_iret rfl dX5_date_40
def f_X5_law (a1 : Int32) (a2 : Int32) (u : Uw) : Option (Int32 × Uw) :=
  if a1 = 0 then
  (bd (f_X5_within a2 (1 : Int32) (50 : Int32) u) fun r9 u10 =>
  if r9 = true then
  (nm (u10.1 0 3) fun x19 =>
  nm (w1 u10 0 3 a2) fun u20 =>
  some (x19, u20))
  else
  (if a1 = (1 : Int32) then
  (bd (f_X5_within a2 (0 : Int32) (5 : Int32) u10) fun r13 u14 =>
  if r13 = true then
  (nm (u14.1 0 4) fun x17 =>
  nm (w1 u14 0 4 a2) fun u18 =>
  some (x17, u18))
  else
  (bd (f_X5_found (-1000000001 : Int32) u14) fun r15 u16 =>
  some (r15, u16)))
  else
  (bd (f_X5_found (-1000000001 : Int32) u10) fun r11 u12 =>
  some (r11, u12))))
  else
  (if a1 = (1 : Int32) then
  (bd (f_X5_within a2 (0 : Int32) (5 : Int32) u) fun r3 u4 =>
  if r3 = true then
  (nm (u4.1 0 4) fun x7 =>
  nm (w1 u4 0 4 a2) fun u8 =>
  some (x7, u8))
  else
  (bd (f_X5_found (-1000000001 : Int32) u4) fun r5 u6 =>
  some (r5, u6)))
  else
  (bd (f_X5_found (-1000000001 : Int32) u) fun r1 u2 =>
  some (r1, u2)))
set_option maxHeartbeats 4000000 in
set_option maxRecDepth 100000 in
theorem g_X5_law (a1 : Int32) (a2 : Int32) (u : Uw) : ∀ l, Con l yX5_law mi_X5_law ivI (fun ad => [.ref (ad 69), .int a1, .int a2]) u (f_X5_law a1 a2 u) := by
  refine con_of (by decide) rfl (fun _ => Nat.le_of_ble_eq_true rfl) (fun X ad => ?_)
  show Go X ad mi_X5_law ivI 0 [(0, .ref (ad 69)), (1, .int a1), (2, .int a2)] [] u (f_X5_law a1 a2 u)
  unfold f_X5_law
  refine go_iload_n 1 rfl dX5_law_0 rfl ?_
  refine go_if_ne (tgt := 32) dX5_law_1 (by decide) ?_ ?_
  · refine go_iload_n 1 rfl dX5_law_32 rfl ?_
    refine go_iconst (v := (1 : Int32)) dX5_law_33 (by decide) ?_
    refine go_icmp_ne (tgt := 64) dX5_law_34 (by decide) ?_ ?_
    · refine go_aload_n 0 rfl dX5_law_64 rfl ?_
      refine go_ldc (v := (-1000000001 : Int32)) gw110 dX5_law_65 ?_
      refine go_callVI (As := fun ad => [.int (-1000000001 : Int32)]) (g_X5_found (-1000000001 : Int32) u) mv_X5_found clX5 kt_69 gw117 rfl ⟨Nat.le_of_ble_eq_true rfl, Nat.le_of_ble_eq_true rfl⟩ rfl (Nat.le_of_ble_eq_true rfl) dX5_law_67 (fun r1 u2 => ?_)
      exact go_iret rfl dX5_law_70
    · refine go_iload_n 2 rfl dX5_law_37 rfl ?_
      refine go_iconst (v := (0 : Int32)) dX5_law_38 (by decide) ?_
      refine go_iconst (v := (5 : Int32)) dX5_law_39 (by decide) ?_
      refine go_callSZ (As := fun ad => [.int a2, .int (0 : Int32), .int (5 : Int32)]) (g_X5_within a2 (0 : Int32) (5 : Int32) u) mo_X5_within gw85 gw125 rfl ⟨Nat.le_of_ble_eq_true rfl, Nat.le_of_ble_eq_true rfl⟩ rfl (Nat.le_of_ble_eq_true rfl) dX5_law_40 (fun r3 u4 => ?_)
      refine go_ifz_eq (tgt := 64) dX5_law_43 (by decide) ?_ ?_
      · refine go_aload_n 0 rfl dX5_law_64 rfl ?_
        refine go_ldc (v := (-1000000001 : Int32)) gw110 dX5_law_65 ?_
        refine go_callVI (As := fun ad => [.int (-1000000001 : Int32)]) (g_X5_found (-1000000001 : Int32) u4) mv_X5_found clX5 kt_69 gw117 rfl ⟨Nat.le_of_ble_eq_true rfl, Nat.le_of_ble_eq_true rfl⟩ rfl (Nat.le_of_ble_eq_true rfl) dX5_law_67 (fun r5 u6 => ?_)
        exact go_iret rfl dX5_law_70
      · refine go_aload_n 0 rfl dX5_law_46 rfl ?_
        refine go_getR clX5 kt_69 0 (Nat.le_of_ble_eq_true rfl) (f := 0) (fun _ => rfl) gw113 dX5_law_47 ?_
        refine go_getILN clX3 kt_0 2 (Nat.le_of_ble_eq_true rfl) (c := 4) (fun _ => rfl) kr_0 gn130 dX5_law_50 ?_
        refine go_nm (fun x7 => ?_)
        refine go_istore_n (lv' := [(3, .int x7), (0, .ref (ad 69)), (1, .int a1), (2, .int a2)]) dX5_law_53 rfl (Nat.le_of_ble_eq_true rfl) rfl ?_
        refine go_aload_n 1 rfl dX5_law_54 rfl ?_
        refine go_getR clX5 kt_69 0 (Nat.le_of_ble_eq_true rfl) (f := 0) (fun _ => rfl) gw113 dX5_law_55 ?_
        refine go_iload_n 3 rfl dX5_law_58 rfl ?_
        refine go_putILN clX3 kt_0 2 (Nat.le_of_ble_eq_true rfl) (c := 4) (fun _ => rfl) (by decide) kr_0 (fty := .int) (tyX3_ok 2 (Nat.le_of_ble_eq_true rfl)) rfl rfl rfl (fun _ => Nat.le_of_ble_eq_true rfl) gn130 dX5_law_59 ?_
        refine go_nmU (fun u8 => ?_)
        refine go_iload_n 0 rfl dX5_law_62 rfl ?_
        exact go_iret rfl dX5_law_63
  · refine go_iload_n 2 rfl dX5_law_4 rfl ?_
    refine go_iconst (v := (1 : Int32)) dX5_law_5 (by decide) ?_
    refine go_bipush (v := (50 : Int32)) dX5_law_6 (by decide) ?_
    refine go_callSZ (As := fun ad => [.int a2, .int (1 : Int32), .int (50 : Int32)]) (g_X5_within a2 (1 : Int32) (50 : Int32) u) mo_X5_within gw85 gw125 rfl ⟨Nat.le_of_ble_eq_true rfl, Nat.le_of_ble_eq_true rfl⟩ rfl (Nat.le_of_ble_eq_true rfl) dX5_law_8 (fun r9 u10 => ?_)
    refine go_ifz_eq (tgt := 32) dX5_law_11 (by decide) ?_ ?_
    · refine go_iload_n 1 rfl dX5_law_32 rfl ?_
      refine go_iconst (v := (1 : Int32)) dX5_law_33 (by decide) ?_
      refine go_icmp_ne (tgt := 64) dX5_law_34 (by decide) ?_ ?_
      · refine go_aload_n 0 rfl dX5_law_64 rfl ?_
        refine go_ldc (v := (-1000000001 : Int32)) gw110 dX5_law_65 ?_
        refine go_callVI (As := fun ad => [.int (-1000000001 : Int32)]) (g_X5_found (-1000000001 : Int32) u10) mv_X5_found clX5 kt_69 gw117 rfl ⟨Nat.le_of_ble_eq_true rfl, Nat.le_of_ble_eq_true rfl⟩ rfl (Nat.le_of_ble_eq_true rfl) dX5_law_67 (fun r11 u12 => ?_)
        exact go_iret rfl dX5_law_70
      · refine go_iload_n 2 rfl dX5_law_37 rfl ?_
        refine go_iconst (v := (0 : Int32)) dX5_law_38 (by decide) ?_
        refine go_iconst (v := (5 : Int32)) dX5_law_39 (by decide) ?_
        refine go_callSZ (As := fun ad => [.int a2, .int (0 : Int32), .int (5 : Int32)]) (g_X5_within a2 (0 : Int32) (5 : Int32) u10) mo_X5_within gw85 gw125 rfl ⟨Nat.le_of_ble_eq_true rfl, Nat.le_of_ble_eq_true rfl⟩ rfl (Nat.le_of_ble_eq_true rfl) dX5_law_40 (fun r13 u14 => ?_)
        refine go_ifz_eq (tgt := 64) dX5_law_43 (by decide) ?_ ?_
        · refine go_aload_n 0 rfl dX5_law_64 rfl ?_
          refine go_ldc (v := (-1000000001 : Int32)) gw110 dX5_law_65 ?_
          refine go_callVI (As := fun ad => [.int (-1000000001 : Int32)]) (g_X5_found (-1000000001 : Int32) u14) mv_X5_found clX5 kt_69 gw117 rfl ⟨Nat.le_of_ble_eq_true rfl, Nat.le_of_ble_eq_true rfl⟩ rfl (Nat.le_of_ble_eq_true rfl) dX5_law_67 (fun r15 u16 => ?_)
          exact go_iret rfl dX5_law_70
        · refine go_aload_n 0 rfl dX5_law_46 rfl ?_
          refine go_getR clX5 kt_69 0 (Nat.le_of_ble_eq_true rfl) (f := 0) (fun _ => rfl) gw113 dX5_law_47 ?_
          refine go_getILN clX3 kt_0 2 (Nat.le_of_ble_eq_true rfl) (c := 4) (fun _ => rfl) kr_0 gn130 dX5_law_50 ?_
          refine go_nm (fun x17 => ?_)
          refine go_istore_n (lv' := [(3, .int x17), (0, .ref (ad 69)), (1, .int a1), (2, .int a2)]) dX5_law_53 rfl (Nat.le_of_ble_eq_true rfl) rfl ?_
          refine go_aload_n 1 rfl dX5_law_54 rfl ?_
          refine go_getR clX5 kt_69 0 (Nat.le_of_ble_eq_true rfl) (f := 0) (fun _ => rfl) gw113 dX5_law_55 ?_
          refine go_iload_n 3 rfl dX5_law_58 rfl ?_
          refine go_putILN clX3 kt_0 2 (Nat.le_of_ble_eq_true rfl) (c := 4) (fun _ => rfl) (by decide) kr_0 (fty := .int) (tyX3_ok 2 (Nat.le_of_ble_eq_true rfl)) rfl rfl rfl (fun _ => Nat.le_of_ble_eq_true rfl) gn130 dX5_law_59 ?_
          refine go_nmU (fun u18 => ?_)
          refine go_iload_n 0 rfl dX5_law_62 rfl ?_
          exact go_iret rfl dX5_law_63
    · refine go_aload_n 0 rfl dX5_law_14 rfl ?_
      refine go_getR clX5 kt_69 0 (Nat.le_of_ble_eq_true rfl) (f := 0) (fun _ => rfl) gw113 dX5_law_15 ?_
      refine go_getILN clX3 kt_0 1 (Nat.le_of_ble_eq_true rfl) (c := 3) (fun _ => rfl) kr_0 gn131 dX5_law_18 ?_
      refine go_nm (fun x19 => ?_)
      refine go_istore_n (lv' := [(3, .int x19), (0, .ref (ad 69)), (1, .int a1), (2, .int a2)]) dX5_law_21 rfl (Nat.le_of_ble_eq_true rfl) rfl ?_
      refine go_aload_n 1 rfl dX5_law_22 rfl ?_
      refine go_getR clX5 kt_69 0 (Nat.le_of_ble_eq_true rfl) (f := 0) (fun _ => rfl) gw113 dX5_law_23 ?_
      refine go_iload_n 3 rfl dX5_law_26 rfl ?_
      refine go_putILN clX3 kt_0 1 (Nat.le_of_ble_eq_true rfl) (c := 3) (fun _ => rfl) (by decide) kr_0 (fty := .int) (tyX3_ok 1 (Nat.le_of_ble_eq_true rfl)) rfl rfl rfl (fun _ => Nat.le_of_ble_eq_true rfl) gn131 dX5_law_27 ?_
      refine go_nmU (fun u20 => ?_)
      refine go_iload_n 0 rfl dX5_law_30 rfl ?_
      exact go_iret rfl dX5_law_31
