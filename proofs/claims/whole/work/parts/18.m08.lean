/-! methods: what each does to the world, and that its bytecode does so (laid by wip/whole/gen) -/
def b_X6_holyBy_4 (ih4 : Int32 × Int32 × Int32 × Uw → Option (Int32 × Uw)) (s : Int32 × Int32 × Int32 × Uw) : Option (Int32 × Uw) :=
  nm (s.2.2.2.1 20 (0 : Int32).toNatClampNeg) fun x1 =>
  if x1 ≤ s.2.2.1 then
  (some (s.2.1, s.2.2.2))
  else
  (bd (f_X6_isHoly s.2.2.1 s.1 s.2.2.2) fun r2 u3 =>
  if r2 = true then
  (nm (s.2.1 ||| ((1 : Int32) <<< (s.2.2.1 &&& 31))) fun x5 =>
  ih4 (s.1, x5, (s.2.2.1 + (1 : Int32)), u3))
  else
  (nm (s.2.1 ||| (0 : Int32)) fun x4 =>
  ih4 (s.1, x4, (s.2.2.1 + (1 : Int32)), u3)))
def f_X6_holyBy (a1 : Int32) (u : Uw) : Option (Int32 × Uw) :=
  lp b_X6_holyBy_4 2100 (a1, (0 : Int32), (0 : Int32), u)
set_option maxHeartbeats 4000000 in
set_option maxRecDepth 100000 in
theorem gl_X6_holyBy_4 (X : Cx) (ad : Nat → Nat) : ∀ (n : Nat) (s : Int32 × Int32 × Int32 × Uw), Go X ad mi_X6_holyBy ivI 4 [(0, .ref (ad 86)), (1, .int s.1), (2, .int s.2.1), (3, .int s.2.2.1)] [] s.2.2.2 (lp b_X6_holyBy_4 n s) := by
  refine go_lp (G := fun (s : Int32 × Int32 × Int32 × Uw) o => Go X ad mi_X6_holyBy ivI 4 [(0, .ref (ad 86)), (1, .int s.1), (2, .int s.2.1), (3, .int s.2.2.1)] [] s.2.2.2 o) (fun _ => go_none) (fun ih4 hih4 s => ?_)
  show Go X ad mi_X6_holyBy ivI 4 [(0, .ref (ad 86)), (1, .int s.1), (2, .int s.2.1), (3, .int s.2.2.1)] [] s.2.2.2 (b_X6_holyBy_4 ih4 s)
  unfold b_X6_holyBy_4
  refine go_iload_n 3 rfl dX6_holyBy_4 rfl ?_
  refine go_aload_n 0 rfl dX6_holyBy_5 rfl ?_
  refine go_getR clX6 kt_86 0 (Nat.le_of_ble_eq_true rfl) (f := 87) (fun _ => rfl) gw207 dX6_holyBy_6 ?_
  refine go_iconst (v := (0 : Int32)) dX6_holyBy_9 (by decide) ?_
  refine go_ialdL kt_87 kr_87 kl_87 rfl dX6_holyBy_10 ?_
  refine go_nm (fun x1 => ?_)
  refine go_icmp_ge (tgt := 39) dX6_holyBy_11 (by decide) ?_ ?_
  · refine go_iload_n 2 rfl dX6_holyBy_39 rfl ?_
    exact go_iret rfl dX6_holyBy_40
  · refine go_iload_n 2 rfl dX6_holyBy_14 rfl ?_
    refine go_aload_n 0 rfl dX6_holyBy_15 rfl ?_
    refine go_iload_n 3 rfl dX6_holyBy_16 rfl ?_
    refine go_iload_n 1 rfl dX6_holyBy_17 rfl ?_
    refine go_callVZ (As := fun ad => [.int s.2.2.1, .int s.1]) (g_X6_isHoly s.2.2.1 s.1 s.2.2.2) mv_X6_isHoly clX6 kt_86 gw236 rfl ⟨Nat.le_of_ble_eq_true rfl, Nat.le_of_ble_eq_true rfl⟩ rfl (Nat.le_of_ble_eq_true rfl) dX6_holyBy_18 (fun r2 u3 => ?_)
    refine go_ifz_eq (tgt := 30) dX6_holyBy_21 (by decide) ?_ ?_
    · refine go_iconst (v := (0 : Int32)) dX6_holyBy_30 (by decide) ?_
      refine go_ior dX6_holyBy_31 ?_
      refine go_nm (fun x4 => ?_)
      refine go_istore_n (lv' := [(2, .int x4), (0, .ref (ad 86)), (1, .int s.1), (3, .int s.2.2.1)]) dX6_holyBy_32 rfl (Nat.le_of_ble_eq_true rfl) rfl ?_
      refine go_iinc (v := (s.2.2.1 + (1 : Int32))) (lv' := [(3, .int (s.2.2.1 + (1 : Int32))), (2, .int x4), (0, .ref (ad 86)), (1, .int s.1)]) 3 rfl dX6_holyBy_33 rfl (Nat.le_of_ble_eq_true rfl) rfl ?_
      refine go_goto (tgt := 4) dX6_holyBy_36 (by decide) ?_
      exact go_sub [2, 3, 1, 0] rfl (hih4 (s.1, x4, (s.2.2.1 + (1 : Int32)), u3))
    · refine go_iconst (v := (1 : Int32)) dX6_holyBy_24 (by decide) ?_
      refine go_iload_n 3 rfl dX6_holyBy_25 rfl ?_
      refine go_ishl dX6_holyBy_26 ?_
      refine go_goto (tgt := 31) dX6_holyBy_27 (by decide) ?_
      refine go_ior dX6_holyBy_31 ?_
      refine go_nm (fun x5 => ?_)
      refine go_istore_n (lv' := [(2, .int x5), (0, .ref (ad 86)), (1, .int s.1), (3, .int s.2.2.1)]) dX6_holyBy_32 rfl (Nat.le_of_ble_eq_true rfl) rfl ?_
      refine go_iinc (v := (s.2.2.1 + (1 : Int32))) (lv' := [(3, .int (s.2.2.1 + (1 : Int32))), (2, .int x5), (0, .ref (ad 86)), (1, .int s.1)]) 3 rfl dX6_holyBy_33 rfl (Nat.le_of_ble_eq_true rfl) rfl ?_
      refine go_goto (tgt := 4) dX6_holyBy_36 (by decide) ?_
      exact go_sub [2, 3, 1, 0] rfl (hih4 (s.1, x5, (s.2.2.1 + (1 : Int32)), u3))
set_option maxHeartbeats 4000000 in
set_option maxRecDepth 100000 in
theorem g_X6_holyBy (a1 : Int32) (u : Uw) : ∀ l, Con l yX6_holyBy mi_X6_holyBy ivI (fun ad => [.ref (ad 86), .int a1]) u (f_X6_holyBy a1 u) := by
  refine con_of (by decide) rfl (fun _ => Nat.le_of_ble_eq_true rfl) (fun X ad => ?_)
  show Go X ad mi_X6_holyBy ivI 0 [(0, .ref (ad 86)), (1, .int a1)] [] u (f_X6_holyBy a1 u)
  unfold f_X6_holyBy
  refine go_iconst (v := (0 : Int32)) dX6_holyBy_0 (by decide) ?_
  refine go_istore_n (lv' := [(2, .int (0 : Int32)), (0, .ref (ad 86)), (1, .int a1)]) dX6_holyBy_1 rfl (Nat.le_of_ble_eq_true rfl) rfl ?_
  refine go_iconst (v := (0 : Int32)) dX6_holyBy_2 (by decide) ?_
  refine go_istore_n (lv' := [(3, .int (0 : Int32)), (2, .int (0 : Int32)), (0, .ref (ad 86)), (1, .int a1)]) dX6_holyBy_3 rfl (Nat.le_of_ble_eq_true rfl) rfl ?_
  exact go_sub [2, 3, 1, 0] rfl (gl_X6_holyBy_4 X ad  2100 (a1, (0 : Int32), (0 : Int32), u))
def b_X6_meet_34 (ih34 : Int32 × Int32 × Uw → Option (Int32 × Uw)) (s : Int32 × Int32 × Uw) : Option (Int32 × Uw) :=
  nm (s.2.2.1 20 (2 : Int32).toNatClampNeg) fun x5 =>
  if (x5 + (2000 : Int32)) < s.2.1 then
  (bd (f_X6_finds (-1000000004 : Int32) s.2.2) fun r6 u7 =>
  some (r6, u7))
  else
  (bd (f_X6_holyBy s.2.1 s.2.2) fun r8 u9 =>
  if r8 = s.1 then
  (some (s.2.1, u9))
  else
  (ih34 (s.1, (s.2.1 + (1 : Int32)), u9)))
def f_X6_meet (a1 : Int32) (u : Uw) : Option (Int32 × Uw) :=
  nm (u.1 20 (0 : Int32).toNatClampNeg) fun x1 =>
  bd (f_X6_in (a1.toInt64) (1 : Int64) ((((1 : Int32) <<< (x1 &&& 31)) - (1 : Int32)).toInt64) u) fun r2 u3 =>
  if r2 = true then
  (nm (u3.1 20 (2 : Int32).toNatClampNeg) fun x4 =>
  lp b_X6_meet_34 2100 (a1, x4, u3))
  else
  (bd (f_X6_finds (-1000000001 : Int32) u3) fun r10 u11 =>
  some (r10, u11))
set_option maxHeartbeats 4000000 in
set_option maxRecDepth 100000 in
theorem gl_X6_meet_34 (X : Cx) (ad : Nat → Nat) : ∀ (n : Nat) (s : Int32 × Int32 × Uw), Go X ad mi_X6_meet ivI 34 [(0, .ref (ad 86)), (1, .int s.1), (2, .int s.2.1)] [] s.2.2 (lp b_X6_meet_34 n s) := by
  refine go_lp (G := fun (s : Int32 × Int32 × Uw) o => Go X ad mi_X6_meet ivI 34 [(0, .ref (ad 86)), (1, .int s.1), (2, .int s.2.1)] [] s.2.2 o) (fun _ => go_none) (fun ih34 hih34 s => ?_)
  show Go X ad mi_X6_meet ivI 34 [(0, .ref (ad 86)), (1, .int s.1), (2, .int s.2.1)] [] s.2.2 (b_X6_meet_34 ih34 s)
  unfold b_X6_meet_34
  refine go_iload_n 2 rfl dX6_meet_34 rfl ?_
  refine go_aload_n 0 rfl dX6_meet_35 rfl ?_
  refine go_getR clX6 kt_86 0 (Nat.le_of_ble_eq_true rfl) (f := 87) (fun _ => rfl) gw207 dX6_meet_36 ?_
  refine go_iconst (v := (2 : Int32)) dX6_meet_39 (by decide) ?_
  refine go_ialdL kt_87 kr_87 kl_87 rfl dX6_meet_40 ?_
  refine go_nm (fun x5 => ?_)
  refine go_sipush (v := (2000 : Int32)) dX6_meet_41 (by decide) ?_
  refine go_iadd dX6_meet_44 ?_
  refine go_icmp_gt (tgt := 65) dX6_meet_45 (by decide) ?_ ?_
  · refine go_aload_n 0 rfl dX6_meet_65 rfl ?_
    refine go_ldc (v := (-1000000004 : Int32)) gw257 dX6_meet_66 ?_
    refine go_callVI (As := fun ad => [.int (-1000000004 : Int32)]) (g_X6_finds (-1000000004 : Int32) s.2.2) mv_X6_finds clX6 kt_86 gw219 rfl ⟨Nat.le_of_ble_eq_true rfl, Nat.le_of_ble_eq_true rfl⟩ rfl (Nat.le_of_ble_eq_true rfl) dX6_meet_68 (fun r6 u7 => ?_)
    exact go_iret rfl dX6_meet_71
  · refine go_aload_n 0 rfl dX6_meet_48 rfl ?_
    refine go_iload_n 2 rfl dX6_meet_49 rfl ?_
    refine go_callVI (As := fun ad => [.int s.2.1]) (g_X6_holyBy s.2.1 s.2.2) mv_X6_holyBy clX6 kt_86 gw261 rfl ⟨Nat.le_of_ble_eq_true rfl, Nat.le_of_ble_eq_true rfl⟩ rfl (Nat.le_of_ble_eq_true rfl) dX6_meet_50 (fun r8 u9 => ?_)
    refine go_iload_n 1 rfl dX6_meet_53 rfl ?_
    refine go_icmp_ne (tgt := 59) dX6_meet_54 (by decide) ?_ ?_
    · refine go_iinc (v := (s.2.1 + (1 : Int32))) (lv' := [(2, .int (s.2.1 + (1 : Int32))), (0, .ref (ad 86)), (1, .int s.1)]) 2 rfl dX6_meet_59 rfl (Nat.le_of_ble_eq_true rfl) rfl ?_
      refine go_goto (tgt := 34) dX6_meet_62 (by decide) ?_
      exact go_sub [1, 2, 0] rfl (hih34 (s.1, (s.2.1 + (1 : Int32)), u9))
    · refine go_iload_n 2 rfl dX6_meet_57 rfl ?_
      exact go_iret rfl dX6_meet_58
set_option maxHeartbeats 4000000 in
set_option maxRecDepth 100000 in
theorem g_X6_meet (a1 : Int32) (u : Uw) : ∀ l, Con l yX6_meet mi_X6_meet ivI (fun ad => [.ref (ad 86), .int a1]) u (f_X6_meet a1 u) := by
  refine con_of (by decide) rfl (fun _ => Nat.le_of_ble_eq_true rfl) (fun X ad => ?_)
  show Go X ad mi_X6_meet ivI 0 [(0, .ref (ad 86)), (1, .int a1)] [] u (f_X6_meet a1 u)
  unfold f_X6_meet
  refine go_iload_n 1 rfl dX6_meet_0 rfl ?_
  refine go_i2l dX6_meet_1 ?_
  refine go_lconst (v := (1 : Int64)) dX6_meet_2 (by decide) ?_
  refine go_iconst (v := (1 : Int32)) dX6_meet_3 (by decide) ?_
  refine go_aload_n 0 rfl dX6_meet_4 rfl ?_
  refine go_getR clX6 kt_86 0 (Nat.le_of_ble_eq_true rfl) (f := 87) (fun _ => rfl) gw207 dX6_meet_5 ?_
  refine go_iconst (v := (0 : Int32)) dX6_meet_8 (by decide) ?_
  refine go_ialdL kt_87 kr_87 kl_87 rfl dX6_meet_9 ?_
  refine go_nm (fun x1 => ?_)
  refine go_ishl dX6_meet_10 ?_
  refine go_iconst (v := (1 : Int32)) dX6_meet_11 (by decide) ?_
  refine go_isub dX6_meet_12 ?_
  refine go_i2l dX6_meet_13 ?_
  refine go_callSZ (As := fun ad => [.long (a1.toInt64), .long (1 : Int64), .long ((((1 : Int32) <<< (x1 &&& 31)) - (1 : Int32)).toInt64)]) (g_X6_in (a1.toInt64) (1 : Int64) ((((1 : Int32) <<< (x1 &&& 31)) - (1 : Int32)).toInt64) u) mo_X6_in gw209 gw210 rfl ⟨Nat.le_of_ble_eq_true rfl, Nat.le_of_ble_eq_true rfl⟩ rfl (Nat.le_of_ble_eq_true rfl) dX6_meet_14 (fun r2 u3 => ?_)
  refine go_ifz_ne (tgt := 27) dX6_meet_17 (by decide) ?_ ?_
  · refine go_aload_n 0 rfl dX6_meet_27 rfl ?_
    refine go_getR clX6 kt_86 0 (Nat.le_of_ble_eq_true rfl) (f := 87) (fun _ => rfl) gw207 dX6_meet_28 ?_
    refine go_iconst (v := (2 : Int32)) dX6_meet_31 (by decide) ?_
    refine go_ialdL kt_87 kr_87 kl_87 rfl dX6_meet_32 ?_
    refine go_nm (fun x4 => ?_)
    refine go_istore_n (lv' := [(2, .int x4), (0, .ref (ad 86)), (1, .int a1)]) dX6_meet_33 rfl (Nat.le_of_ble_eq_true rfl) rfl ?_
    exact go_sub [1, 2, 0] rfl (gl_X6_meet_34 X ad  2100 (a1, x4, u3))
  · refine go_aload_n 0 rfl dX6_meet_20 rfl ?_
    refine go_ldc (v := (-1000000001 : Int32)) gw205 dX6_meet_21 ?_
    refine go_callVI (As := fun ad => [.int (-1000000001 : Int32)]) (g_X6_finds (-1000000001 : Int32) u3) mv_X6_finds clX6 kt_86 gw219 rfl ⟨Nat.le_of_ble_eq_true rfl, Nat.le_of_ble_eq_true rfl⟩ rfl (Nat.le_of_ble_eq_true rfl) dX6_meet_23 (fun r10 u11 => ?_)
    exact go_iret rfl dX6_meet_26
def f_X6_isDate (a0 : Int32) (u : Uw) : Option (Bool × Uw) :=
  bd (f_X6_in (a0.toInt64) (1 : Int64) (60 : Int64) u) fun r1 u2 =>
  some (r1, u2)
set_option maxHeartbeats 4000000 in
set_option maxRecDepth 100000 in
theorem g_X6_isDate (a0 : Int32) (u : Uw) : ∀ l, Con l yX6_isDate mi_X6_isDate ivZ (fun ad => [.int a0]) u (f_X6_isDate a0 u) := by
  refine con_of (by decide) rfl (fun _ => Nat.le_of_ble_eq_true rfl) (fun X ad => ?_)
  show Go X ad mi_X6_isDate ivZ 0 [(0, .int a0)] [] u (f_X6_isDate a0 u)
  unfold f_X6_isDate
  refine go_iload_n 0 rfl dX6_isDate_0 rfl ?_
  refine go_i2l dX6_isDate_1 ?_
  refine go_lconst (v := (1 : Int64)) dX6_isDate_2 (by decide) ?_
  refine go_ldc2 (v := (60 : Int64)) gw224 dX6_isDate_3 ?_
  refine go_callSZ (As := fun ad => [.long (a0.toInt64), .long (1 : Int64), .long (60 : Int64)]) (g_X6_in (a0.toInt64) (1 : Int64) (60 : Int64) u) mo_X6_in gw209 gw210 rfl ⟨Nat.le_of_ble_eq_true rfl, Nat.le_of_ble_eq_true rfl⟩ rfl (Nat.le_of_ble_eq_true rfl) dX6_isDate_6 (fun r1 u2 => ?_)
  exact go_zret rfl dX6_isDate_9
def b_X6_both_39 (ih39 : Int32 × Int32 × Int32 × Int32 × Int32 × Uw → Option (Int32 × Uw)) (s : Int32 × Int32 × Int32 × Int32 × Int32 × Uw) : Option (Int32 × Uw) :=
  nm (s.2.2.2.2.2.1 20 (2 : Int32).toNatClampNeg) fun x12 =>
  if (x12 + (2000 : Int32)) < s.2.2.2.2.1 then
  (bd (f_X6_finds (-1000000004 : Int32) s.2.2.2.2.2) fun r13 u14 =>
  some (r13, u14))
  else
  (bd (f_X6_dateOf s.1 s.2.2.2.2.1 s.2.2.2.2.2) fun r15 u16 =>
  if r15 = s.2.1 then
  (bd (f_X6_dateOf s.2.2.1 s.2.2.2.2.1 u16) fun r17 u18 =>
  if r17 = s.2.2.2.1 then
  (some (s.2.2.2.2.1, u18))
  else
  (ih39 (s.1, s.2.1, s.2.2.1, s.2.2.2.1, (s.2.2.2.2.1 + (1 : Int32)), u18)))
  else
  (ih39 (s.1, s.2.1, s.2.2.1, s.2.2.2.1, (s.2.2.2.2.1 + (1 : Int32)), u16)))
def f_X6_both (a1 : Int32) (a2 : Int32) (a3 : Int32) (a4 : Int32) (u : Uw) : Option (Int32 × Uw) :=
  bd (f_X6_areTwo a1 a3 u) fun r1 u2 =>
  if r1 = true then
  (bd (f_X6_isDate a2 u2) fun r5 u6 =>
  if r5 = true then
  (bd (f_X6_isDate a4 u6) fun r9 u10 =>
  if r9 = true then
  (nm (u10.1 20 (2 : Int32).toNatClampNeg) fun x11 =>
  lp b_X6_both_39 2100 (a1, a2, a3, a4, x11, u10))
  else
  (bd (f_X6_finds (-1000000001 : Int32) u10) fun r19 u20 =>
  some (r19, u20)))
  else
  (bd (f_X6_finds (-1000000001 : Int32) u6) fun r7 u8 =>
  some (r7, u8)))
  else
  (bd (f_X6_finds (-1000000001 : Int32) u2) fun r3 u4 =>
  some (r3, u4))
set_option maxHeartbeats 4000000 in
set_option maxRecDepth 100000 in
theorem gl_X6_both_39 (X : Cx) (ad : Nat → Nat) : ∀ (n : Nat) (s : Int32 × Int32 × Int32 × Int32 × Int32 × Uw), Go X ad mi_X6_both ivI 39 [(0, .ref (ad 86)), (1, .int s.1), (2, .int s.2.1), (3, .int s.2.2.1), (4, .int s.2.2.2.1), (5, .int s.2.2.2.2.1)] [] s.2.2.2.2.2 (lp b_X6_both_39 n s) := by
  refine go_lp (G := fun (s : Int32 × Int32 × Int32 × Int32 × Int32 × Uw) o => Go X ad mi_X6_both ivI 39 [(0, .ref (ad 86)), (1, .int s.1), (2, .int s.2.1), (3, .int s.2.2.1), (4, .int s.2.2.2.1), (5, .int s.2.2.2.2.1)] [] s.2.2.2.2.2 o) (fun _ => go_none) (fun ih39 hih39 s => ?_)
  show Go X ad mi_X6_both ivI 39 [(0, .ref (ad 86)), (1, .int s.1), (2, .int s.2.1), (3, .int s.2.2.1), (4, .int s.2.2.2.1), (5, .int s.2.2.2.2.1)] [] s.2.2.2.2.2 (b_X6_both_39 ih39 s)
  unfold b_X6_both_39
  refine go_iload 5 rfl dX6_both_39 ?_
  refine go_aload_n 0 rfl dX6_both_41 rfl ?_
  refine go_getR clX6 kt_86 0 (Nat.le_of_ble_eq_true rfl) (f := 87) (fun _ => rfl) gw207 dX6_both_42 ?_
  refine go_iconst (v := (2 : Int32)) dX6_both_45 (by decide) ?_
  refine go_ialdL kt_87 kr_87 kl_87 rfl dX6_both_46 ?_
  refine go_nm (fun x12 => ?_)
  refine go_sipush (v := (2000 : Int32)) dX6_both_47 (by decide) ?_
  refine go_iadd dX6_both_50 ?_
  refine go_icmp_gt (tgt := 86) dX6_both_51 (by decide) ?_ ?_
  · refine go_aload_n 0 rfl dX6_both_86 rfl ?_
    refine go_ldc (v := (-1000000004 : Int32)) gw257 dX6_both_87 ?_
    refine go_callVI (As := fun ad => [.int (-1000000004 : Int32)]) (g_X6_finds (-1000000004 : Int32) s.2.2.2.2.2) mv_X6_finds clX6 kt_86 gw219 rfl ⟨Nat.le_of_ble_eq_true rfl, Nat.le_of_ble_eq_true rfl⟩ rfl (Nat.le_of_ble_eq_true rfl) dX6_both_89 (fun r13 u14 => ?_)
    exact go_iret rfl dX6_both_92
  · refine go_aload_n 0 rfl dX6_both_54 rfl ?_
    refine go_iload_n 1 rfl dX6_both_55 rfl ?_
    refine go_iload 5 rfl dX6_both_56 ?_
    refine go_callVI (As := fun ad => [.int s.1, .int s.2.2.2.2.1]) (g_X6_dateOf s.1 s.2.2.2.2.1 s.2.2.2.2.2) mv_X6_dateOf clX6 kt_86 gw232 rfl ⟨Nat.le_of_ble_eq_true rfl, Nat.le_of_ble_eq_true rfl⟩ rfl (Nat.le_of_ble_eq_true rfl) dX6_both_58 (fun r15 u16 => ?_)
    refine go_iload_n 2 rfl dX6_both_61 rfl ?_
    refine go_icmp_ne (tgt := 80) dX6_both_62 (by decide) ?_ ?_
    · refine go_iinc (v := (s.2.2.2.2.1 + (1 : Int32))) (lv' := [(5, .int (s.2.2.2.2.1 + (1 : Int32))), (0, .ref (ad 86)), (1, .int s.1), (2, .int s.2.1), (3, .int s.2.2.1), (4, .int s.2.2.2.1)]) 5 rfl dX6_both_80 rfl (Nat.le_of_ble_eq_true rfl) rfl ?_
      refine go_goto (tgt := 39) dX6_both_83 (by decide) ?_
      exact go_sub [1, 2, 3, 4, 5, 0] rfl (hih39 (s.1, s.2.1, s.2.2.1, s.2.2.2.1, (s.2.2.2.2.1 + (1 : Int32)), u16))
    · refine go_aload_n 0 rfl dX6_both_65 rfl ?_
      refine go_iload_n 3 rfl dX6_both_66 rfl ?_
      refine go_iload 5 rfl dX6_both_67 ?_
      refine go_callVI (As := fun ad => [.int s.2.2.1, .int s.2.2.2.2.1]) (g_X6_dateOf s.2.2.1 s.2.2.2.2.1 u16) mv_X6_dateOf clX6 kt_86 gw232 rfl ⟨Nat.le_of_ble_eq_true rfl, Nat.le_of_ble_eq_true rfl⟩ rfl (Nat.le_of_ble_eq_true rfl) dX6_both_69 (fun r17 u18 => ?_)
      refine go_iload 4 rfl dX6_both_72 ?_
      refine go_icmp_ne (tgt := 80) dX6_both_74 (by decide) ?_ ?_
      · refine go_iinc (v := (s.2.2.2.2.1 + (1 : Int32))) (lv' := [(5, .int (s.2.2.2.2.1 + (1 : Int32))), (0, .ref (ad 86)), (1, .int s.1), (2, .int s.2.1), (3, .int s.2.2.1), (4, .int s.2.2.2.1)]) 5 rfl dX6_both_80 rfl (Nat.le_of_ble_eq_true rfl) rfl ?_
        refine go_goto (tgt := 39) dX6_both_83 (by decide) ?_
        exact go_sub [1, 2, 3, 4, 5, 0] rfl (hih39 (s.1, s.2.1, s.2.2.1, s.2.2.2.1, (s.2.2.2.2.1 + (1 : Int32)), u18))
      · refine go_iload 5 rfl dX6_both_77 ?_
        exact go_iret rfl dX6_both_79
set_option maxHeartbeats 4000000 in
set_option maxRecDepth 100000 in
theorem g_X6_both (a1 : Int32) (a2 : Int32) (a3 : Int32) (a4 : Int32) (u : Uw) : ∀ l, Con l yX6_both mi_X6_both ivI (fun ad => [.ref (ad 86), .int a1, .int a2, .int a3, .int a4]) u (f_X6_both a1 a2 a3 a4 u) := by
  refine con_of (by decide) rfl (fun _ => Nat.le_of_ble_eq_true rfl) (fun X ad => ?_)
  show Go X ad mi_X6_both ivI 0 [(0, .ref (ad 86)), (1, .int a1), (2, .int a2), (3, .int a3), (4, .int a4)] [] u (f_X6_both a1 a2 a3 a4 u)
  unfold f_X6_both
  refine go_aload_n 0 rfl dX6_both_0 rfl ?_
  refine go_iload_n 1 rfl dX6_both_1 rfl ?_
  refine go_iload_n 3 rfl dX6_both_2 rfl ?_
  refine go_callVZ (As := fun ad => [.int a1, .int a3]) (g_X6_areTwo a1 a3 u) mv_X6_areTwo clX6 kt_86 gw259 rfl ⟨Nat.le_of_ble_eq_true rfl, Nat.le_of_ble_eq_true rfl⟩ rfl (Nat.le_of_ble_eq_true rfl) dX6_both_3 (fun r1 u2 => ?_)
  refine go_ifz_eq (tgt := 24) dX6_both_6 (by decide) ?_ ?_
  · refine go_aload_n 0 rfl dX6_both_24 rfl ?_
    refine go_ldc (v := (-1000000001 : Int32)) gw205 dX6_both_25 ?_
    refine go_callVI (As := fun ad => [.int (-1000000001 : Int32)]) (g_X6_finds (-1000000001 : Int32) u2) mv_X6_finds clX6 kt_86 gw219 rfl ⟨Nat.le_of_ble_eq_true rfl, Nat.le_of_ble_eq_true rfl⟩ rfl (Nat.le_of_ble_eq_true rfl) dX6_both_27 (fun r3 u4 => ?_)
    exact go_iret rfl dX6_both_30
  · refine go_iload_n 2 rfl dX6_both_9 rfl ?_
    refine go_callSZ (As := fun ad => [.int a2]) (g_X6_isDate a2 u2) mo_X6_isDate gw262 gw263 rfl ⟨Nat.le_of_ble_eq_true rfl, Nat.le_of_ble_eq_true rfl⟩ rfl (Nat.le_of_ble_eq_true rfl) dX6_both_10 (fun r5 u6 => ?_)
    refine go_ifz_eq (tgt := 24) dX6_both_13 (by decide) ?_ ?_
    · refine go_aload_n 0 rfl dX6_both_24 rfl ?_
      refine go_ldc (v := (-1000000001 : Int32)) gw205 dX6_both_25 ?_
      refine go_callVI (As := fun ad => [.int (-1000000001 : Int32)]) (g_X6_finds (-1000000001 : Int32) u6) mv_X6_finds clX6 kt_86 gw219 rfl ⟨Nat.le_of_ble_eq_true rfl, Nat.le_of_ble_eq_true rfl⟩ rfl (Nat.le_of_ble_eq_true rfl) dX6_both_27 (fun r7 u8 => ?_)
      exact go_iret rfl dX6_both_30
    · refine go_iload 4 rfl dX6_both_16 ?_
      refine go_callSZ (As := fun ad => [.int a4]) (g_X6_isDate a4 u6) mo_X6_isDate gw262 gw263 rfl ⟨Nat.le_of_ble_eq_true rfl, Nat.le_of_ble_eq_true rfl⟩ rfl (Nat.le_of_ble_eq_true rfl) dX6_both_18 (fun r9 u10 => ?_)
      refine go_ifz_ne (tgt := 31) dX6_both_21 (by decide) ?_ ?_
      · refine go_aload_n 0 rfl dX6_both_31 rfl ?_
        refine go_getR clX6 kt_86 0 (Nat.le_of_ble_eq_true rfl) (f := 87) (fun _ => rfl) gw207 dX6_both_32 ?_
        refine go_iconst (v := (2 : Int32)) dX6_both_35 (by decide) ?_
        refine go_ialdL kt_87 kr_87 kl_87 rfl dX6_both_36 ?_
        refine go_nm (fun x11 => ?_)
        refine go_istore (lv' := [(5, .int x11), (0, .ref (ad 86)), (1, .int a1), (2, .int a2), (3, .int a3), (4, .int a4)]) dX6_both_37 (Nat.le_of_ble_eq_true rfl) rfl ?_
        exact go_sub [1, 2, 3, 4, 5, 0] rfl (gl_X6_both_39 X ad  2100 (a1, a2, a3, a4, x11, u10))
      · refine go_aload_n 0 rfl dX6_both_24 rfl ?_
        refine go_ldc (v := (-1000000001 : Int32)) gw205 dX6_both_25 ?_
        refine go_callVI (As := fun ad => [.int (-1000000001 : Int32)]) (g_X6_finds (-1000000001 : Int32) u10) mv_X6_finds clX6 kt_86 gw219 rfl ⟨Nat.le_of_ble_eq_true rfl, Nat.le_of_ble_eq_true rfl⟩ rfl (Nat.le_of_ble_eq_true rfl) dX6_both_27 (fun r19 u20 => ?_)
        exact go_iret rfl dX6_both_30
def b_X6_trust_33 (ih33 : Int32 × Int32 × Int32 × Int32 × Int32 × Uw → Option (Int32 × Uw)) (s : Int32 × Int32 × Int32 × Int32 × Int32 × Uw) : Option (Int32 × Uw) :=
  nm (s.2.2.2.2.2.1 20 (0 : Int32).toNatClampNeg) fun x5 =>
  if x5 < s.2.2.2.2.1 then
  (bd (f_X6_spot s.1 (1 : Int32) s.2.2.2.2.2) fun r6 u7 =>
  ck (inb r6 61) <|
  nm (w1 u7 20 r6.toNatClampNeg s.2.1) fun u9 =>
  if s.2.2.1 = (-2 : Int32) then
  (bd (f_X6_finds (-1000000004 : Int32) u9) fun r10 u11 =>
  some (r10, u11))
  else
  (some (s.2.2.1, u9)))
  else
  (nm (s.2.2.2.2.2.1 20 (0 : Int32).toNatClampNeg) fun x12 =>
  if s.2.2.2.2.1 = x12 then
  (bd (f_X6_spot s.1 (1 : Int32) s.2.2.2.2.2) fun r22 u23 =>
  ck (inb r22 61) <|
  nm (w1 u23 20 r22.toNatClampNeg (-1 : Int32)) fun u25 =>
  bd (f_X6_wellIn s.1 u25) fun r26 u27 =>
  if s.2.2.2.1 ≤ r26 then
  (if s.2.2.2.1 ≤ r26 then
  (nm s.2.2.2.1 fun x28 =>
  ih33 (s.1, s.2.1, s.2.2.1, x28, (s.2.2.2.2.1 + (1 : Int32)), u27))
  else
  (ih33 (s.1, s.2.1, s.2.2.1, r26, (s.2.2.2.2.1 + (1 : Int32)), u27)))
  else
  (if s.2.2.2.1 ≤ r26 then
  (nm s.2.2.2.1 fun x29 =>
  ih33 (s.1, s.2.1, (-1 : Int32), x29, (s.2.2.2.2.1 + (1 : Int32)), u27))
  else
  (ih33 (s.1, s.2.1, (-1 : Int32), r26, (s.2.2.2.2.1 + (1 : Int32)), u27))))
  else
  (nm s.2.2.2.2.1 fun x13 =>
  bd (f_X6_spot s.1 (1 : Int32) s.2.2.2.2.2) fun r14 u15 =>
  ck (inb r14 61) <|
  nm (w1 u15 20 r14.toNatClampNeg x13) fun u17 =>
  bd (f_X6_wellIn s.1 u17) fun r18 u19 =>
  if s.2.2.2.1 ≤ r18 then
  (if s.2.2.2.1 ≤ r18 then
  (nm s.2.2.2.1 fun x20 =>
  ih33 (s.1, s.2.1, s.2.2.1, x20, (s.2.2.2.2.1 + (1 : Int32)), u19))
  else
  (ih33 (s.1, s.2.1, s.2.2.1, r18, (s.2.2.2.2.1 + (1 : Int32)), u19)))
  else
  (if s.2.2.2.1 ≤ r18 then
  (nm s.2.2.2.1 fun x21 =>
  ih33 (s.1, s.2.1, x13, x21, (s.2.2.2.2.1 + (1 : Int32)), u19))
  else
  (ih33 (s.1, s.2.1, x13, r18, (s.2.2.2.2.1 + (1 : Int32)), u19)))))
def f_X6_trust (a1 : Int32) (u : Uw) : Option (Int32 × Uw) :=
  bd (f_X6_isPilgrim a1 u) fun r1 u2 =>
  if r1 = true then
  (bd (f_X6_isOf a1 (1 : Int32) u2) fun r3 u4 =>
  lp b_X6_trust_33 2100 (a1, r3, (-2 : Int32), (401 : Int32), (0 : Int32), u4))
  else
  (bd (f_X6_finds (-1000000001 : Int32) u2) fun r30 u31 =>
  some (r30, u31))
set_option maxHeartbeats 4000000 in
set_option maxRecDepth 100000 in
theorem gl_X6_trust_33 (X : Cx) (ad : Nat → Nat) : ∀ (n : Nat) (s : Int32 × Int32 × Int32 × Int32 × Int32 × Uw), Go X ad mi_X6_trust ivI 33 [(0, .ref (ad 86)), (1, .int s.1), (2, .int s.2.1), (3, .int s.2.2.1), (4, .int s.2.2.2.1), (5, .int s.2.2.2.2.1)] [] s.2.2.2.2.2 (lp b_X6_trust_33 n s) := by
  refine go_lp (G := fun (s : Int32 × Int32 × Int32 × Int32 × Int32 × Uw) o => Go X ad mi_X6_trust ivI 33 [(0, .ref (ad 86)), (1, .int s.1), (2, .int s.2.1), (3, .int s.2.2.1), (4, .int s.2.2.2.1), (5, .int s.2.2.2.2.1)] [] s.2.2.2.2.2 o) (fun _ => go_none) (fun ih33 hih33 s => ?_)
  show Go X ad mi_X6_trust ivI 33 [(0, .ref (ad 86)), (1, .int s.1), (2, .int s.2.1), (3, .int s.2.2.1), (4, .int s.2.2.2.1), (5, .int s.2.2.2.2.1)] [] s.2.2.2.2.2 (b_X6_trust_33 ih33 s)
  unfold b_X6_trust_33
  refine go_iload 5 rfl dX6_trust_33 ?_
  refine go_aload_n 0 rfl dX6_trust_35 rfl ?_
  refine go_getR clX6 kt_86 0 (Nat.le_of_ble_eq_true rfl) (f := 87) (fun _ => rfl) gw207 dX6_trust_36 ?_
  refine go_iconst (v := (0 : Int32)) dX6_trust_39 (by decide) ?_
  refine go_ialdL kt_87 kr_87 kl_87 rfl dX6_trust_40 ?_
  refine go_nm (fun x5 => ?_)
  refine go_icmp_gt (tgt := 118) dX6_trust_41 (by decide) ?_ ?_
  · refine go_aload_n 0 rfl dX6_trust_118 rfl ?_
    refine go_getR clX6 kt_86 0 (Nat.le_of_ble_eq_true rfl) (f := 87) (fun _ => rfl) gw207 dX6_trust_119 ?_
    refine go_iload_n 1 rfl dX6_trust_122 rfl ?_
    refine go_iconst (v := (1 : Int32)) dX6_trust_123 (by decide) ?_
    refine go_callSI (As := fun ad => [.int s.1, .int (1 : Int32)]) (g_X6_spot s.1 (1 : Int32) s.2.2.2.2.2) mo_X6_spot gw213 gw214 rfl ⟨Nat.le_of_ble_eq_true rfl, Nat.le_of_ble_eq_true rfl⟩ rfl (Nat.le_of_ble_eq_true rfl) dX6_trust_124 (fun r6 u7 => ?_)
    refine go_iload_n 2 rfl dX6_trust_127 rfl ?_
    refine go_ck (fun h8 => ?_)
    refine go_iastL kt_87 kr_87 kl_87 h8 dX6_trust_128 ?_
    refine go_nmU (fun u9 => ?_)
    refine go_iload_n 3 rfl dX6_trust_129 rfl ?_
    refine go_bipush (v := (-2 : Int32)) dX6_trust_130 (by decide) ?_
    refine go_icmp_ne (tgt := 144) dX6_trust_132 (by decide) ?_ ?_
    · refine go_iload_n 3 rfl dX6_trust_144 rfl ?_
      exact go_iret rfl dX6_trust_145
    · refine go_aload_n 0 rfl dX6_trust_135 rfl ?_
      refine go_ldc (v := (-1000000004 : Int32)) gw257 dX6_trust_136 ?_
      refine go_callVI (As := fun ad => [.int (-1000000004 : Int32)]) (g_X6_finds (-1000000004 : Int32) u9) mv_X6_finds clX6 kt_86 gw219 rfl ⟨Nat.le_of_ble_eq_true rfl, Nat.le_of_ble_eq_true rfl⟩ rfl (Nat.le_of_ble_eq_true rfl) dX6_trust_138 (fun r10 u11 => ?_)
      refine go_goto (tgt := 145) dX6_trust_141 (by decide) ?_
      exact go_iret rfl dX6_trust_145
  · refine go_iload 5 rfl dX6_trust_44 ?_
    refine go_aload_n 0 rfl dX6_trust_46 rfl ?_
    refine go_getR clX6 kt_86 0 (Nat.le_of_ble_eq_true rfl) (f := 87) (fun _ => rfl) gw207 dX6_trust_47 ?_
    refine go_iconst (v := (0 : Int32)) dX6_trust_50 (by decide) ?_
    refine go_ialdL kt_87 kr_87 kl_87 rfl dX6_trust_51 ?_
    refine go_nm (fun x12 => ?_)
    refine go_icmp_ne (tgt := 59) dX6_trust_52 (by decide) ?_ ?_
    · refine go_iload 5 rfl dX6_trust_59 ?_
      refine go_nm (fun x13 => ?_)
      refine go_istore (lv' := [(6, .int x13), (0, .ref (ad 86)), (1, .int s.1), (2, .int s.2.1), (3, .int s.2.2.1), (4, .int s.2.2.2.1), (5, .int s.2.2.2.2.1)]) dX6_trust_61 (Nat.le_of_ble_eq_true rfl) rfl ?_
      refine go_aload_n 1 rfl dX6_trust_63 rfl ?_
      refine go_getR clX6 kt_86 0 (Nat.le_of_ble_eq_true rfl) (f := 87) (fun _ => rfl) gw207 dX6_trust_64 ?_
      refine go_iload_n 2 rfl dX6_trust_67 rfl ?_
      refine go_iconst (v := (1 : Int32)) dX6_trust_68 (by decide) ?_
      refine go_callSI (As := fun ad => [.int s.1, .int (1 : Int32)]) (g_X6_spot s.1 (1 : Int32) s.2.2.2.2.2) mo_X6_spot gw213 gw214 rfl ⟨Nat.le_of_ble_eq_true rfl, Nat.le_of_ble_eq_true rfl⟩ rfl (Nat.le_of_ble_eq_true rfl) dX6_trust_69 (fun r14 u15 => ?_)
      refine go_iload 0 rfl dX6_trust_72 ?_
      refine go_ck (fun h16 => ?_)
      refine go_iastL kt_87 kr_87 kl_87 h16 dX6_trust_74 ?_
      refine go_nmU (fun u17 => ?_)
      refine go_aload_n 1 rfl dX6_trust_75 rfl ?_
      refine go_iload_n 2 rfl dX6_trust_76 rfl ?_
      refine go_callVI (As := fun ad => [.int s.1]) (g_X6_wellIn s.1 u17) mv_X6_wellIn clX6 kt_86 gw256 rfl ⟨Nat.le_of_ble_eq_true rfl, Nat.le_of_ble_eq_true rfl⟩ rfl (Nat.le_of_ble_eq_true rfl) dX6_trust_77 (fun r18 u19 => ?_)
      refine go_istore (lv' := [(7, .int r18), (6, .int x13), (0, .ref (ad 86)), (1, .int s.1), (2, .int s.2.1), (3, .int s.2.2.1), (4, .int s.2.2.2.1), (5, .int s.2.2.2.2.1)]) dX6_trust_80 (Nat.le_of_ble_eq_true rfl) rfl ?_
      refine go_iload 0 rfl dX6_trust_82 ?_
      refine go_iload 6 rfl dX6_trust_84 ?_
      refine go_icmp_ge (tgt := 94) dX6_trust_86 (by decide) ?_ ?_
      · refine go_iload_n 5 rfl dX6_trust_94 rfl ?_
        refine go_istore_n (lv' := [(3, .int s.2.2.1), (7, .int r18), (6, .int x13), (0, .ref (ad 86)), (1, .int s.1), (2, .int s.2.1), (4, .int s.2.2.2.1), (5, .int s.2.2.2.2.1)]) dX6_trust_95 rfl (Nat.le_of_ble_eq_true rfl) rfl ?_
        refine go_iload 1 rfl dX6_trust_96 ?_
        refine go_iload 6 rfl dX6_trust_98 ?_
        refine go_icmp_ge (tgt := 108) dX6_trust_100 (by decide) ?_ ?_
        · refine go_iload 6 rfl dX6_trust_108 ?_
          refine go_nm (fun x20 => ?_)
          refine go_istore (lv' := [(4, .int x20), (3, .int s.2.2.1), (7, .int r18), (6, .int x13), (0, .ref (ad 86)), (1, .int s.1), (2, .int s.2.1), (5, .int s.2.2.2.2.1)]) dX6_trust_110 (Nat.le_of_ble_eq_true rfl) rfl ?_
          refine go_iinc (v := (s.2.2.2.2.1 + (1 : Int32))) (lv' := [(5, .int (s.2.2.2.2.1 + (1 : Int32))), (4, .int x20), (3, .int s.2.2.1), (7, .int r18), (6, .int x13), (0, .ref (ad 86)), (1, .int s.1), (2, .int s.2.1)]) 7 rfl dX6_trust_112 rfl (Nat.le_of_ble_eq_true rfl) rfl ?_
          refine go_goto (tgt := 33) dX6_trust_115 (by decide) ?_
          exact go_sub [5, 6, 7, 2, 1, 0] rfl (hih33 (s.1, s.2.1, s.2.2.1, x20, (s.2.2.2.2.1 + (1 : Int32)), u19))
        · refine go_iload 1 rfl dX6_trust_103 ?_
          refine go_goto (tgt := 110) dX6_trust_105 (by decide) ?_
          refine go_istore (lv' := [(4, .int r18), (3, .int s.2.2.1), (7, .int r18), (6, .int x13), (0, .ref (ad 86)), (1, .int s.1), (2, .int s.2.1), (5, .int s.2.2.2.2.1)]) dX6_trust_110 (Nat.le_of_ble_eq_true rfl) rfl ?_
          refine go_iinc (v := (s.2.2.2.2.1 + (1 : Int32))) (lv' := [(5, .int (s.2.2.2.2.1 + (1 : Int32))), (4, .int r18), (3, .int s.2.2.1), (7, .int r18), (6, .int x13), (0, .ref (ad 86)), (1, .int s.1), (2, .int s.2.1)]) 7 rfl dX6_trust_112 rfl (Nat.le_of_ble_eq_true rfl) rfl ?_
          refine go_goto (tgt := 33) dX6_trust_115 (by decide) ?_
          exact go_sub [5, 6, 7, 2, 1, 0] rfl (hih33 (s.1, s.2.1, s.2.2.1, r18, (s.2.2.2.2.1 + (1 : Int32)), u19))
      · refine go_iload 1 rfl dX6_trust_89 ?_
        refine go_goto (tgt := 95) dX6_trust_91 (by decide) ?_
        refine go_istore_n (lv' := [(3, .int x13), (7, .int r18), (6, .int x13), (0, .ref (ad 86)), (1, .int s.1), (2, .int s.2.1), (4, .int s.2.2.2.1), (5, .int s.2.2.2.2.1)]) dX6_trust_95 rfl (Nat.le_of_ble_eq_true rfl) rfl ?_
        refine go_iload 1 rfl dX6_trust_96 ?_
        refine go_iload 6 rfl dX6_trust_98 ?_
        refine go_icmp_ge (tgt := 108) dX6_trust_100 (by decide) ?_ ?_
        · refine go_iload 6 rfl dX6_trust_108 ?_
          refine go_nm (fun x21 => ?_)
          refine go_istore (lv' := [(4, .int x21), (3, .int x13), (7, .int r18), (6, .int x13), (0, .ref (ad 86)), (1, .int s.1), (2, .int s.2.1), (5, .int s.2.2.2.2.1)]) dX6_trust_110 (Nat.le_of_ble_eq_true rfl) rfl ?_
          refine go_iinc (v := (s.2.2.2.2.1 + (1 : Int32))) (lv' := [(5, .int (s.2.2.2.2.1 + (1 : Int32))), (4, .int x21), (3, .int x13), (7, .int r18), (6, .int x13), (0, .ref (ad 86)), (1, .int s.1), (2, .int s.2.1)]) 7 rfl dX6_trust_112 rfl (Nat.le_of_ble_eq_true rfl) rfl ?_
          refine go_goto (tgt := 33) dX6_trust_115 (by decide) ?_
          exact go_sub [5, 6, 7, 2, 1, 0] rfl (hih33 (s.1, s.2.1, x13, x21, (s.2.2.2.2.1 + (1 : Int32)), u19))
        · refine go_iload 1 rfl dX6_trust_103 ?_
          refine go_goto (tgt := 110) dX6_trust_105 (by decide) ?_
          refine go_istore (lv' := [(4, .int r18), (3, .int x13), (7, .int r18), (6, .int x13), (0, .ref (ad 86)), (1, .int s.1), (2, .int s.2.1), (5, .int s.2.2.2.2.1)]) dX6_trust_110 (Nat.le_of_ble_eq_true rfl) rfl ?_
          refine go_iinc (v := (s.2.2.2.2.1 + (1 : Int32))) (lv' := [(5, .int (s.2.2.2.2.1 + (1 : Int32))), (4, .int r18), (3, .int x13), (7, .int r18), (6, .int x13), (0, .ref (ad 86)), (1, .int s.1), (2, .int s.2.1)]) 7 rfl dX6_trust_112 rfl (Nat.le_of_ble_eq_true rfl) rfl ?_
          refine go_goto (tgt := 33) dX6_trust_115 (by decide) ?_
          exact go_sub [5, 6, 7, 2, 1, 0] rfl (hih33 (s.1, s.2.1, x13, r18, (s.2.2.2.2.1 + (1 : Int32)), u19))
    · refine go_iconst (v := (-1 : Int32)) dX6_trust_55 (by decide) ?_
      refine go_goto (tgt := 61) dX6_trust_56 (by decide) ?_
      refine go_istore (lv' := [(6, .int (-1 : Int32)), (0, .ref (ad 86)), (1, .int s.1), (2, .int s.2.1), (3, .int s.2.2.1), (4, .int s.2.2.2.1), (5, .int s.2.2.2.2.1)]) dX6_trust_61 (Nat.le_of_ble_eq_true rfl) rfl ?_
      refine go_aload_n 1 rfl dX6_trust_63 rfl ?_
      refine go_getR clX6 kt_86 0 (Nat.le_of_ble_eq_true rfl) (f := 87) (fun _ => rfl) gw207 dX6_trust_64 ?_
      refine go_iload_n 2 rfl dX6_trust_67 rfl ?_
      refine go_iconst (v := (1 : Int32)) dX6_trust_68 (by decide) ?_
      refine go_callSI (As := fun ad => [.int s.1, .int (1 : Int32)]) (g_X6_spot s.1 (1 : Int32) s.2.2.2.2.2) mo_X6_spot gw213 gw214 rfl ⟨Nat.le_of_ble_eq_true rfl, Nat.le_of_ble_eq_true rfl⟩ rfl (Nat.le_of_ble_eq_true rfl) dX6_trust_69 (fun r22 u23 => ?_)
      refine go_iload 0 rfl dX6_trust_72 ?_
      refine go_ck (fun h24 => ?_)
      refine go_iastL kt_87 kr_87 kl_87 h24 dX6_trust_74 ?_
      refine go_nmU (fun u25 => ?_)
      refine go_aload_n 1 rfl dX6_trust_75 rfl ?_
      refine go_iload_n 2 rfl dX6_trust_76 rfl ?_
      refine go_callVI (As := fun ad => [.int s.1]) (g_X6_wellIn s.1 u25) mv_X6_wellIn clX6 kt_86 gw256 rfl ⟨Nat.le_of_ble_eq_true rfl, Nat.le_of_ble_eq_true rfl⟩ rfl (Nat.le_of_ble_eq_true rfl) dX6_trust_77 (fun r26 u27 => ?_)
      refine go_istore (lv' := [(7, .int r26), (6, .int (-1 : Int32)), (0, .ref (ad 86)), (1, .int s.1), (2, .int s.2.1), (3, .int s.2.2.1), (4, .int s.2.2.2.1), (5, .int s.2.2.2.2.1)]) dX6_trust_80 (Nat.le_of_ble_eq_true rfl) rfl ?_
      refine go_iload 0 rfl dX6_trust_82 ?_
      refine go_iload 6 rfl dX6_trust_84 ?_
      refine go_icmp_ge (tgt := 94) dX6_trust_86 (by decide) ?_ ?_
      · refine go_iload_n 5 rfl dX6_trust_94 rfl ?_
        refine go_istore_n (lv' := [(3, .int s.2.2.1), (7, .int r26), (6, .int (-1 : Int32)), (0, .ref (ad 86)), (1, .int s.1), (2, .int s.2.1), (4, .int s.2.2.2.1), (5, .int s.2.2.2.2.1)]) dX6_trust_95 rfl (Nat.le_of_ble_eq_true rfl) rfl ?_
        refine go_iload 1 rfl dX6_trust_96 ?_
        refine go_iload 6 rfl dX6_trust_98 ?_
        refine go_icmp_ge (tgt := 108) dX6_trust_100 (by decide) ?_ ?_
        · refine go_iload 6 rfl dX6_trust_108 ?_
          refine go_nm (fun x28 => ?_)
          refine go_istore (lv' := [(4, .int x28), (3, .int s.2.2.1), (7, .int r26), (6, .int (-1 : Int32)), (0, .ref (ad 86)), (1, .int s.1), (2, .int s.2.1), (5, .int s.2.2.2.2.1)]) dX6_trust_110 (Nat.le_of_ble_eq_true rfl) rfl ?_
          refine go_iinc (v := (s.2.2.2.2.1 + (1 : Int32))) (lv' := [(5, .int (s.2.2.2.2.1 + (1 : Int32))), (4, .int x28), (3, .int s.2.2.1), (7, .int r26), (6, .int (-1 : Int32)), (0, .ref (ad 86)), (1, .int s.1), (2, .int s.2.1)]) 7 rfl dX6_trust_112 rfl (Nat.le_of_ble_eq_true rfl) rfl ?_
          refine go_goto (tgt := 33) dX6_trust_115 (by decide) ?_
          exact go_sub [5, 6, 7, 2, 1, 0] rfl (hih33 (s.1, s.2.1, s.2.2.1, x28, (s.2.2.2.2.1 + (1 : Int32)), u27))
        · refine go_iload 1 rfl dX6_trust_103 ?_
          refine go_goto (tgt := 110) dX6_trust_105 (by decide) ?_
          refine go_istore (lv' := [(4, .int r26), (3, .int s.2.2.1), (7, .int r26), (6, .int (-1 : Int32)), (0, .ref (ad 86)), (1, .int s.1), (2, .int s.2.1), (5, .int s.2.2.2.2.1)]) dX6_trust_110 (Nat.le_of_ble_eq_true rfl) rfl ?_
          refine go_iinc (v := (s.2.2.2.2.1 + (1 : Int32))) (lv' := [(5, .int (s.2.2.2.2.1 + (1 : Int32))), (4, .int r26), (3, .int s.2.2.1), (7, .int r26), (6, .int (-1 : Int32)), (0, .ref (ad 86)), (1, .int s.1), (2, .int s.2.1)]) 7 rfl dX6_trust_112 rfl (Nat.le_of_ble_eq_true rfl) rfl ?_
          refine go_goto (tgt := 33) dX6_trust_115 (by decide) ?_
          exact go_sub [5, 6, 7, 2, 1, 0] rfl (hih33 (s.1, s.2.1, s.2.2.1, r26, (s.2.2.2.2.1 + (1 : Int32)), u27))
      · refine go_iload 1 rfl dX6_trust_89 ?_
        refine go_goto (tgt := 95) dX6_trust_91 (by decide) ?_
        refine go_istore_n (lv' := [(3, .int (-1 : Int32)), (7, .int r26), (6, .int (-1 : Int32)), (0, .ref (ad 86)), (1, .int s.1), (2, .int s.2.1), (4, .int s.2.2.2.1), (5, .int s.2.2.2.2.1)]) dX6_trust_95 rfl (Nat.le_of_ble_eq_true rfl) rfl ?_
        refine go_iload 1 rfl dX6_trust_96 ?_
        refine go_iload 6 rfl dX6_trust_98 ?_
        refine go_icmp_ge (tgt := 108) dX6_trust_100 (by decide) ?_ ?_
        · refine go_iload 6 rfl dX6_trust_108 ?_
          refine go_nm (fun x29 => ?_)
          refine go_istore (lv' := [(4, .int x29), (3, .int (-1 : Int32)), (7, .int r26), (6, .int (-1 : Int32)), (0, .ref (ad 86)), (1, .int s.1), (2, .int s.2.1), (5, .int s.2.2.2.2.1)]) dX6_trust_110 (Nat.le_of_ble_eq_true rfl) rfl ?_
          refine go_iinc (v := (s.2.2.2.2.1 + (1 : Int32))) (lv' := [(5, .int (s.2.2.2.2.1 + (1 : Int32))), (4, .int x29), (3, .int (-1 : Int32)), (7, .int r26), (6, .int (-1 : Int32)), (0, .ref (ad 86)), (1, .int s.1), (2, .int s.2.1)]) 7 rfl dX6_trust_112 rfl (Nat.le_of_ble_eq_true rfl) rfl ?_
          refine go_goto (tgt := 33) dX6_trust_115 (by decide) ?_
          exact go_sub [5, 6, 7, 2, 1, 0] rfl (hih33 (s.1, s.2.1, (-1 : Int32), x29, (s.2.2.2.2.1 + (1 : Int32)), u27))
        · refine go_iload 1 rfl dX6_trust_103 ?_
          refine go_goto (tgt := 110) dX6_trust_105 (by decide) ?_
          refine go_istore (lv' := [(4, .int r26), (3, .int (-1 : Int32)), (7, .int r26), (6, .int (-1 : Int32)), (0, .ref (ad 86)), (1, .int s.1), (2, .int s.2.1), (5, .int s.2.2.2.2.1)]) dX6_trust_110 (Nat.le_of_ble_eq_true rfl) rfl ?_
          refine go_iinc (v := (s.2.2.2.2.1 + (1 : Int32))) (lv' := [(5, .int (s.2.2.2.2.1 + (1 : Int32))), (4, .int r26), (3, .int (-1 : Int32)), (7, .int r26), (6, .int (-1 : Int32)), (0, .ref (ad 86)), (1, .int s.1), (2, .int s.2.1)]) 7 rfl dX6_trust_112 rfl (Nat.le_of_ble_eq_true rfl) rfl ?_
          refine go_goto (tgt := 33) dX6_trust_115 (by decide) ?_
          exact go_sub [5, 6, 7, 2, 1, 0] rfl (hih33 (s.1, s.2.1, (-1 : Int32), r26, (s.2.2.2.2.1 + (1 : Int32)), u27))
set_option maxHeartbeats 4000000 in
set_option maxRecDepth 100000 in
theorem g_X6_trust (a1 : Int32) (u : Uw) : ∀ l, Con l yX6_trust mi_X6_trust ivI (fun ad => [.ref (ad 86), .int a1]) u (f_X6_trust a1 u) := by
  refine con_of (by decide) rfl (fun _ => Nat.le_of_ble_eq_true rfl) (fun X ad => ?_)
  show Go X ad mi_X6_trust ivI 0 [(0, .ref (ad 86)), (1, .int a1)] [] u (f_X6_trust a1 u)
  unfold f_X6_trust
  refine go_aload_n 0 rfl dX6_trust_0 rfl ?_
  refine go_iload_n 1 rfl dX6_trust_1 rfl ?_
  refine go_callVZ (As := fun ad => [.int a1]) (g_X6_isPilgrim a1 u) mv_X6_isPilgrim clX6 kt_86 gw240 rfl ⟨Nat.le_of_ble_eq_true rfl, Nat.le_of_ble_eq_true rfl⟩ rfl (Nat.le_of_ble_eq_true rfl) dX6_trust_2 (fun r1 u2 => ?_)
  refine go_ifz_ne (tgt := 15) dX6_trust_5 (by decide) ?_ ?_
  · refine go_aload_n 0 rfl dX6_trust_15 rfl ?_
    refine go_iload_n 1 rfl dX6_trust_16 rfl ?_
    refine go_iconst (v := (1 : Int32)) dX6_trust_17 (by decide) ?_
    refine go_callVI (As := fun ad => [.int a1, .int (1 : Int32)]) (g_X6_isOf a1 (1 : Int32) u2) mv_X6_isOf clX6 kt_86 gw242 rfl ⟨Nat.le_of_ble_eq_true rfl, Nat.le_of_ble_eq_true rfl⟩ rfl (Nat.le_of_ble_eq_true rfl) dX6_trust_18 (fun r3 u4 => ?_)
    refine go_istore_n (lv' := [(2, .int r3), (0, .ref (ad 86)), (1, .int a1)]) dX6_trust_21 rfl (Nat.le_of_ble_eq_true rfl) rfl ?_
    refine go_bipush (v := (-2 : Int32)) dX6_trust_22 (by decide) ?_
    refine go_istore_n (lv' := [(3, .int (-2 : Int32)), (2, .int r3), (0, .ref (ad 86)), (1, .int a1)]) dX6_trust_24 rfl (Nat.le_of_ble_eq_true rfl) rfl ?_
    refine go_sipush (v := (401 : Int32)) dX6_trust_25 (by decide) ?_
    refine go_istore (lv' := [(4, .int (401 : Int32)), (3, .int (-2 : Int32)), (2, .int r3), (0, .ref (ad 86)), (1, .int a1)]) dX6_trust_28 (Nat.le_of_ble_eq_true rfl) rfl ?_
    refine go_iconst (v := (0 : Int32)) dX6_trust_30 (by decide) ?_
    refine go_istore (lv' := [(5, .int (0 : Int32)), (4, .int (401 : Int32)), (3, .int (-2 : Int32)), (2, .int r3), (0, .ref (ad 86)), (1, .int a1)]) dX6_trust_31 (Nat.le_of_ble_eq_true rfl) rfl ?_
    exact go_sub [4, 5, 3, 2, 1, 0] rfl (gl_X6_trust_33 X ad  2100 (a1, r3, (-2 : Int32), (401 : Int32), (0 : Int32), u4))
  · refine go_aload_n 0 rfl dX6_trust_8 rfl ?_
    refine go_ldc (v := (-1000000001 : Int32)) gw205 dX6_trust_9 ?_
    refine go_callVI (As := fun ad => [.int (-1000000001 : Int32)]) (g_X6_finds (-1000000001 : Int32) u2) mv_X6_finds clX6 kt_86 gw219 rfl ⟨Nat.le_of_ble_eq_true rfl, Nat.le_of_ble_eq_true rfl⟩ rfl (Nat.le_of_ble_eq_true rfl) dX6_trust_11 (fun r30 u31 => ?_)
    exact go_iret rfl dX6_trust_14
def b_X6_truth_34 (ih34 : Int32 × Int32 × Int32 × Int32 × Int32 × Uw → Option (Int32 × Uw)) (s : Int32 × Int32 × Int32 × Int32 × Int32 × Uw) : Option (Int32 × Uw) :=
  nm (s.2.2.2.2.2.1 20 (0 : Int32).toNatClampNeg) fun x4 =>
  if x4 ≤ s.2.2.2.2.1 then
  (nm (w1 s.2.2.2.2.2 20 (4 : Int32).toNatClampNeg s.2.1) fun u5 =>
  if 0 ≤ s.2.2.1 then
  (some (s.2.2.1, u5))
  else
  (bd (f_X6_finds (-1000000004 : Int32) u5) fun r6 u7 =>
  some (r6, u7)))
  else
  (nm (w1 s.2.2.2.2.2 20 (4 : Int32).toNatClampNeg s.2.2.2.2.1) fun u8 =>
  bd (f_X6_laysAside  u8) fun r9 u10 =>
  bd (f_X6_goesOn s.1 u10) fun r11 u12 =>
  bd (f_X6_together (0 : Int32) u12) fun r13 u14 =>
  bd (f_X6_takesBack r13 u14) fun r15 u16 =>
  if s.2.2.1 < 0 then
  (nm s.2.2.2.2.1 fun x17 =>
  if x17 = s.2.2.2.2.1 then
  (ih34 (s.1, s.2.1, x17, r15, (s.2.2.2.2.1 + (1 : Int32)), u16))
  else
  (nm s.2.2.2.1 fun x18 =>
  ih34 (s.1, s.2.1, x17, x18, (s.2.2.2.2.1 + (1 : Int32)), u16)))
  else
  (if s.2.2.2.1 ≤ r15 then
  (if s.2.2.1 = s.2.2.2.2.1 then
  (ih34 (s.1, s.2.1, s.2.2.1, r15, (s.2.2.2.2.1 + (1 : Int32)), u16))
  else
  (nm s.2.2.2.1 fun x19 =>
  ih34 (s.1, s.2.1, s.2.2.1, x19, (s.2.2.2.2.1 + (1 : Int32)), u16)))
  else
  (nm s.2.2.2.2.1 fun x20 =>
  if x20 = s.2.2.2.2.1 then
  (ih34 (s.1, s.2.1, x20, r15, (s.2.2.2.2.1 + (1 : Int32)), u16))
  else
  (nm s.2.2.2.1 fun x21 =>
  ih34 (s.1, s.2.1, x20, x21, (s.2.2.2.2.1 + (1 : Int32)), u16)))))
def f_X6_truth (a1 : Int32) (u : Uw) : Option (Int32 × Uw) :=
  bd (f_X6_in (a1.toInt64) (1 : Int64) (100 : Int64) u) fun r1 u2 =>
  if r1 = true then
  (nm (u2.1 20 (4 : Int32).toNatClampNeg) fun x3 =>
  lp b_X6_truth_34 2100 (a1, x3, (-1 : Int32), (0 : Int32), (0 : Int32), u2))
  else
  (bd (f_X6_finds (-1000000001 : Int32) u2) fun r22 u23 =>
  some (r22, u23))
set_option maxHeartbeats 4000000 in
set_option maxRecDepth 100000 in
theorem gl_X6_truth_34 (X : Cx) (ad : Nat → Nat) : ∀ (n : Nat) (s : Int32 × Int32 × Int32 × Int32 × Int32 × Uw), Go X ad mi_X6_truth ivI 34 [(0, .ref (ad 86)), (1, .int s.1), (2, .int s.2.1), (3, .int s.2.2.1), (4, .int s.2.2.2.1), (5, .int s.2.2.2.2.1)] [] s.2.2.2.2.2 (lp b_X6_truth_34 n s) := by
  refine go_lp (G := fun (s : Int32 × Int32 × Int32 × Int32 × Int32 × Uw) o => Go X ad mi_X6_truth ivI 34 [(0, .ref (ad 86)), (1, .int s.1), (2, .int s.2.1), (3, .int s.2.2.1), (4, .int s.2.2.2.1), (5, .int s.2.2.2.2.1)] [] s.2.2.2.2.2 o) (fun _ => go_none) (fun ih34 hih34 s => ?_)
  show Go X ad mi_X6_truth ivI 34 [(0, .ref (ad 86)), (1, .int s.1), (2, .int s.2.1), (3, .int s.2.2.1), (4, .int s.2.2.2.1), (5, .int s.2.2.2.2.1)] [] s.2.2.2.2.2 (b_X6_truth_34 ih34 s)
  unfold b_X6_truth_34
  refine go_iload 5 rfl dX6_truth_34 ?_
  refine go_aload_n 0 rfl dX6_truth_36 rfl ?_
  refine go_getR clX6 kt_86 0 (Nat.le_of_ble_eq_true rfl) (f := 87) (fun _ => rfl) gw207 dX6_truth_37 ?_
  refine go_iconst (v := (0 : Int32)) dX6_truth_40 (by decide) ?_
  refine go_ialdL kt_87 kr_87 kl_87 rfl dX6_truth_41 ?_
  refine go_nm (fun x4 => ?_)
  refine go_icmp_ge (tgt := 112) dX6_truth_42 (by decide) ?_ ?_
  · refine go_aload_n 0 rfl dX6_truth_112 rfl ?_
    refine go_getR clX6 kt_86 0 (Nat.le_of_ble_eq_true rfl) (f := 87) (fun _ => rfl) gw207 dX6_truth_113 ?_
    refine go_iconst (v := (4 : Int32)) dX6_truth_116 (by decide) ?_
    refine go_iload_n 2 rfl dX6_truth_117 rfl ?_
    refine go_iastL kt_87 kr_87 kl_87 rfl dX6_truth_118 ?_
    refine go_nmU (fun u5 => ?_)
    refine go_iload_n 3 rfl dX6_truth_119 rfl ?_
    refine go_if_ge (tgt := 132) dX6_truth_120 (by decide) ?_ ?_
    · refine go_iload_n 3 rfl dX6_truth_132 rfl ?_
      exact go_iret rfl dX6_truth_133
    · refine go_aload_n 0 rfl dX6_truth_123 rfl ?_
      refine go_ldc (v := (-1000000004 : Int32)) gw257 dX6_truth_124 ?_
      refine go_callVI (As := fun ad => [.int (-1000000004 : Int32)]) (g_X6_finds (-1000000004 : Int32) u5) mv_X6_finds clX6 kt_86 gw219 rfl ⟨Nat.le_of_ble_eq_true rfl, Nat.le_of_ble_eq_true rfl⟩ rfl (Nat.le_of_ble_eq_true rfl) dX6_truth_126 (fun r6 u7 => ?_)
      refine go_goto (tgt := 133) dX6_truth_129 (by decide) ?_
      exact go_iret rfl dX6_truth_133
  · refine go_aload_n 0 rfl dX6_truth_45 rfl ?_
    refine go_getR clX6 kt_86 0 (Nat.le_of_ble_eq_true rfl) (f := 87) (fun _ => rfl) gw207 dX6_truth_46 ?_
    refine go_iconst (v := (4 : Int32)) dX6_truth_49 (by decide) ?_
    refine go_iload 5 rfl dX6_truth_50 ?_
    refine go_iastL kt_87 kr_87 kl_87 rfl dX6_truth_52 ?_
    refine go_nmU (fun u8 => ?_)
    refine go_aload_n 0 rfl dX6_truth_53 rfl ?_
    refine go_callVV (As := fun ad => []) (g_X6_laysAside  u8) mv_X6_laysAside clX6 kt_86 gw254 rfl ⟨Nat.le_of_ble_eq_true rfl, Nat.le_of_ble_eq_true rfl⟩ rfl (Nat.le_of_ble_eq_true rfl) dX6_truth_54 (fun r9 u10 => ?_)
    refine go_aload_n 0 rfl dX6_truth_57 rfl ?_
    refine go_iload_n 1 rfl dX6_truth_58 rfl ?_
    refine go_callVV (As := fun ad => [.int s.1]) (g_X6_goesOn s.1 u10) mv_X6_goesOn clX6 kt_86 gw249 rfl ⟨Nat.le_of_ble_eq_true rfl, Nat.le_of_ble_eq_true rfl⟩ rfl (Nat.le_of_ble_eq_true rfl) dX6_truth_59 (fun r11 u12 => ?_)
    refine go_aload_n 0 rfl dX6_truth_62 rfl ?_
    refine go_aload_n 0 rfl dX6_truth_63 rfl ?_
    refine go_iconst (v := (0 : Int32)) dX6_truth_64 (by decide) ?_
    refine go_callVI (As := fun ad => [.int (0 : Int32)]) (g_X6_together (0 : Int32) u12) mv_X6_together clX6 kt_86 gw253 rfl ⟨Nat.le_of_ble_eq_true rfl, Nat.le_of_ble_eq_true rfl⟩ rfl (Nat.le_of_ble_eq_true rfl) dX6_truth_65 (fun r13 u14 => ?_)
    refine go_callVI (As := fun ad => [.int r13]) (g_X6_takesBack r13 u14) mv_X6_takesBack clX6 kt_86 gw255 rfl ⟨Nat.le_of_ble_eq_true rfl, Nat.le_of_ble_eq_true rfl⟩ rfl (Nat.le_of_ble_eq_true rfl) dX6_truth_68 (fun r15 u16 => ?_)
    refine go_istore (lv' := [(6, .int r15), (0, .ref (ad 86)), (1, .int s.1), (2, .int s.2.1), (3, .int s.2.2.1), (4, .int s.2.2.2.1), (5, .int s.2.2.2.2.1)]) dX6_truth_71 (Nat.le_of_ble_eq_true rfl) rfl ?_
    refine go_iload_n 4 rfl dX6_truth_73 rfl ?_
    refine go_if_lt (tgt := 84) dX6_truth_74 (by decide) ?_ ?_
    · refine go_iload 6 rfl dX6_truth_84 ?_
      refine go_goto (tgt := 90) dX6_truth_86 (by decide) ?_
      refine go_nm (fun x17 => ?_)
      refine go_istore_n (lv' := [(3, .int x17), (6, .int r15), (0, .ref (ad 86)), (1, .int s.1), (2, .int s.2.1), (4, .int s.2.2.2.1), (5, .int s.2.2.2.2.1)]) dX6_truth_90 rfl (Nat.le_of_ble_eq_true rfl) rfl ?_
      refine go_iload_n 0 rfl dX6_truth_91 rfl ?_
      refine go_iload 6 rfl dX6_truth_92 ?_
      refine go_icmp_ne (tgt := 102) dX6_truth_94 (by decide) ?_ ?_
      · refine go_iload 5 rfl dX6_truth_102 ?_
        refine go_nm (fun x18 => ?_)
        refine go_istore (lv' := [(4, .int x18), (3, .int x17), (6, .int r15), (0, .ref (ad 86)), (1, .int s.1), (2, .int s.2.1), (5, .int s.2.2.2.2.1)]) dX6_truth_104 (Nat.le_of_ble_eq_true rfl) rfl ?_
        refine go_iinc (v := (s.2.2.2.2.1 + (1 : Int32))) (lv' := [(5, .int (s.2.2.2.2.1 + (1 : Int32))), (4, .int x18), (3, .int x17), (6, .int r15), (0, .ref (ad 86)), (1, .int s.1), (2, .int s.2.1)]) 6 rfl dX6_truth_106 rfl (Nat.le_of_ble_eq_true rfl) rfl ?_
        refine go_goto (tgt := 34) dX6_truth_109 (by decide) ?_
        exact go_sub [4, 5, 6, 2, 1, 0] rfl (hih34 (s.1, s.2.1, x17, x18, (s.2.2.2.2.1 + (1 : Int32)), u16))
      · refine go_iload 1 rfl dX6_truth_97 ?_
        refine go_goto (tgt := 104) dX6_truth_99 (by decide) ?_
        refine go_istore (lv' := [(4, .int r15), (3, .int x17), (6, .int r15), (0, .ref (ad 86)), (1, .int s.1), (2, .int s.2.1), (5, .int s.2.2.2.2.1)]) dX6_truth_104 (Nat.le_of_ble_eq_true rfl) rfl ?_
        refine go_iinc (v := (s.2.2.2.2.1 + (1 : Int32))) (lv' := [(5, .int (s.2.2.2.2.1 + (1 : Int32))), (4, .int r15), (3, .int x17), (6, .int r15), (0, .ref (ad 86)), (1, .int s.1), (2, .int s.2.1)]) 6 rfl dX6_truth_106 rfl (Nat.le_of_ble_eq_true rfl) rfl ?_
        refine go_goto (tgt := 34) dX6_truth_109 (by decide) ?_
        exact go_sub [4, 5, 6, 2, 1, 0] rfl (hih34 (s.1, s.2.1, x17, r15, (s.2.2.2.2.1 + (1 : Int32)), u16))
    · refine go_iload 0 rfl dX6_truth_77 ?_
      refine go_iload 5 rfl dX6_truth_79 ?_
      refine go_icmp_ge (tgt := 89) dX6_truth_81 (by decide) ?_ ?_
      · refine go_iload_n 4 rfl dX6_truth_89 rfl ?_
        refine go_istore_n (lv' := [(3, .int s.2.2.1), (6, .int r15), (0, .ref (ad 86)), (1, .int s.1), (2, .int s.2.1), (4, .int s.2.2.2.1), (5, .int s.2.2.2.2.1)]) dX6_truth_90 rfl (Nat.le_of_ble_eq_true rfl) rfl ?_
        refine go_iload_n 0 rfl dX6_truth_91 rfl ?_
        refine go_iload 6 rfl dX6_truth_92 ?_
        refine go_icmp_ne (tgt := 102) dX6_truth_94 (by decide) ?_ ?_
        · refine go_iload 5 rfl dX6_truth_102 ?_
          refine go_nm (fun x19 => ?_)
          refine go_istore (lv' := [(4, .int x19), (3, .int s.2.2.1), (6, .int r15), (0, .ref (ad 86)), (1, .int s.1), (2, .int s.2.1), (5, .int s.2.2.2.2.1)]) dX6_truth_104 (Nat.le_of_ble_eq_true rfl) rfl ?_
          refine go_iinc (v := (s.2.2.2.2.1 + (1 : Int32))) (lv' := [(5, .int (s.2.2.2.2.1 + (1 : Int32))), (4, .int x19), (3, .int s.2.2.1), (6, .int r15), (0, .ref (ad 86)), (1, .int s.1), (2, .int s.2.1)]) 6 rfl dX6_truth_106 rfl (Nat.le_of_ble_eq_true rfl) rfl ?_
          refine go_goto (tgt := 34) dX6_truth_109 (by decide) ?_
          exact go_sub [4, 5, 6, 2, 1, 0] rfl (hih34 (s.1, s.2.1, s.2.2.1, x19, (s.2.2.2.2.1 + (1 : Int32)), u16))
        · refine go_iload 1 rfl dX6_truth_97 ?_
          refine go_goto (tgt := 104) dX6_truth_99 (by decide) ?_
          refine go_istore (lv' := [(4, .int r15), (3, .int s.2.2.1), (6, .int r15), (0, .ref (ad 86)), (1, .int s.1), (2, .int s.2.1), (5, .int s.2.2.2.2.1)]) dX6_truth_104 (Nat.le_of_ble_eq_true rfl) rfl ?_
          refine go_iinc (v := (s.2.2.2.2.1 + (1 : Int32))) (lv' := [(5, .int (s.2.2.2.2.1 + (1 : Int32))), (4, .int r15), (3, .int s.2.2.1), (6, .int r15), (0, .ref (ad 86)), (1, .int s.1), (2, .int s.2.1)]) 6 rfl dX6_truth_106 rfl (Nat.le_of_ble_eq_true rfl) rfl ?_
          refine go_goto (tgt := 34) dX6_truth_109 (by decide) ?_
          exact go_sub [4, 5, 6, 2, 1, 0] rfl (hih34 (s.1, s.2.1, s.2.2.1, r15, (s.2.2.2.2.1 + (1 : Int32)), u16))
      · refine go_iload 6 rfl dX6_truth_84 ?_
        refine go_goto (tgt := 90) dX6_truth_86 (by decide) ?_
        refine go_nm (fun x20 => ?_)
        refine go_istore_n (lv' := [(3, .int x20), (6, .int r15), (0, .ref (ad 86)), (1, .int s.1), (2, .int s.2.1), (4, .int s.2.2.2.1), (5, .int s.2.2.2.2.1)]) dX6_truth_90 rfl (Nat.le_of_ble_eq_true rfl) rfl ?_
        refine go_iload_n 0 rfl dX6_truth_91 rfl ?_
        refine go_iload 6 rfl dX6_truth_92 ?_
        refine go_icmp_ne (tgt := 102) dX6_truth_94 (by decide) ?_ ?_
        · refine go_iload 5 rfl dX6_truth_102 ?_
          refine go_nm (fun x21 => ?_)
          refine go_istore (lv' := [(4, .int x21), (3, .int x20), (6, .int r15), (0, .ref (ad 86)), (1, .int s.1), (2, .int s.2.1), (5, .int s.2.2.2.2.1)]) dX6_truth_104 (Nat.le_of_ble_eq_true rfl) rfl ?_
          refine go_iinc (v := (s.2.2.2.2.1 + (1 : Int32))) (lv' := [(5, .int (s.2.2.2.2.1 + (1 : Int32))), (4, .int x21), (3, .int x20), (6, .int r15), (0, .ref (ad 86)), (1, .int s.1), (2, .int s.2.1)]) 6 rfl dX6_truth_106 rfl (Nat.le_of_ble_eq_true rfl) rfl ?_
          refine go_goto (tgt := 34) dX6_truth_109 (by decide) ?_
          exact go_sub [4, 5, 6, 2, 1, 0] rfl (hih34 (s.1, s.2.1, x20, x21, (s.2.2.2.2.1 + (1 : Int32)), u16))
        · refine go_iload 1 rfl dX6_truth_97 ?_
          refine go_goto (tgt := 104) dX6_truth_99 (by decide) ?_
          refine go_istore (lv' := [(4, .int r15), (3, .int x20), (6, .int r15), (0, .ref (ad 86)), (1, .int s.1), (2, .int s.2.1), (5, .int s.2.2.2.2.1)]) dX6_truth_104 (Nat.le_of_ble_eq_true rfl) rfl ?_
          refine go_iinc (v := (s.2.2.2.2.1 + (1 : Int32))) (lv' := [(5, .int (s.2.2.2.2.1 + (1 : Int32))), (4, .int r15), (3, .int x20), (6, .int r15), (0, .ref (ad 86)), (1, .int s.1), (2, .int s.2.1)]) 6 rfl dX6_truth_106 rfl (Nat.le_of_ble_eq_true rfl) rfl ?_
          refine go_goto (tgt := 34) dX6_truth_109 (by decide) ?_
          exact go_sub [4, 5, 6, 2, 1, 0] rfl (hih34 (s.1, s.2.1, x20, r15, (s.2.2.2.2.1 + (1 : Int32)), u16))
set_option maxHeartbeats 4000000 in
set_option maxRecDepth 100000 in
theorem g_X6_truth (a1 : Int32) (u : Uw) : ∀ l, Con l yX6_truth mi_X6_truth ivI (fun ad => [.ref (ad 86), .int a1]) u (f_X6_truth a1 u) := by
  refine con_of (by decide) rfl (fun _ => Nat.le_of_ble_eq_true rfl) (fun X ad => ?_)
  show Go X ad mi_X6_truth ivI 0 [(0, .ref (ad 86)), (1, .int a1)] [] u (f_X6_truth a1 u)
  unfold f_X6_truth
  refine go_iload_n 1 rfl dX6_truth_0 rfl ?_
  refine go_i2l dX6_truth_1 ?_
  refine go_lconst (v := (1 : Int64)) dX6_truth_2 (by decide) ?_
  refine go_ldc2 (v := (100 : Int64)) gw264 dX6_truth_3 ?_
  refine go_callSZ (As := fun ad => [.long (a1.toInt64), .long (1 : Int64), .long (100 : Int64)]) (g_X6_in (a1.toInt64) (1 : Int64) (100 : Int64) u) mo_X6_in gw209 gw210 rfl ⟨Nat.le_of_ble_eq_true rfl, Nat.le_of_ble_eq_true rfl⟩ rfl (Nat.le_of_ble_eq_true rfl) dX6_truth_6 (fun r1 u2 => ?_)
  refine go_ifz_ne (tgt := 19) dX6_truth_9 (by decide) ?_ ?_
  · refine go_aload_n 0 rfl dX6_truth_19 rfl ?_
    refine go_getR clX6 kt_86 0 (Nat.le_of_ble_eq_true rfl) (f := 87) (fun _ => rfl) gw207 dX6_truth_20 ?_
    refine go_iconst (v := (4 : Int32)) dX6_truth_23 (by decide) ?_
    refine go_ialdL kt_87 kr_87 kl_87 rfl dX6_truth_24 ?_
    refine go_nm (fun x3 => ?_)
    refine go_istore_n (lv' := [(2, .int x3), (0, .ref (ad 86)), (1, .int a1)]) dX6_truth_25 rfl (Nat.le_of_ble_eq_true rfl) rfl ?_
    refine go_iconst (v := (-1 : Int32)) dX6_truth_26 (by decide) ?_
    refine go_istore_n (lv' := [(3, .int (-1 : Int32)), (2, .int x3), (0, .ref (ad 86)), (1, .int a1)]) dX6_truth_27 rfl (Nat.le_of_ble_eq_true rfl) rfl ?_
    refine go_iconst (v := (0 : Int32)) dX6_truth_28 (by decide) ?_
    refine go_istore (lv' := [(4, .int (0 : Int32)), (3, .int (-1 : Int32)), (2, .int x3), (0, .ref (ad 86)), (1, .int a1)]) dX6_truth_29 (Nat.le_of_ble_eq_true rfl) rfl ?_
    refine go_iconst (v := (0 : Int32)) dX6_truth_31 (by decide) ?_
    refine go_istore (lv' := [(5, .int (0 : Int32)), (4, .int (0 : Int32)), (3, .int (-1 : Int32)), (2, .int x3), (0, .ref (ad 86)), (1, .int a1)]) dX6_truth_32 (Nat.le_of_ble_eq_true rfl) rfl ?_
    exact go_sub [4, 5, 3, 2, 1, 0] rfl (gl_X6_truth_34 X ad  2100 (a1, x3, (-1 : Int32), (0 : Int32), (0 : Int32), u2))
  · refine go_aload_n 0 rfl dX6_truth_12 rfl ?_
    refine go_ldc (v := (-1000000001 : Int32)) gw205 dX6_truth_13 ?_
    refine go_callVI (As := fun ad => [.int (-1000000001 : Int32)]) (g_X6_finds (-1000000001 : Int32) u2) mv_X6_finds clX6 kt_86 gw219 rfl ⟨Nat.le_of_ble_eq_true rfl, Nat.le_of_ble_eq_true rfl⟩ rfl (Nat.le_of_ble_eq_true rfl) dX6_truth_15 (fun r22 u23 => ?_)
    exact go_iret rfl dX6_truth_18
def b_X6_cure_40 (ih40 : Int32 × Int32 × Uw → Option (Int32 × Uw)) (s : Int32 × Int32 × Uw) : Option (Int32 × Uw) :=
  nm (s.2.2.1 20 (2 : Int32).toNatClampNeg) fun x6 =>
  if (x6 + (2000 : Int32)) < s.2.1 then
  (bd (f_X6_finds (-1000000004 : Int32) s.2.2) fun r7 u8 =>
  some (r7, u8))
  else
  (nm (s.2.2.1 20 (4 : Int32).toNatClampNeg) fun x9 =>
  bd (f_X6_isHoly x9 s.2.1 s.2.2) fun r10 u11 =>
  if r10 = true then
  (nm (u11.1 20 (3 : Int32).toNatClampNeg) fun x13 =>
  nm (s.1 - x13) fun x14 =>
  if 0 < x14 then
  (ih40 (x14, (s.2.1 + (1 : Int32)), u11))
  else
  (some (s.2.1, u11)))
  else
  (nm (s.1 - (0 : Int32)) fun x12 =>
  if 0 < x12 then
  (ih40 (x12, (s.2.1 + (1 : Int32)), u11))
  else
  (some (s.2.1, u11))))
def f_X6_cure (a1 : Int32) (u : Uw) : Option (Int32 × Uw) :=
  bd (f_X6_isPilgrim a1 u) fun r1 u2 =>
  if r1 = true then
  (bd (f_X6_isOf a1 (0 : Int32) u2) fun r3 u4 =>
  if r3 = 0 then
  (bd (f_X6_finds (-1000000005 : Int32) u4) fun r15 u16 =>
  some (r15, u16))
  else
  (nm (u4.1 20 (2 : Int32).toNatClampNeg) fun x5 =>
  lp b_X6_cure_40 2100 (r3, x5, u4)))
  else
  (bd (f_X6_finds (-1000000001 : Int32) u2) fun r17 u18 =>
  some (r17, u18))
set_option maxHeartbeats 4000000 in
set_option maxRecDepth 100000 in
theorem gl_X6_cure_40 (X : Cx) (ad : Nat → Nat) : ∀ (n : Nat) (s : Int32 × Int32 × Uw), Go X ad mi_X6_cure ivI 40 [(0, .ref (ad 86)), (2, .int s.1), (3, .int s.2.1)] [] s.2.2 (lp b_X6_cure_40 n s) := by
  refine go_lp (G := fun (s : Int32 × Int32 × Uw) o => Go X ad mi_X6_cure ivI 40 [(0, .ref (ad 86)), (2, .int s.1), (3, .int s.2.1)] [] s.2.2 o) (fun _ => go_none) (fun ih40 hih40 s => ?_)
  show Go X ad mi_X6_cure ivI 40 [(0, .ref (ad 86)), (2, .int s.1), (3, .int s.2.1)] [] s.2.2 (b_X6_cure_40 ih40 s)
  unfold b_X6_cure_40
  refine go_iload_n 2 rfl dX6_cure_40 rfl ?_
  refine go_aload_n 0 rfl dX6_cure_41 rfl ?_
  refine go_getR clX6 kt_86 0 (Nat.le_of_ble_eq_true rfl) (f := 87) (fun _ => rfl) gw207 dX6_cure_42 ?_
  refine go_iconst (v := (2 : Int32)) dX6_cure_45 (by decide) ?_
  refine go_ialdL kt_87 kr_87 kl_87 rfl dX6_cure_46 ?_
  refine go_nm (fun x6 => ?_)
  refine go_sipush (v := (2000 : Int32)) dX6_cure_47 (by decide) ?_
  refine go_iadd dX6_cure_50 ?_
  refine go_icmp_gt (tgt := 93) dX6_cure_51 (by decide) ?_ ?_
  · refine go_aload_n 0 rfl dX6_cure_93 rfl ?_
    refine go_ldc (v := (-1000000004 : Int32)) gw257 dX6_cure_94 ?_
    refine go_callVI (As := fun ad => [.int (-1000000004 : Int32)]) (g_X6_finds (-1000000004 : Int32) s.2.2) mv_X6_finds clX6 kt_86 gw219 rfl ⟨Nat.le_of_ble_eq_true rfl, Nat.le_of_ble_eq_true rfl⟩ rfl (Nat.le_of_ble_eq_true rfl) dX6_cure_96 (fun r7 u8 => ?_)
    exact go_iret rfl dX6_cure_99
  · refine go_iload_n 1 rfl dX6_cure_54 rfl ?_
    refine go_aload_n 0 rfl dX6_cure_55 rfl ?_
    refine go_aload_n 0 rfl dX6_cure_56 rfl ?_
    refine go_getR clX6 kt_86 0 (Nat.le_of_ble_eq_true rfl) (f := 87) (fun _ => rfl) gw207 dX6_cure_57 ?_
    refine go_iconst (v := (4 : Int32)) dX6_cure_60 (by decide) ?_
    refine go_ialdL kt_87 kr_87 kl_87 rfl dX6_cure_61 ?_
    refine go_nm (fun x9 => ?_)
    refine go_iload_n 2 rfl dX6_cure_62 rfl ?_
    refine go_callVZ (As := fun ad => [.int x9, .int s.2.1]) (g_X6_isHoly x9 s.2.1 s.2.2) mv_X6_isHoly clX6 kt_86 gw236 rfl ⟨Nat.le_of_ble_eq_true rfl, Nat.le_of_ble_eq_true rfl⟩ rfl (Nat.le_of_ble_eq_true rfl) dX6_cure_63 (fun r10 u11 => ?_)
    refine go_ifz_eq (tgt := 78) dX6_cure_66 (by decide) ?_ ?_
    · refine go_iconst (v := (0 : Int32)) dX6_cure_78 (by decide) ?_
      refine go_isub dX6_cure_79 ?_
      refine go_nm (fun x12 => ?_)
      refine go_istore_n (lv' := [(2, .int x12), (0, .ref (ad 86)), (3, .int s.2.1)]) dX6_cure_80 rfl (Nat.le_of_ble_eq_true rfl) rfl ?_
      refine go_iload_n 0 rfl dX6_cure_81 rfl ?_
      refine go_if_gt (tgt := 87) dX6_cure_82 (by decide) ?_ ?_
      · refine go_iinc (v := (s.2.1 + (1 : Int32))) (lv' := [(3, .int (s.2.1 + (1 : Int32))), (2, .int x12), (0, .ref (ad 86))]) 2 rfl dX6_cure_87 rfl (Nat.le_of_ble_eq_true rfl) rfl ?_
        refine go_goto (tgt := 40) dX6_cure_90 (by decide) ?_
        exact go_sub [2, 1, 0] rfl (hih40 (x12, (s.2.1 + (1 : Int32)), u11))
      · refine go_iload_n 2 rfl dX6_cure_85 rfl ?_
        exact go_iret rfl dX6_cure_86
    · refine go_aload_n 0 rfl dX6_cure_69 rfl ?_
      refine go_getR clX6 kt_86 0 (Nat.le_of_ble_eq_true rfl) (f := 87) (fun _ => rfl) gw207 dX6_cure_70 ?_
      refine go_iconst (v := (3 : Int32)) dX6_cure_73 (by decide) ?_
      refine go_ialdL kt_87 kr_87 kl_87 rfl dX6_cure_74 ?_
      refine go_nm (fun x13 => ?_)
      refine go_goto (tgt := 79) dX6_cure_75 (by decide) ?_
      refine go_isub dX6_cure_79 ?_
      refine go_nm (fun x14 => ?_)
      refine go_istore_n (lv' := [(2, .int x14), (0, .ref (ad 86)), (3, .int s.2.1)]) dX6_cure_80 rfl (Nat.le_of_ble_eq_true rfl) rfl ?_
      refine go_iload_n 0 rfl dX6_cure_81 rfl ?_
      refine go_if_gt (tgt := 87) dX6_cure_82 (by decide) ?_ ?_
      · refine go_iinc (v := (s.2.1 + (1 : Int32))) (lv' := [(3, .int (s.2.1 + (1 : Int32))), (2, .int x14), (0, .ref (ad 86))]) 2 rfl dX6_cure_87 rfl (Nat.le_of_ble_eq_true rfl) rfl ?_
        refine go_goto (tgt := 40) dX6_cure_90 (by decide) ?_
        exact go_sub [2, 1, 0] rfl (hih40 (x14, (s.2.1 + (1 : Int32)), u11))
      · refine go_iload_n 2 rfl dX6_cure_85 rfl ?_
        exact go_iret rfl dX6_cure_86
set_option maxHeartbeats 4000000 in
set_option maxRecDepth 100000 in
theorem g_X6_cure (a1 : Int32) (u : Uw) : ∀ l, Con l yX6_cure mi_X6_cure ivI (fun ad => [.ref (ad 86), .int a1]) u (f_X6_cure a1 u) := by
  refine con_of (by decide) rfl (fun _ => Nat.le_of_ble_eq_true rfl) (fun X ad => ?_)
  show Go X ad mi_X6_cure ivI 0 [(0, .ref (ad 86)), (1, .int a1)] [] u (f_X6_cure a1 u)
  unfold f_X6_cure
  refine go_aload_n 0 rfl dX6_cure_0 rfl ?_
  refine go_iload_n 1 rfl dX6_cure_1 rfl ?_
  refine go_callVZ (As := fun ad => [.int a1]) (g_X6_isPilgrim a1 u) mv_X6_isPilgrim clX6 kt_86 gw240 rfl ⟨Nat.le_of_ble_eq_true rfl, Nat.le_of_ble_eq_true rfl⟩ rfl (Nat.le_of_ble_eq_true rfl) dX6_cure_2 (fun r1 u2 => ?_)
  refine go_ifz_ne (tgt := 15) dX6_cure_5 (by decide) ?_ ?_
  · refine go_aload_n 0 rfl dX6_cure_15 rfl ?_
    refine go_iload_n 1 rfl dX6_cure_16 rfl ?_
    refine go_iconst (v := (0 : Int32)) dX6_cure_17 (by decide) ?_
    refine go_callVI (As := fun ad => [.int a1, .int (0 : Int32)]) (g_X6_isOf a1 (0 : Int32) u2) mv_X6_isOf clX6 kt_86 gw242 rfl ⟨Nat.le_of_ble_eq_true rfl, Nat.le_of_ble_eq_true rfl⟩ rfl (Nat.le_of_ble_eq_true rfl) dX6_cure_18 (fun r3 u4 => ?_)
    refine go_istore_n (lv' := [(2, .int r3), (0, .ref (ad 86)), (1, .int a1)]) dX6_cure_21 rfl (Nat.le_of_ble_eq_true rfl) rfl ?_
    refine go_iload_n 0 rfl dX6_cure_22 rfl ?_
    refine go_if_ne (tgt := 33) dX6_cure_23 (by decide) ?_ ?_
    · refine go_aload_n 1 rfl dX6_cure_33 rfl ?_
      refine go_getR clX6 kt_86 0 (Nat.le_of_ble_eq_true rfl) (f := 87) (fun _ => rfl) gw207 dX6_cure_34 ?_
      refine go_iconst (v := (2 : Int32)) dX6_cure_37 (by decide) ?_
      refine go_ialdL kt_87 kr_87 kl_87 rfl dX6_cure_38 ?_
      refine go_nm (fun x5 => ?_)
      refine go_istore_n (lv' := [(3, .int x5), (2, .int r3), (0, .ref (ad 86)), (1, .int a1)]) dX6_cure_39 rfl (Nat.le_of_ble_eq_true rfl) rfl ?_
      exact go_sub [2, 1, 0] rfl (gl_X6_cure_40 X ad  2100 (r3, x5, u4))
    · refine go_aload_n 1 rfl dX6_cure_26 rfl ?_
      refine go_ldc (v := (-1000000005 : Int32)) gw244 dX6_cure_27 ?_
      refine go_callVI (As := fun ad => [.int (-1000000005 : Int32)]) (g_X6_finds (-1000000005 : Int32) u4) mv_X6_finds clX6 kt_86 gw219 rfl ⟨Nat.le_of_ble_eq_true rfl, Nat.le_of_ble_eq_true rfl⟩ rfl (Nat.le_of_ble_eq_true rfl) dX6_cure_29 (fun r15 u16 => ?_)
      exact go_iret rfl dX6_cure_32
  · refine go_aload_n 0 rfl dX6_cure_8 rfl ?_
    refine go_ldc (v := (-1000000001 : Int32)) gw205 dX6_cure_9 ?_
    refine go_callVI (As := fun ad => [.int (-1000000001 : Int32)]) (g_X6_finds (-1000000001 : Int32) u2) mv_X6_finds clX6 kt_86 gw219 rfl ⟨Nat.le_of_ble_eq_true rfl, Nat.le_of_ble_eq_true rfl⟩ rfl (Nat.le_of_ble_eq_true rfl) dX6_cure_11 (fun r17 u18 => ?_)
    exact go_iret rfl dX6_cure_14
def b_X6_mostAgreed_28 (ih28 : Int32 × Int32 × Int32 × Int32 × Int32 × Int32 × Int32 × Int32 × Uw → Option (Int32 × Uw)) (s : Int32 × Int32 × Int32 × Int32 × Int32 × Int32 × Int32 × Int32 × Uw) : Option (Int32 × Uw) :=
  if s.2.1 ≤ s.2.2.2.2.2.2.2.1 then
  (ck (inb s.2.2.2.1 61) <|
  nm (w1 s.2.2.2.2.2.2.2.2 20 s.2.2.2.1.toNatClampNeg s.2.2.2.2.1) fun u5 =>
  some (s.2.2.2.2.2.1, u5))
  else
  (ck (inb s.2.2.2.1 61) <|
  nm (w1 s.2.2.2.2.2.2.2.2 20 s.2.2.2.1.toNatClampNeg s.2.2.2.2.2.2.2.1) fun u7 =>
  nm (u7.1 20 (4 : Int32).toNatClampNeg) fun x8 =>
  bd (f_X6_agreed s.1 x8 s.2.2.1 u7) fun r9 u10 =>
  if r9 ≤ s.2.2.2.2.2.2.1 then
  (nm s.2.2.2.2.2.1 fun x11 =>
  if r9 ≤ s.2.2.2.2.2.2.1 then
  (nm s.2.2.2.2.2.2.1 fun x12 =>
  ih28 (s.1, s.2.1, s.2.2.1, s.2.2.2.1, s.2.2.2.2.1, x11, x12, (s.2.2.2.2.2.2.2.1 + (1 : Int32)), u10))
  else
  (ih28 (s.1, s.2.1, s.2.2.1, s.2.2.2.1, s.2.2.2.2.1, x11, r9, (s.2.2.2.2.2.2.2.1 + (1 : Int32)), u10)))
  else
  (nm s.2.2.2.2.2.2.2.1 fun x13 =>
  if r9 ≤ s.2.2.2.2.2.2.1 then
  (nm s.2.2.2.2.2.2.1 fun x14 =>
  ih28 (s.1, s.2.1, s.2.2.1, s.2.2.2.1, s.2.2.2.2.1, x13, x14, (s.2.2.2.2.2.2.2.1 + (1 : Int32)), u10))
  else
  (ih28 (s.1, s.2.1, s.2.2.1, s.2.2.2.1, s.2.2.2.2.1, x13, r9, (s.2.2.2.2.2.2.2.1 + (1 : Int32)), u10))))
def f_X6_mostAgreed (a1 : Int32) (a2 : Int32) (a3 : Int32) (a4 : Int32) (u : Uw) : Option (Int32 × Uw) :=
  nm (((7 : Int32) + ((5 : Int32) * a1)) + a2) fun x1 =>
  ck (inb x1 61) <|
  nm (u.1 20 x1.toNatClampNeg) fun x3 =>
  lp b_X6_mostAgreed_28 2100 (a1, a3, a4, x1, x3, (0 : Int32), (-1 : Int32), (0 : Int32), u)
set_option maxHeartbeats 4000000 in
set_option maxRecDepth 100000 in
theorem gl_X6_mostAgreed_28 (X : Cx) (ad : Nat → Nat) : ∀ (n : Nat) (s : Int32 × Int32 × Int32 × Int32 × Int32 × Int32 × Int32 × Int32 × Uw), Go X ad mi_X6_mostAgreed ivI 28 [(0, .ref (ad 86)), (1, .int s.1), (3, .int s.2.1), (4, .int s.2.2.1), (5, .int s.2.2.2.1), (6, .int s.2.2.2.2.1), (7, .int s.2.2.2.2.2.1), (8, .int s.2.2.2.2.2.2.1), (9, .int s.2.2.2.2.2.2.2.1)] [] s.2.2.2.2.2.2.2.2 (lp b_X6_mostAgreed_28 n s) := by
  refine go_lp (G := fun (s : Int32 × Int32 × Int32 × Int32 × Int32 × Int32 × Int32 × Int32 × Uw) o => Go X ad mi_X6_mostAgreed ivI 28 [(0, .ref (ad 86)), (1, .int s.1), (3, .int s.2.1), (4, .int s.2.2.1), (5, .int s.2.2.2.1), (6, .int s.2.2.2.2.1), (7, .int s.2.2.2.2.2.1), (8, .int s.2.2.2.2.2.2.1), (9, .int s.2.2.2.2.2.2.2.1)] [] s.2.2.2.2.2.2.2.2 o) (fun _ => go_none) (fun ih28 hih28 s => ?_)
  show Go X ad mi_X6_mostAgreed ivI 28 [(0, .ref (ad 86)), (1, .int s.1), (3, .int s.2.1), (4, .int s.2.2.1), (5, .int s.2.2.2.1), (6, .int s.2.2.2.2.1), (7, .int s.2.2.2.2.2.1), (8, .int s.2.2.2.2.2.2.1), (9, .int s.2.2.2.2.2.2.2.1)] [] s.2.2.2.2.2.2.2.2 (b_X6_mostAgreed_28 ih28 s)
  unfold b_X6_mostAgreed_28
  refine go_iload 8 rfl dX6_mostAgreed_28 ?_
  refine go_iload_n 2 rfl dX6_mostAgreed_30 rfl ?_
  refine go_icmp_ge (tgt := 96) dX6_mostAgreed_31 (by decide) ?_ ?_
  · refine go_aload_n 0 rfl dX6_mostAgreed_96 rfl ?_
    refine go_getR clX6 kt_86 0 (Nat.le_of_ble_eq_true rfl) (f := 87) (fun _ => rfl) gw207 dX6_mostAgreed_97 ?_
    refine go_iload 4 rfl dX6_mostAgreed_100 ?_
    refine go_iload 5 rfl dX6_mostAgreed_102 ?_
    refine go_ck (fun h4 => ?_)
    refine go_iastL kt_87 kr_87 kl_87 h4 dX6_mostAgreed_104 ?_
    refine go_nmU (fun u5 => ?_)
    refine go_iload 6 rfl dX6_mostAgreed_105 ?_
    exact go_iret rfl dX6_mostAgreed_107
  · refine go_aload_n 0 rfl dX6_mostAgreed_34 rfl ?_
    refine go_getR clX6 kt_86 0 (Nat.le_of_ble_eq_true rfl) (f := 87) (fun _ => rfl) gw207 dX6_mostAgreed_35 ?_
    refine go_iload 4 rfl dX6_mostAgreed_38 ?_
    refine go_iload 8 rfl dX6_mostAgreed_40 ?_
    refine go_ck (fun h6 => ?_)
    refine go_iastL kt_87 kr_87 kl_87 h6 dX6_mostAgreed_42 ?_
    refine go_nmU (fun u7 => ?_)
    refine go_aload_n 0 rfl dX6_mostAgreed_43 rfl ?_
    refine go_iload_n 1 rfl dX6_mostAgreed_44 rfl ?_
    refine go_aload_n 0 rfl dX6_mostAgreed_45 rfl ?_
    refine go_getR clX6 kt_86 0 (Nat.le_of_ble_eq_true rfl) (f := 87) (fun _ => rfl) gw207 dX6_mostAgreed_46 ?_
    refine go_iconst (v := (4 : Int32)) dX6_mostAgreed_49 (by decide) ?_
    refine go_ialdL kt_87 kr_87 kl_87 rfl dX6_mostAgreed_50 ?_
    refine go_nm (fun x8 => ?_)
    refine go_iload 3 rfl dX6_mostAgreed_51 ?_
    refine go_callVI (As := fun ad => [.int s.1, .int x8, .int s.2.2.1]) (g_X6_agreed s.1 x8 s.2.2.1 u7) mv_X6_agreed clX6 kt_86 gw260 rfl ⟨Nat.le_of_ble_eq_true rfl, Nat.le_of_ble_eq_true rfl⟩ rfl (Nat.le_of_ble_eq_true rfl) dX6_mostAgreed_53 (fun r9 u10 => ?_)
    refine go_istore (lv' := [(10, .int r9), (0, .ref (ad 86)), (1, .int s.1), (3, .int s.2.1), (4, .int s.2.2.1), (5, .int s.2.2.2.1), (6, .int s.2.2.2.2.1), (7, .int s.2.2.2.2.2.1), (8, .int s.2.2.2.2.2.2.1), (9, .int s.2.2.2.2.2.2.2.1)]) dX6_mostAgreed_56 (Nat.le_of_ble_eq_true rfl) rfl ?_
    refine go_iload 0 rfl dX6_mostAgreed_58 ?_
    refine go_iload 8 rfl dX6_mostAgreed_60 ?_
    refine go_icmp_le (tgt := 70) dX6_mostAgreed_62 (by decide) ?_ ?_
    · refine go_iload 7 rfl dX6_mostAgreed_70 ?_
      refine go_nm (fun x11 => ?_)
      refine go_istore (lv' := [(7, .int x11), (10, .int r9), (0, .ref (ad 86)), (1, .int s.1), (3, .int s.2.1), (4, .int s.2.2.1), (5, .int s.2.2.2.1), (6, .int s.2.2.2.2.1), (8, .int s.2.2.2.2.2.2.1), (9, .int s.2.2.2.2.2.2.2.1)]) dX6_mostAgreed_72 (Nat.le_of_ble_eq_true rfl) rfl ?_
      refine go_iload 1 rfl dX6_mostAgreed_74 ?_
      refine go_iload 8 rfl dX6_mostAgreed_76 ?_
      refine go_icmp_le (tgt := 86) dX6_mostAgreed_78 (by decide) ?_ ?_
      · refine go_iload 8 rfl dX6_mostAgreed_86 ?_
        refine go_nm (fun x12 => ?_)
        refine go_istore (lv' := [(8, .int x12), (7, .int x11), (10, .int r9), (0, .ref (ad 86)), (1, .int s.1), (3, .int s.2.1), (4, .int s.2.2.1), (5, .int s.2.2.2.1), (6, .int s.2.2.2.2.1), (9, .int s.2.2.2.2.2.2.2.1)]) dX6_mostAgreed_88 (Nat.le_of_ble_eq_true rfl) rfl ?_
        refine go_iinc (v := (s.2.2.2.2.2.2.2.1 + (1 : Int32))) (lv' := [(9, .int (s.2.2.2.2.2.2.2.1 + (1 : Int32))), (8, .int x12), (7, .int x11), (10, .int r9), (0, .ref (ad 86)), (1, .int s.1), (3, .int s.2.1), (4, .int s.2.2.1), (5, .int s.2.2.2.1), (6, .int s.2.2.2.2.1)]) 9 rfl dX6_mostAgreed_90 rfl (Nat.le_of_ble_eq_true rfl) rfl ?_
        refine go_goto (tgt := 28) dX6_mostAgreed_93 (by decide) ?_
        exact go_sub [4, 5, 6, 7, 8, 9, 2, 1, 0] rfl (hih28 (s.1, s.2.1, s.2.2.1, s.2.2.2.1, s.2.2.2.2.1, x11, x12, (s.2.2.2.2.2.2.2.1 + (1 : Int32)), u10))
      · refine go_iload 1 rfl dX6_mostAgreed_81 ?_
        refine go_goto (tgt := 88) dX6_mostAgreed_83 (by decide) ?_
        refine go_istore (lv' := [(8, .int r9), (7, .int x11), (10, .int r9), (0, .ref (ad 86)), (1, .int s.1), (3, .int s.2.1), (4, .int s.2.2.1), (5, .int s.2.2.2.1), (6, .int s.2.2.2.2.1), (9, .int s.2.2.2.2.2.2.2.1)]) dX6_mostAgreed_88 (Nat.le_of_ble_eq_true rfl) rfl ?_
        refine go_iinc (v := (s.2.2.2.2.2.2.2.1 + (1 : Int32))) (lv' := [(9, .int (s.2.2.2.2.2.2.2.1 + (1 : Int32))), (8, .int r9), (7, .int x11), (10, .int r9), (0, .ref (ad 86)), (1, .int s.1), (3, .int s.2.1), (4, .int s.2.2.1), (5, .int s.2.2.2.1), (6, .int s.2.2.2.2.1)]) 9 rfl dX6_mostAgreed_90 rfl (Nat.le_of_ble_eq_true rfl) rfl ?_
        refine go_goto (tgt := 28) dX6_mostAgreed_93 (by decide) ?_
        exact go_sub [4, 5, 6, 7, 8, 9, 2, 1, 0] rfl (hih28 (s.1, s.2.1, s.2.2.1, s.2.2.2.1, s.2.2.2.2.1, x11, r9, (s.2.2.2.2.2.2.2.1 + (1 : Int32)), u10))
    · refine go_iload 9 rfl dX6_mostAgreed_65 ?_
      refine go_goto (tgt := 72) dX6_mostAgreed_67 (by decide) ?_
      refine go_nm (fun x13 => ?_)
      refine go_istore (lv' := [(7, .int x13), (10, .int r9), (0, .ref (ad 86)), (1, .int s.1), (3, .int s.2.1), (4, .int s.2.2.1), (5, .int s.2.2.2.1), (6, .int s.2.2.2.2.1), (8, .int s.2.2.2.2.2.2.1), (9, .int s.2.2.2.2.2.2.2.1)]) dX6_mostAgreed_72 (Nat.le_of_ble_eq_true rfl) rfl ?_
      refine go_iload 1 rfl dX6_mostAgreed_74 ?_
      refine go_iload 8 rfl dX6_mostAgreed_76 ?_
      refine go_icmp_le (tgt := 86) dX6_mostAgreed_78 (by decide) ?_ ?_
      · refine go_iload 8 rfl dX6_mostAgreed_86 ?_
        refine go_nm (fun x14 => ?_)
        refine go_istore (lv' := [(8, .int x14), (7, .int x13), (10, .int r9), (0, .ref (ad 86)), (1, .int s.1), (3, .int s.2.1), (4, .int s.2.2.1), (5, .int s.2.2.2.1), (6, .int s.2.2.2.2.1), (9, .int s.2.2.2.2.2.2.2.1)]) dX6_mostAgreed_88 (Nat.le_of_ble_eq_true rfl) rfl ?_
        refine go_iinc (v := (s.2.2.2.2.2.2.2.1 + (1 : Int32))) (lv' := [(9, .int (s.2.2.2.2.2.2.2.1 + (1 : Int32))), (8, .int x14), (7, .int x13), (10, .int r9), (0, .ref (ad 86)), (1, .int s.1), (3, .int s.2.1), (4, .int s.2.2.1), (5, .int s.2.2.2.1), (6, .int s.2.2.2.2.1)]) 9 rfl dX6_mostAgreed_90 rfl (Nat.le_of_ble_eq_true rfl) rfl ?_
        refine go_goto (tgt := 28) dX6_mostAgreed_93 (by decide) ?_
        exact go_sub [4, 5, 6, 7, 8, 9, 2, 1, 0] rfl (hih28 (s.1, s.2.1, s.2.2.1, s.2.2.2.1, s.2.2.2.2.1, x13, x14, (s.2.2.2.2.2.2.2.1 + (1 : Int32)), u10))
      · refine go_iload 1 rfl dX6_mostAgreed_81 ?_
        refine go_goto (tgt := 88) dX6_mostAgreed_83 (by decide) ?_
        refine go_istore (lv' := [(8, .int r9), (7, .int x13), (10, .int r9), (0, .ref (ad 86)), (1, .int s.1), (3, .int s.2.1), (4, .int s.2.2.1), (5, .int s.2.2.2.1), (6, .int s.2.2.2.2.1), (9, .int s.2.2.2.2.2.2.2.1)]) dX6_mostAgreed_88 (Nat.le_of_ble_eq_true rfl) rfl ?_
        refine go_iinc (v := (s.2.2.2.2.2.2.2.1 + (1 : Int32))) (lv' := [(9, .int (s.2.2.2.2.2.2.2.1 + (1 : Int32))), (8, .int r9), (7, .int x13), (10, .int r9), (0, .ref (ad 86)), (1, .int s.1), (3, .int s.2.1), (4, .int s.2.2.1), (5, .int s.2.2.2.1), (6, .int s.2.2.2.2.1)]) 9 rfl dX6_mostAgreed_90 rfl (Nat.le_of_ble_eq_true rfl) rfl ?_
        refine go_goto (tgt := 28) dX6_mostAgreed_93 (by decide) ?_
        exact go_sub [4, 5, 6, 7, 8, 9, 2, 1, 0] rfl (hih28 (s.1, s.2.1, s.2.2.1, s.2.2.2.1, s.2.2.2.2.1, x13, r9, (s.2.2.2.2.2.2.2.1 + (1 : Int32)), u10))
set_option maxHeartbeats 4000000 in
set_option maxRecDepth 100000 in
theorem g_X6_mostAgreed (a1 : Int32) (a2 : Int32) (a3 : Int32) (a4 : Int32) (u : Uw) : ∀ l, Con l yX6_mostAgreed mi_X6_mostAgreed ivI (fun ad => [.ref (ad 86), .int a1, .int a2, .int a3, .int a4]) u (f_X6_mostAgreed a1 a2 a3 a4 u) := by
  refine con_of (by decide) rfl (fun _ => Nat.le_of_ble_eq_true rfl) (fun X ad => ?_)
  show Go X ad mi_X6_mostAgreed ivI 0 [(0, .ref (ad 86)), (1, .int a1), (2, .int a2), (3, .int a3), (4, .int a4)] [] u (f_X6_mostAgreed a1 a2 a3 a4 u)
  unfold f_X6_mostAgreed
  refine go_bipush (v := (7 : Int32)) dX6_mostAgreed_0 (by decide) ?_
  refine go_iconst (v := (5 : Int32)) dX6_mostAgreed_2 (by decide) ?_
  refine go_iload_n 1 rfl dX6_mostAgreed_3 rfl ?_
  refine go_imul dX6_mostAgreed_4 ?_
  refine go_iadd dX6_mostAgreed_5 ?_
  refine go_iload_n 2 rfl dX6_mostAgreed_6 rfl ?_
  refine go_iadd dX6_mostAgreed_7 ?_
  refine go_nm (fun x1 => ?_)
  refine go_istore (lv' := [(5, .int x1), (0, .ref (ad 86)), (1, .int a1), (2, .int a2), (3, .int a3), (4, .int a4)]) dX6_mostAgreed_8 (Nat.le_of_ble_eq_true rfl) rfl ?_
  refine go_aload_n 1 rfl dX6_mostAgreed_10 rfl ?_
  refine go_getR clX6 kt_86 0 (Nat.le_of_ble_eq_true rfl) (f := 87) (fun _ => rfl) gw207 dX6_mostAgreed_11 ?_
  refine go_iload 0 rfl dX6_mostAgreed_14 ?_
  refine go_ck (fun h2 => ?_)
  refine go_ialdL kt_87 kr_87 kl_87 h2 dX6_mostAgreed_16 ?_
  refine go_nm (fun x3 => ?_)
  refine go_istore (lv' := [(6, .int x3), (5, .int x1), (0, .ref (ad 86)), (1, .int a1), (2, .int a2), (3, .int a3), (4, .int a4)]) dX6_mostAgreed_17 (Nat.le_of_ble_eq_true rfl) rfl ?_
  refine go_iconst (v := (0 : Int32)) dX6_mostAgreed_19 (by decide) ?_
  refine go_istore (lv' := [(7, .int (0 : Int32)), (6, .int x3), (5, .int x1), (0, .ref (ad 86)), (1, .int a1), (2, .int a2), (3, .int a3), (4, .int a4)]) dX6_mostAgreed_20 (Nat.le_of_ble_eq_true rfl) rfl ?_
  refine go_iconst (v := (-1 : Int32)) dX6_mostAgreed_22 (by decide) ?_
  refine go_istore (lv' := [(8, .int (-1 : Int32)), (7, .int (0 : Int32)), (6, .int x3), (5, .int x1), (0, .ref (ad 86)), (1, .int a1), (2, .int a2), (3, .int a3), (4, .int a4)]) dX6_mostAgreed_23 (Nat.le_of_ble_eq_true rfl) rfl ?_
  refine go_iconst (v := (0 : Int32)) dX6_mostAgreed_25 (by decide) ?_
  refine go_istore (lv' := [(9, .int (0 : Int32)), (8, .int (-1 : Int32)), (7, .int (0 : Int32)), (6, .int x3), (5, .int x1), (0, .ref (ad 86)), (1, .int a1), (2, .int a2), (3, .int a3), (4, .int a4)]) dX6_mostAgreed_26 (Nat.le_of_ble_eq_true rfl) rfl ?_
  exact go_sub [5, 6, 8, 9, 4, 3, 2, 1, 0] rfl (gl_X6_mostAgreed_28 X ad  2100 (a1, a3, a4, x1, x3, (0 : Int32), (-1 : Int32), (0 : Int32), u))
def f_X6_kind (a1 : Int32) (a2 : Int32) (u : Uw) : Option (Int32 × Uw) :=
  bd (f_X6_isCalendar a1 u) fun r1 u2 =>
  if r1 = true then
  (bd (f_X6_in (a2.toInt64) (1 : Int64) (400 : Int64) u2) fun r5 u6 =>
  if r5 = true then
  (nm (u6.1 20 (4 : Int32).toNatClampNeg) fun x7 =>
  bd (f_X6_isCalendar x7 u6) fun r8 u9 =>
  if r8 = true then
  (bd (f_X6_mostAgreed a1 (0 : Int32) (6 : Int32) a2 u9) fun r12 u13 =>
  some (r12, u13))
  else
  (bd (f_X6_finds (-1000000005 : Int32) u9) fun r10 u11 =>
  some (r10, u11)))
  else
  (bd (f_X6_finds (-1000000001 : Int32) u6) fun r14 u15 =>
  some (r14, u15)))
  else
  (bd (f_X6_finds (-1000000001 : Int32) u2) fun r3 u4 =>
  some (r3, u4))
set_option maxHeartbeats 4000000 in
set_option maxRecDepth 100000 in
theorem g_X6_kind (a1 : Int32) (a2 : Int32) (u : Uw) : ∀ l, Con l yX6_kind mi_X6_kind ivI (fun ad => [.ref (ad 86), .int a1, .int a2]) u (f_X6_kind a1 a2 u) := by
  refine con_of (by decide) rfl (fun _ => Nat.le_of_ble_eq_true rfl) (fun X ad => ?_)
  show Go X ad mi_X6_kind ivI 0 [(0, .ref (ad 86)), (1, .int a1), (2, .int a2)] [] u (f_X6_kind a1 a2 u)
  unfold f_X6_kind
  refine go_aload_n 0 rfl dX6_kind_0 rfl ?_
  refine go_iload_n 1 rfl dX6_kind_1 rfl ?_
  refine go_callVZ (As := fun ad => [.int a1]) (g_X6_isCalendar a1 u) mv_X6_isCalendar clX6 kt_86 gw211 rfl ⟨Nat.le_of_ble_eq_true rfl, Nat.le_of_ble_eq_true rfl⟩ rfl (Nat.le_of_ble_eq_true rfl) dX6_kind_2 (fun r1 u2 => ?_)
  refine go_ifz_eq (tgt := 20) dX6_kind_5 (by decide) ?_ ?_
  · refine go_aload_n 0 rfl dX6_kind_20 rfl ?_
    refine go_ldc (v := (-1000000001 : Int32)) gw205 dX6_kind_21 ?_
    refine go_callVI (As := fun ad => [.int (-1000000001 : Int32)]) (g_X6_finds (-1000000001 : Int32) u2) mv_X6_finds clX6 kt_86 gw219 rfl ⟨Nat.le_of_ble_eq_true rfl, Nat.le_of_ble_eq_true rfl⟩ rfl (Nat.le_of_ble_eq_true rfl) dX6_kind_23 (fun r3 u4 => ?_)
    exact go_iret rfl dX6_kind_26
  · refine go_iload_n 2 rfl dX6_kind_8 rfl ?_
    refine go_i2l dX6_kind_9 ?_
    refine go_lconst (v := (1 : Int64)) dX6_kind_10 (by decide) ?_
    refine go_ldc2 (v := (400 : Int64)) gw247 dX6_kind_11 ?_
    refine go_callSZ (As := fun ad => [.long (a2.toInt64), .long (1 : Int64), .long (400 : Int64)]) (g_X6_in (a2.toInt64) (1 : Int64) (400 : Int64) u2) mo_X6_in gw209 gw210 rfl ⟨Nat.le_of_ble_eq_true rfl, Nat.le_of_ble_eq_true rfl⟩ rfl (Nat.le_of_ble_eq_true rfl) dX6_kind_14 (fun r5 u6 => ?_)
    refine go_ifz_ne (tgt := 27) dX6_kind_17 (by decide) ?_ ?_
    · refine go_aload_n 0 rfl dX6_kind_27 rfl ?_
      refine go_aload_n 0 rfl dX6_kind_28 rfl ?_
      refine go_getR clX6 kt_86 0 (Nat.le_of_ble_eq_true rfl) (f := 87) (fun _ => rfl) gw207 dX6_kind_29 ?_
      refine go_iconst (v := (4 : Int32)) dX6_kind_32 (by decide) ?_
      refine go_ialdL kt_87 kr_87 kl_87 rfl dX6_kind_33 ?_
      refine go_nm (fun x7 => ?_)
      refine go_callVZ (As := fun ad => [.int x7]) (g_X6_isCalendar x7 u6) mv_X6_isCalendar clX6 kt_86 gw211 rfl ⟨Nat.le_of_ble_eq_true rfl, Nat.le_of_ble_eq_true rfl⟩ rfl (Nat.le_of_ble_eq_true rfl) dX6_kind_34 (fun r8 u9 => ?_)
      refine go_ifz_eq (tgt := 52) dX6_kind_37 (by decide) ?_ ?_
      · refine go_aload_n 0 rfl dX6_kind_52 rfl ?_
        refine go_ldc (v := (-1000000005 : Int32)) gw244 dX6_kind_53 ?_
        refine go_callVI (As := fun ad => [.int (-1000000005 : Int32)]) (g_X6_finds (-1000000005 : Int32) u9) mv_X6_finds clX6 kt_86 gw219 rfl ⟨Nat.le_of_ble_eq_true rfl, Nat.le_of_ble_eq_true rfl⟩ rfl (Nat.le_of_ble_eq_true rfl) dX6_kind_55 (fun r10 u11 => ?_)
        exact go_iret rfl dX6_kind_58
      · refine go_aload_n 0 rfl dX6_kind_40 rfl ?_
        refine go_iload_n 1 rfl dX6_kind_41 rfl ?_
        refine go_iconst (v := (0 : Int32)) dX6_kind_42 (by decide) ?_
        refine go_bipush (v := (6 : Int32)) dX6_kind_43 (by decide) ?_
        refine go_iload_n 2 rfl dX6_kind_45 rfl ?_
        refine go_callVI (As := fun ad => [.int a1, .int (0 : Int32), .int (6 : Int32), .int a2]) (g_X6_mostAgreed a1 (0 : Int32) (6 : Int32) a2 u9) mv_X6_mostAgreed clX6 kt_86 gw265 rfl ⟨Nat.le_of_ble_eq_true rfl, Nat.le_of_ble_eq_true rfl⟩ rfl (Nat.le_of_ble_eq_true rfl) dX6_kind_46 (fun r12 u13 => ?_)
        refine go_goto (tgt := 58) dX6_kind_49 (by decide) ?_
        exact go_iret rfl dX6_kind_58
    · refine go_aload_n 0 rfl dX6_kind_20 rfl ?_
      refine go_ldc (v := (-1000000001 : Int32)) gw205 dX6_kind_21 ?_
      refine go_callVI (As := fun ad => [.int (-1000000001 : Int32)]) (g_X6_finds (-1000000001 : Int32) u6) mv_X6_finds clX6 kt_86 gw219 rfl ⟨Nat.le_of_ble_eq_true rfl, Nat.le_of_ble_eq_true rfl⟩ rfl (Nat.le_of_ble_eq_true rfl) dX6_kind_23 (fun r14 u15 => ?_)
      exact go_iret rfl dX6_kind_26
def f_X6_begin (a1 : Int32) (a2 : Int32) (u : Uw) : Option (Int32 × Uw) :=
  bd (f_X6_isCalendar a1 u) fun r1 u2 =>
  if r1 = true then
  (bd (f_X6_in (a2.toInt64) (1 : Int64) (100 : Int64) u2) fun r5 u6 =>
  if r5 = true then
  (nm (u6.1 20 (4 : Int32).toNatClampNeg) fun x7 =>
  bd (f_X6_isCalendar x7 u6) fun r8 u9 =>
  if r8 = true then
  (bd (f_X6_mostAgreed a1 (1 : Int32) (100 : Int32) a2 u9) fun r12 u13 =>
  some (r12, u13))
  else
  (bd (f_X6_finds (-1000000005 : Int32) u9) fun r10 u11 =>
  some (r10, u11)))
  else
  (bd (f_X6_finds (-1000000001 : Int32) u6) fun r14 u15 =>
  some (r14, u15)))
  else
  (bd (f_X6_finds (-1000000001 : Int32) u2) fun r3 u4 =>
  some (r3, u4))
set_option maxHeartbeats 4000000 in
set_option maxRecDepth 100000 in
theorem g_X6_begin (a1 : Int32) (a2 : Int32) (u : Uw) : ∀ l, Con l yX6_begin mi_X6_begin ivI (fun ad => [.ref (ad 86), .int a1, .int a2]) u (f_X6_begin a1 a2 u) := by
  refine con_of (by decide) rfl (fun _ => Nat.le_of_ble_eq_true rfl) (fun X ad => ?_)
  show Go X ad mi_X6_begin ivI 0 [(0, .ref (ad 86)), (1, .int a1), (2, .int a2)] [] u (f_X6_begin a1 a2 u)
  unfold f_X6_begin
  refine go_aload_n 0 rfl dX6_begin_0 rfl ?_
  refine go_iload_n 1 rfl dX6_begin_1 rfl ?_
  refine go_callVZ (As := fun ad => [.int a1]) (g_X6_isCalendar a1 u) mv_X6_isCalendar clX6 kt_86 gw211 rfl ⟨Nat.le_of_ble_eq_true rfl, Nat.le_of_ble_eq_true rfl⟩ rfl (Nat.le_of_ble_eq_true rfl) dX6_begin_2 (fun r1 u2 => ?_)
  refine go_ifz_eq (tgt := 20) dX6_begin_5 (by decide) ?_ ?_
  · refine go_aload_n 0 rfl dX6_begin_20 rfl ?_
    refine go_ldc (v := (-1000000001 : Int32)) gw205 dX6_begin_21 ?_
    refine go_callVI (As := fun ad => [.int (-1000000001 : Int32)]) (g_X6_finds (-1000000001 : Int32) u2) mv_X6_finds clX6 kt_86 gw219 rfl ⟨Nat.le_of_ble_eq_true rfl, Nat.le_of_ble_eq_true rfl⟩ rfl (Nat.le_of_ble_eq_true rfl) dX6_begin_23 (fun r3 u4 => ?_)
    exact go_iret rfl dX6_begin_26
  · refine go_iload_n 2 rfl dX6_begin_8 rfl ?_
    refine go_i2l dX6_begin_9 ?_
    refine go_lconst (v := (1 : Int64)) dX6_begin_10 (by decide) ?_
    refine go_ldc2 (v := (100 : Int64)) gw264 dX6_begin_11 ?_
    refine go_callSZ (As := fun ad => [.long (a2.toInt64), .long (1 : Int64), .long (100 : Int64)]) (g_X6_in (a2.toInt64) (1 : Int64) (100 : Int64) u2) mo_X6_in gw209 gw210 rfl ⟨Nat.le_of_ble_eq_true rfl, Nat.le_of_ble_eq_true rfl⟩ rfl (Nat.le_of_ble_eq_true rfl) dX6_begin_14 (fun r5 u6 => ?_)
    refine go_ifz_ne (tgt := 27) dX6_begin_17 (by decide) ?_ ?_
    · refine go_aload_n 0 rfl dX6_begin_27 rfl ?_
      refine go_aload_n 0 rfl dX6_begin_28 rfl ?_
      refine go_getR clX6 kt_86 0 (Nat.le_of_ble_eq_true rfl) (f := 87) (fun _ => rfl) gw207 dX6_begin_29 ?_
      refine go_iconst (v := (4 : Int32)) dX6_begin_32 (by decide) ?_
      refine go_ialdL kt_87 kr_87 kl_87 rfl dX6_begin_33 ?_
      refine go_nm (fun x7 => ?_)
      refine go_callVZ (As := fun ad => [.int x7]) (g_X6_isCalendar x7 u6) mv_X6_isCalendar clX6 kt_86 gw211 rfl ⟨Nat.le_of_ble_eq_true rfl, Nat.le_of_ble_eq_true rfl⟩ rfl (Nat.le_of_ble_eq_true rfl) dX6_begin_34 (fun r8 u9 => ?_)
      refine go_ifz_eq (tgt := 52) dX6_begin_37 (by decide) ?_ ?_
      · refine go_aload_n 0 rfl dX6_begin_52 rfl ?_
        refine go_ldc (v := (-1000000005 : Int32)) gw244 dX6_begin_53 ?_
        refine go_callVI (As := fun ad => [.int (-1000000005 : Int32)]) (g_X6_finds (-1000000005 : Int32) u9) mv_X6_finds clX6 kt_86 gw219 rfl ⟨Nat.le_of_ble_eq_true rfl, Nat.le_of_ble_eq_true rfl⟩ rfl (Nat.le_of_ble_eq_true rfl) dX6_begin_55 (fun r10 u11 => ?_)
        exact go_iret rfl dX6_begin_58
      · refine go_aload_n 0 rfl dX6_begin_40 rfl ?_
        refine go_iload_n 1 rfl dX6_begin_41 rfl ?_
        refine go_iconst (v := (1 : Int32)) dX6_begin_42 (by decide) ?_
        refine go_bipush (v := (100 : Int32)) dX6_begin_43 (by decide) ?_
        refine go_iload_n 2 rfl dX6_begin_45 rfl ?_
        refine go_callVI (As := fun ad => [.int a1, .int (1 : Int32), .int (100 : Int32), .int a2]) (g_X6_mostAgreed a1 (1 : Int32) (100 : Int32) a2 u9) mv_X6_mostAgreed clX6 kt_86 gw265 rfl ⟨Nat.le_of_ble_eq_true rfl, Nat.le_of_ble_eq_true rfl⟩ rfl (Nat.le_of_ble_eq_true rfl) dX6_begin_46 (fun r12 u13 => ?_)
        refine go_goto (tgt := 58) dX6_begin_49 (by decide) ?_
        exact go_iret rfl dX6_begin_58
    · refine go_aload_n 0 rfl dX6_begin_20 rfl ?_
      refine go_ldc (v := (-1000000001 : Int32)) gw205 dX6_begin_21 ?_
      refine go_callVI (As := fun ad => [.int (-1000000001 : Int32)]) (g_X6_finds (-1000000001 : Int32) u6) mv_X6_finds clX6 kt_86 gw219 rfl ⟨Nat.le_of_ble_eq_true rfl, Nat.le_of_ble_eq_true rfl⟩ rfl (Nat.le_of_ble_eq_true rfl) dX6_begin_23 (fun r14 u15 => ?_)
      exact go_iret rfl dX6_begin_26
def b_X6_power_34 (ih34 : Int32 × Int32 × Int32 × Int32 × Int32 × Uw → Option (Int32 × Uw)) (s : Int32 × Int32 × Int32 × Int32 × Int32 × Uw) : Option (Int32 × Uw) :=
  if (50 : Int32) < s.2.2.2.2.1 then
  (nm (w1 s.2.2.2.2.2 20 (3 : Int32).toNatClampNeg s.2.1) fun u4 =>
  some (s.2.2.1, u4))
  else
  (nm (w1 s.2.2.2.2.2 20 (3 : Int32).toNatClampNeg s.2.2.2.2.1) fun u5 =>
  bd (f_X6_laysAside  u5) fun r6 u7 =>
  bd (f_X6_goesOn s.1 u7) fun r8 u9 =>
  bd (f_X6_wellOnes  u9) fun r10 u11 =>
  bd (f_X6_ones r10 u11) fun r12 u13 =>
  bd (f_X6_takesBack r12 u13) fun r14 u15 =>
  if r14 ≤ s.2.2.2.1 then
  (if r14 ≤ s.2.2.2.1 then
  (nm s.2.2.2.1 fun x16 =>
  ih34 (s.1, s.2.1, s.2.2.1, x16, (s.2.2.2.2.1 + (1 : Int32)), u15))
  else
  (ih34 (s.1, s.2.1, s.2.2.1, r14, (s.2.2.2.2.1 + (1 : Int32)), u15)))
  else
  (nm s.2.2.2.2.1 fun x17 =>
  if r14 ≤ s.2.2.2.1 then
  (nm s.2.2.2.1 fun x18 =>
  ih34 (s.1, s.2.1, x17, x18, (s.2.2.2.2.1 + (1 : Int32)), u15))
  else
  (ih34 (s.1, s.2.1, x17, r14, (s.2.2.2.2.1 + (1 : Int32)), u15))))
def f_X6_power (a1 : Int32) (u : Uw) : Option (Int32 × Uw) :=
  bd (f_X6_in (a1.toInt64) (1 : Int64) (100 : Int64) u) fun r1 u2 =>
  if r1 = true then
  (nm (u2.1 20 (3 : Int32).toNatClampNeg) fun x3 =>
  lp b_X6_power_34 2100 (a1, x3, (0 : Int32), (-1 : Int32), (1 : Int32), u2))
  else
  (bd (f_X6_finds (-1000000001 : Int32) u2) fun r19 u20 =>
  some (r19, u20))
set_option maxHeartbeats 4000000 in
set_option maxRecDepth 100000 in
theorem gl_X6_power_34 (X : Cx) (ad : Nat → Nat) : ∀ (n : Nat) (s : Int32 × Int32 × Int32 × Int32 × Int32 × Uw), Go X ad mi_X6_power ivI 34 [(0, .ref (ad 86)), (1, .int s.1), (2, .int s.2.1), (3, .int s.2.2.1), (4, .int s.2.2.2.1), (5, .int s.2.2.2.2.1)] [] s.2.2.2.2.2 (lp b_X6_power_34 n s) := by
  refine go_lp (G := fun (s : Int32 × Int32 × Int32 × Int32 × Int32 × Uw) o => Go X ad mi_X6_power ivI 34 [(0, .ref (ad 86)), (1, .int s.1), (2, .int s.2.1), (3, .int s.2.2.1), (4, .int s.2.2.2.1), (5, .int s.2.2.2.2.1)] [] s.2.2.2.2.2 o) (fun _ => go_none) (fun ih34 hih34 s => ?_)
  show Go X ad mi_X6_power ivI 34 [(0, .ref (ad 86)), (1, .int s.1), (2, .int s.2.1), (3, .int s.2.2.1), (4, .int s.2.2.2.1), (5, .int s.2.2.2.2.1)] [] s.2.2.2.2.2 (b_X6_power_34 ih34 s)
  unfold b_X6_power_34
  refine go_iload 5 rfl dX6_power_34 ?_
  refine go_bipush (v := (50 : Int32)) dX6_power_36 (by decide) ?_
  refine go_icmp_gt (tgt := 107) dX6_power_38 (by decide) ?_ ?_
  · refine go_aload_n 0 rfl dX6_power_107 rfl ?_
    refine go_getR clX6 kt_86 0 (Nat.le_of_ble_eq_true rfl) (f := 87) (fun _ => rfl) gw207 dX6_power_108 ?_
    refine go_iconst (v := (3 : Int32)) dX6_power_111 (by decide) ?_
    refine go_iload_n 2 rfl dX6_power_112 rfl ?_
    refine go_iastL kt_87 kr_87 kl_87 rfl dX6_power_113 ?_
    refine go_nmU (fun u4 => ?_)
    refine go_iload_n 3 rfl dX6_power_114 rfl ?_
    exact go_iret rfl dX6_power_115
  · refine go_aload_n 0 rfl dX6_power_41 rfl ?_
    refine go_getR clX6 kt_86 0 (Nat.le_of_ble_eq_true rfl) (f := 87) (fun _ => rfl) gw207 dX6_power_42 ?_
    refine go_iconst (v := (3 : Int32)) dX6_power_45 (by decide) ?_
    refine go_iload 5 rfl dX6_power_46 ?_
    refine go_iastL kt_87 kr_87 kl_87 rfl dX6_power_48 ?_
    refine go_nmU (fun u5 => ?_)
    refine go_aload_n 0 rfl dX6_power_49 rfl ?_
    refine go_callVV (As := fun ad => []) (g_X6_laysAside  u5) mv_X6_laysAside clX6 kt_86 gw254 rfl ⟨Nat.le_of_ble_eq_true rfl, Nat.le_of_ble_eq_true rfl⟩ rfl (Nat.le_of_ble_eq_true rfl) dX6_power_50 (fun r6 u7 => ?_)
    refine go_aload_n 0 rfl dX6_power_53 rfl ?_
    refine go_iload_n 1 rfl dX6_power_54 rfl ?_
    refine go_callVV (As := fun ad => [.int s.1]) (g_X6_goesOn s.1 u7) mv_X6_goesOn clX6 kt_86 gw249 rfl ⟨Nat.le_of_ble_eq_true rfl, Nat.le_of_ble_eq_true rfl⟩ rfl (Nat.le_of_ble_eq_true rfl) dX6_power_55 (fun r8 u9 => ?_)
    refine go_aload_n 0 rfl dX6_power_58 rfl ?_
    refine go_aload_n 0 rfl dX6_power_59 rfl ?_
    refine go_callVI (As := fun ad => []) (g_X6_wellOnes  u9) mv_X6_wellOnes clX6 kt_86 gw250 rfl ⟨Nat.le_of_ble_eq_true rfl, Nat.le_of_ble_eq_true rfl⟩ rfl (Nat.le_of_ble_eq_true rfl) dX6_power_60 (fun r10 u11 => ?_)
    refine go_callSI (As := fun ad => [.int r10]) (g_X6_ones r10 u11) mo_X6_ones gw251 gw252 rfl ⟨Nat.le_of_ble_eq_true rfl, Nat.le_of_ble_eq_true rfl⟩ rfl (Nat.le_of_ble_eq_true rfl) dX6_power_63 (fun r12 u13 => ?_)
    refine go_callVI (As := fun ad => [.int r12]) (g_X6_takesBack r12 u13) mv_X6_takesBack clX6 kt_86 gw255 rfl ⟨Nat.le_of_ble_eq_true rfl, Nat.le_of_ble_eq_true rfl⟩ rfl (Nat.le_of_ble_eq_true rfl) dX6_power_66 (fun r14 u15 => ?_)
    refine go_istore (lv' := [(6, .int r14), (0, .ref (ad 86)), (1, .int s.1), (2, .int s.2.1), (3, .int s.2.2.1), (4, .int s.2.2.2.1), (5, .int s.2.2.2.2.1)]) dX6_power_69 (Nat.le_of_ble_eq_true rfl) rfl ?_
    refine go_iload 0 rfl dX6_power_71 ?_
    refine go_iload 5 rfl dX6_power_73 ?_
    refine go_icmp_le (tgt := 83) dX6_power_75 (by decide) ?_ ?_
    · refine go_iload_n 4 rfl dX6_power_83 rfl ?_
      refine go_istore_n (lv' := [(3, .int s.2.2.1), (6, .int r14), (0, .ref (ad 86)), (1, .int s.1), (2, .int s.2.1), (4, .int s.2.2.2.1), (5, .int s.2.2.2.2.1)]) dX6_power_84 rfl (Nat.le_of_ble_eq_true rfl) rfl ?_
      refine go_iload 1 rfl dX6_power_85 ?_
      refine go_iload 5 rfl dX6_power_87 ?_
      refine go_icmp_le (tgt := 97) dX6_power_89 (by decide) ?_ ?_
      · refine go_iload 5 rfl dX6_power_97 ?_
        refine go_nm (fun x16 => ?_)
        refine go_istore (lv' := [(4, .int x16), (3, .int s.2.2.1), (6, .int r14), (0, .ref (ad 86)), (1, .int s.1), (2, .int s.2.1), (5, .int s.2.2.2.2.1)]) dX6_power_99 (Nat.le_of_ble_eq_true rfl) rfl ?_
        refine go_iinc (v := (s.2.2.2.2.1 + (1 : Int32))) (lv' := [(5, .int (s.2.2.2.2.1 + (1 : Int32))), (4, .int x16), (3, .int s.2.2.1), (6, .int r14), (0, .ref (ad 86)), (1, .int s.1), (2, .int s.2.1)]) 6 rfl dX6_power_101 rfl (Nat.le_of_ble_eq_true rfl) rfl ?_
        refine go_goto (tgt := 34) dX6_power_104 (by decide) ?_
        exact go_sub [4, 5, 6, 2, 1, 0] rfl (hih34 (s.1, s.2.1, s.2.2.1, x16, (s.2.2.2.2.1 + (1 : Int32)), u15))
      · refine go_iload 1 rfl dX6_power_92 ?_
        refine go_goto (tgt := 99) dX6_power_94 (by decide) ?_
        refine go_istore (lv' := [(4, .int r14), (3, .int s.2.2.1), (6, .int r14), (0, .ref (ad 86)), (1, .int s.1), (2, .int s.2.1), (5, .int s.2.2.2.2.1)]) dX6_power_99 (Nat.le_of_ble_eq_true rfl) rfl ?_
        refine go_iinc (v := (s.2.2.2.2.1 + (1 : Int32))) (lv' := [(5, .int (s.2.2.2.2.1 + (1 : Int32))), (4, .int r14), (3, .int s.2.2.1), (6, .int r14), (0, .ref (ad 86)), (1, .int s.1), (2, .int s.2.1)]) 6 rfl dX6_power_101 rfl (Nat.le_of_ble_eq_true rfl) rfl ?_
        refine go_goto (tgt := 34) dX6_power_104 (by decide) ?_
        exact go_sub [4, 5, 6, 2, 1, 0] rfl (hih34 (s.1, s.2.1, s.2.2.1, r14, (s.2.2.2.2.1 + (1 : Int32)), u15))
    · refine go_iload 6 rfl dX6_power_78 ?_
      refine go_goto (tgt := 84) dX6_power_80 (by decide) ?_
      refine go_nm (fun x17 => ?_)
      refine go_istore_n (lv' := [(3, .int x17), (6, .int r14), (0, .ref (ad 86)), (1, .int s.1), (2, .int s.2.1), (4, .int s.2.2.2.1), (5, .int s.2.2.2.2.1)]) dX6_power_84 rfl (Nat.le_of_ble_eq_true rfl) rfl ?_
      refine go_iload 1 rfl dX6_power_85 ?_
      refine go_iload 5 rfl dX6_power_87 ?_
      refine go_icmp_le (tgt := 97) dX6_power_89 (by decide) ?_ ?_
      · refine go_iload 5 rfl dX6_power_97 ?_
        refine go_nm (fun x18 => ?_)
        refine go_istore (lv' := [(4, .int x18), (3, .int x17), (6, .int r14), (0, .ref (ad 86)), (1, .int s.1), (2, .int s.2.1), (5, .int s.2.2.2.2.1)]) dX6_power_99 (Nat.le_of_ble_eq_true rfl) rfl ?_
        refine go_iinc (v := (s.2.2.2.2.1 + (1 : Int32))) (lv' := [(5, .int (s.2.2.2.2.1 + (1 : Int32))), (4, .int x18), (3, .int x17), (6, .int r14), (0, .ref (ad 86)), (1, .int s.1), (2, .int s.2.1)]) 6 rfl dX6_power_101 rfl (Nat.le_of_ble_eq_true rfl) rfl ?_
        refine go_goto (tgt := 34) dX6_power_104 (by decide) ?_
        exact go_sub [4, 5, 6, 2, 1, 0] rfl (hih34 (s.1, s.2.1, x17, x18, (s.2.2.2.2.1 + (1 : Int32)), u15))
      · refine go_iload 1 rfl dX6_power_92 ?_
        refine go_goto (tgt := 99) dX6_power_94 (by decide) ?_
        refine go_istore (lv' := [(4, .int r14), (3, .int x17), (6, .int r14), (0, .ref (ad 86)), (1, .int s.1), (2, .int s.2.1), (5, .int s.2.2.2.2.1)]) dX6_power_99 (Nat.le_of_ble_eq_true rfl) rfl ?_
        refine go_iinc (v := (s.2.2.2.2.1 + (1 : Int32))) (lv' := [(5, .int (s.2.2.2.2.1 + (1 : Int32))), (4, .int r14), (3, .int x17), (6, .int r14), (0, .ref (ad 86)), (1, .int s.1), (2, .int s.2.1)]) 6 rfl dX6_power_101 rfl (Nat.le_of_ble_eq_true rfl) rfl ?_
        refine go_goto (tgt := 34) dX6_power_104 (by decide) ?_
        exact go_sub [4, 5, 6, 2, 1, 0] rfl (hih34 (s.1, s.2.1, x17, r14, (s.2.2.2.2.1 + (1 : Int32)), u15))
set_option maxHeartbeats 4000000 in
set_option maxRecDepth 100000 in
theorem g_X6_power (a1 : Int32) (u : Uw) : ∀ l, Con l yX6_power mi_X6_power ivI (fun ad => [.ref (ad 86), .int a1]) u (f_X6_power a1 u) := by
  refine con_of (by decide) rfl (fun _ => Nat.le_of_ble_eq_true rfl) (fun X ad => ?_)
  show Go X ad mi_X6_power ivI 0 [(0, .ref (ad 86)), (1, .int a1)] [] u (f_X6_power a1 u)
  unfold f_X6_power
  refine go_iload_n 1 rfl dX6_power_0 rfl ?_
  refine go_i2l dX6_power_1 ?_
  refine go_lconst (v := (1 : Int64)) dX6_power_2 (by decide) ?_
  refine go_ldc2 (v := (100 : Int64)) gw264 dX6_power_3 ?_
  refine go_callSZ (As := fun ad => [.long (a1.toInt64), .long (1 : Int64), .long (100 : Int64)]) (g_X6_in (a1.toInt64) (1 : Int64) (100 : Int64) u) mo_X6_in gw209 gw210 rfl ⟨Nat.le_of_ble_eq_true rfl, Nat.le_of_ble_eq_true rfl⟩ rfl (Nat.le_of_ble_eq_true rfl) dX6_power_6 (fun r1 u2 => ?_)
  refine go_ifz_ne (tgt := 19) dX6_power_9 (by decide) ?_ ?_
  · refine go_aload_n 0 rfl dX6_power_19 rfl ?_
    refine go_getR clX6 kt_86 0 (Nat.le_of_ble_eq_true rfl) (f := 87) (fun _ => rfl) gw207 dX6_power_20 ?_
    refine go_iconst (v := (3 : Int32)) dX6_power_23 (by decide) ?_
    refine go_ialdL kt_87 kr_87 kl_87 rfl dX6_power_24 ?_
    refine go_nm (fun x3 => ?_)
    refine go_istore_n (lv' := [(2, .int x3), (0, .ref (ad 86)), (1, .int a1)]) dX6_power_25 rfl (Nat.le_of_ble_eq_true rfl) rfl ?_
    refine go_iconst (v := (0 : Int32)) dX6_power_26 (by decide) ?_
    refine go_istore_n (lv' := [(3, .int (0 : Int32)), (2, .int x3), (0, .ref (ad 86)), (1, .int a1)]) dX6_power_27 rfl (Nat.le_of_ble_eq_true rfl) rfl ?_
    refine go_iconst (v := (-1 : Int32)) dX6_power_28 (by decide) ?_
    refine go_istore (lv' := [(4, .int (-1 : Int32)), (3, .int (0 : Int32)), (2, .int x3), (0, .ref (ad 86)), (1, .int a1)]) dX6_power_29 (Nat.le_of_ble_eq_true rfl) rfl ?_
    refine go_iconst (v := (1 : Int32)) dX6_power_31 (by decide) ?_
    refine go_istore (lv' := [(5, .int (1 : Int32)), (4, .int (-1 : Int32)), (3, .int (0 : Int32)), (2, .int x3), (0, .ref (ad 86)), (1, .int a1)]) dX6_power_32 (Nat.le_of_ble_eq_true rfl) rfl ?_
    exact go_sub [4, 5, 3, 2, 1, 0] rfl (gl_X6_power_34 X ad  2100 (a1, x3, (0 : Int32), (-1 : Int32), (1 : Int32), u2))
  · refine go_aload_n 0 rfl dX6_power_12 rfl ?_
    refine go_ldc (v := (-1000000001 : Int32)) gw205 dX6_power_13 ?_
    refine go_callVI (As := fun ad => [.int (-1000000001 : Int32)]) (g_X6_finds (-1000000001 : Int32) u2) mv_X6_finds clX6 kt_86 gw219 rfl ⟨Nat.le_of_ble_eq_true rfl, Nat.le_of_ble_eq_true rfl⟩ rfl (Nat.le_of_ble_eq_true rfl) dX6_power_15 (fun r19 u20 => ?_)
    exact go_iret rfl dX6_power_18
def b_X6_feed_41 (ih41 : Int32 × Int32 × Uw → Option (Int32 × Uw)) (s : Int32 × Int32 × Uw) : Option (Int32 × Uw) :=
  if s.2.1 < 0 then
  (some ((s.2.2.1 25 1), s.2.2))
  else
  (ck (inb (s.2.2.1 25 1) 120) <|
  nm (w1 s.2.2 26 (s.2.2.1 25 1).toNatClampNeg ((s.1 >>> (((8 : Int32) * s.2.1) &&& 31)) &&& (255 : Int32))) fun u5 =>
  nm (w1 u5 25 1 ((u5.1 25 1) + (1 : Int32))) fun u6 =>
  ih41 (s.1, (s.2.1 + (-1 : Int32)), u6))
def f_X6_feed (a1 : Int32) (a2 : Int32) (u : Uw) : Option (Int32 × Uw) :=
  bd (f_X6_in (a2.toInt64) (1 : Int64) (4 : Int64) u) fun r1 u2 =>
  if r1 = true then
  (if ((u2.1 25 1) + a2) ≤ (120 : Int32) then
  (nm (a2 - (1 : Int32)) fun x3 =>
  lp b_X6_feed_41 2100 (a1, x3, u2))
  else
  (bd (f_X6_finds (-1000000002 : Int32) u2) fun r7 u8 =>
  some (r7, u8)))
  else
  (bd (f_X6_finds (-1000000001 : Int32) u2) fun r9 u10 =>
  some (r9, u10))
set_option maxHeartbeats 4000000 in
set_option maxRecDepth 100000 in
theorem gl_X6_feed_41 (X : Cx) (ad : Nat → Nat) : ∀ (n : Nat) (s : Int32 × Int32 × Uw), Go X ad mi_X6_feed ivI 41 [(0, .ref (ad 86)), (1, .int s.1), (3, .int s.2.1)] [] s.2.2 (lp b_X6_feed_41 n s) := by
  refine go_lp (G := fun (s : Int32 × Int32 × Uw) o => Go X ad mi_X6_feed ivI 41 [(0, .ref (ad 86)), (1, .int s.1), (3, .int s.2.1)] [] s.2.2 o) (fun _ => go_none) (fun ih41 hih41 s => ?_)
  show Go X ad mi_X6_feed ivI 41 [(0, .ref (ad 86)), (1, .int s.1), (3, .int s.2.1)] [] s.2.2 (b_X6_feed_41 ih41 s)
  unfold b_X6_feed_41
  refine go_iload_n 2 rfl dX6_feed_41 rfl ?_
  refine go_if_lt (tgt := 80) dX6_feed_42 (by decide) ?_ ?_
  · refine go_aload_n 0 rfl dX6_feed_80 rfl ?_
    refine go_getIL clX6 kt_86 7 (Nat.le_of_ble_eq_true rfl) (c := 1) (fun _ => rfl) kr_86 gw266 dX6_feed_81 ?_
    exact go_iret rfl dX6_feed_84
  · refine go_aload_n 0 rfl dX6_feed_45 rfl ?_
    refine go_getR clX6 kt_86 6 (Nat.le_of_ble_eq_true rfl) (f := 92) (fun _ => rfl) gw267 dX6_feed_46 ?_
    refine go_aload_n 0 rfl dX6_feed_49 rfl ?_
    refine go_getIL clX6 kt_86 7 (Nat.le_of_ble_eq_true rfl) (c := 1) (fun _ => rfl) kr_86 gw266 dX6_feed_50 ?_
    refine go_iload_n 1 rfl dX6_feed_53 rfl ?_
    refine go_bipush (v := (8 : Int32)) dX6_feed_54 (by decide) ?_
    refine go_iload_n 2 rfl dX6_feed_56 rfl ?_
    refine go_imul dX6_feed_57 ?_
    refine go_ishr dX6_feed_58 ?_
    refine go_sipush (v := (255 : Int32)) dX6_feed_59 (by decide) ?_
    refine go_iand dX6_feed_62 ?_
    refine go_ck (fun h4 => ?_)
    refine go_iastL kt_92 kr_92 kl_92 h4 dX6_feed_63 ?_
    refine go_nmU (fun u5 => ?_)
    refine go_aload_n 0 rfl dX6_feed_64 rfl ?_
    refine go_dup dX6_feed_65 rfl ?_
    refine go_getIL clX6 kt_86 7 (Nat.le_of_ble_eq_true rfl) (c := 1) (fun _ => rfl) kr_86 gw266 dX6_feed_66 ?_
    refine go_iconst (v := (1 : Int32)) dX6_feed_69 (by decide) ?_
    refine go_iadd dX6_feed_70 ?_
    refine go_putIL clX6 kt_86 7 (Nat.le_of_ble_eq_true rfl) (c := 1) (fun _ => rfl) (by decide) kr_86 (fty := .int) (tyX6_ok 7 (Nat.le_of_ble_eq_true rfl)) rfl rfl rfl (fun _ => Nat.le_of_ble_eq_true rfl) gw266 dX6_feed_71 ?_
    refine go_nmU (fun u6 => ?_)
    refine go_iinc (v := (s.2.1 + (-1 : Int32))) (lv' := [(3, .int (s.2.1 + (-1 : Int32))), (0, .ref (ad 86)), (1, .int s.1)]) 2 rfl dX6_feed_74 rfl (Nat.le_of_ble_eq_true rfl) rfl ?_
    refine go_goto (tgt := 41) dX6_feed_77 (by decide) ?_
    exact go_sub [1, 2, 0] rfl (hih41 (s.1, (s.2.1 + (-1 : Int32)), u6))
set_option maxHeartbeats 4000000 in
set_option maxRecDepth 100000 in
theorem g_X6_feed (a1 : Int32) (a2 : Int32) (u : Uw) : ∀ l, Con l yX6_feed mi_X6_feed ivI (fun ad => [.ref (ad 86), .int a1, .int a2]) u (f_X6_feed a1 a2 u) := by
  refine con_of (by decide) rfl (fun _ => Nat.le_of_ble_eq_true rfl) (fun X ad => ?_)
  show Go X ad mi_X6_feed ivI 0 [(0, .ref (ad 86)), (1, .int a1), (2, .int a2)] [] u (f_X6_feed a1 a2 u)
  unfold f_X6_feed
  refine go_iload_n 2 rfl dX6_feed_0 rfl ?_
  refine go_i2l dX6_feed_1 ?_
  refine go_lconst (v := (1 : Int64)) dX6_feed_2 (by decide) ?_
  refine go_ldc2 (v := (4 : Int64)) gw220 dX6_feed_3 ?_
  refine go_callSZ (As := fun ad => [.long (a2.toInt64), .long (1 : Int64), .long (4 : Int64)]) (g_X6_in (a2.toInt64) (1 : Int64) (4 : Int64) u) mo_X6_in gw209 gw210 rfl ⟨Nat.le_of_ble_eq_true rfl, Nat.le_of_ble_eq_true rfl⟩ rfl (Nat.le_of_ble_eq_true rfl) dX6_feed_6 (fun r1 u2 => ?_)
  refine go_ifz_ne (tgt := 19) dX6_feed_9 (by decide) ?_ ?_
  · refine go_aload_n 0 rfl dX6_feed_19 rfl ?_
    refine go_getIL clX6 kt_86 7 (Nat.le_of_ble_eq_true rfl) (c := 1) (fun _ => rfl) kr_86 gw266 dX6_feed_20 ?_
    refine go_iload_n 2 rfl dX6_feed_23 rfl ?_
    refine go_iadd dX6_feed_24 ?_
    refine go_bipush (v := (120 : Int32)) dX6_feed_25 (by decide) ?_
    refine go_icmp_le (tgt := 37) dX6_feed_27 (by decide) ?_ ?_
    · refine go_iload_n 2 rfl dX6_feed_37 rfl ?_
      refine go_iconst (v := (1 : Int32)) dX6_feed_38 (by decide) ?_
      refine go_isub dX6_feed_39 ?_
      refine go_nm (fun x3 => ?_)
      refine go_istore_n (lv' := [(3, .int x3), (0, .ref (ad 86)), (1, .int a1), (2, .int a2)]) dX6_feed_40 rfl (Nat.le_of_ble_eq_true rfl) rfl ?_
      exact go_sub [1, 2, 0] rfl (gl_X6_feed_41 X ad  2100 (a1, x3, u2))
    · refine go_aload_n 0 rfl dX6_feed_30 rfl ?_
      refine go_ldc (v := (-1000000002 : Int32)) gw218 dX6_feed_31 ?_
      refine go_callVI (As := fun ad => [.int (-1000000002 : Int32)]) (g_X6_finds (-1000000002 : Int32) u2) mv_X6_finds clX6 kt_86 gw219 rfl ⟨Nat.le_of_ble_eq_true rfl, Nat.le_of_ble_eq_true rfl⟩ rfl (Nat.le_of_ble_eq_true rfl) dX6_feed_33 (fun r7 u8 => ?_)
      exact go_iret rfl dX6_feed_36
  · refine go_aload_n 0 rfl dX6_feed_12 rfl ?_
    refine go_ldc (v := (-1000000001 : Int32)) gw205 dX6_feed_13 ?_
    refine go_callVI (As := fun ad => [.int (-1000000001 : Int32)]) (g_X6_finds (-1000000001 : Int32) u2) mv_X6_finds clX6 kt_86 gw219 rfl ⟨Nat.le_of_ble_eq_true rfl, Nat.le_of_ble_eq_true rfl⟩ rfl (Nat.le_of_ble_eq_true rfl) dX6_feed_15 (fun r9 u10 => ?_)
    exact go_iret rfl dX6_feed_18
def f_X6_wipe (u : Uw) : Option (Int32 × Uw) :=
  nm (u.1 25 1) fun x1 =>
  nm (w1 u 25 1 (0 : Int32)) fun u2 =>
  some (x1, u2)
set_option maxHeartbeats 4000000 in
set_option maxRecDepth 100000 in
theorem g_X6_wipe (u : Uw) : ∀ l, Con l yX6_wipe mi_X6_wipe ivI (fun ad => [.ref (ad 86)]) u (f_X6_wipe u) := by
  refine con_of (by decide) rfl (fun _ => Nat.le_of_ble_eq_true rfl) (fun X ad => ?_)
  show Go X ad mi_X6_wipe ivI 0 [(0, .ref (ad 86))] [] u (f_X6_wipe u)
  unfold f_X6_wipe
  refine go_aload_n 0 rfl dX6_wipe_0 rfl ?_
  refine go_getIL clX6 kt_86 7 (Nat.le_of_ble_eq_true rfl) (c := 1) (fun _ => rfl) kr_86 gw266 dX6_wipe_1 ?_
  refine go_nm (fun x1 => ?_)
  refine go_istore_n (lv' := [(1, .int x1), (0, .ref (ad 86))]) dX6_wipe_4 rfl (Nat.le_of_ble_eq_true rfl) rfl ?_
  refine go_aload_n 1 rfl dX6_wipe_5 rfl ?_
  refine go_iconst (v := (0 : Int32)) dX6_wipe_6 (by decide) ?_
  refine go_putIL clX6 kt_86 7 (Nat.le_of_ble_eq_true rfl) (c := 1) (fun _ => rfl) (by decide) kr_86 (fty := .int) (tyX6_ok 7 (Nat.le_of_ble_eq_true rfl)) rfl rfl rfl (fun _ => Nat.le_of_ble_eq_true rfl) gw266 dX6_wipe_7 ?_
  refine go_nmU (fun u2 => ?_)
  refine go_iload_n 0 rfl dX6_wipe_10 rfl ?_
  exact go_iret rfl dX6_wipe_11
def f_X6_byteAt (a1 : Int32) (u : Uw) : Option (Int32 × Uw) :=
  if (u.1 25 1) ≤ a1 then
  (some ((-1 : Int32), u))
  else
  (ck (inb a1 120) <|
  nm (u.1 26 a1.toNatClampNeg) fun x2 =>
  some (x2, u))
set_option maxHeartbeats 4000000 in
set_option maxRecDepth 100000 in
theorem g_X6_byteAt (a1 : Int32) (u : Uw) : ∀ l, Con l yX6_byteAt mi_X6_byteAt ivI (fun ad => [.ref (ad 86), .int a1]) u (f_X6_byteAt a1 u) := by
  refine con_of (by decide) rfl (fun _ => Nat.le_of_ble_eq_true rfl) (fun X ad => ?_)
  show Go X ad mi_X6_byteAt ivI 0 [(0, .ref (ad 86)), (1, .int a1)] [] u (f_X6_byteAt a1 u)
  unfold f_X6_byteAt
  refine go_iload_n 1 rfl dX6_byteAt_0 rfl ?_
  refine go_aload_n 0 rfl dX6_byteAt_1 rfl ?_
  refine go_getIL clX6 kt_86 7 (Nat.le_of_ble_eq_true rfl) (c := 1) (fun _ => rfl) kr_86 gw266 dX6_byteAt_2 ?_
  refine go_icmp_ge (tgt := 17) dX6_byteAt_5 (by decide) ?_ ?_
  · refine go_iconst (v := (-1 : Int32)) dX6_byteAt_17 (by decide) ?_
    exact go_iret rfl dX6_byteAt_18
  · refine go_aload_n 0 rfl dX6_byteAt_8 rfl ?_
    refine go_getR clX6 kt_86 6 (Nat.le_of_ble_eq_true rfl) (f := 92) (fun _ => rfl) gw267 dX6_byteAt_9 ?_
    refine go_iload_n 1 rfl dX6_byteAt_12 rfl ?_
    refine go_ck (fun h1 => ?_)
    refine go_ialdL kt_92 kr_92 kl_92 h1 dX6_byteAt_13 ?_
    refine go_nm (fun x2 => ?_)
    refine go_goto (tgt := 18) dX6_byteAt_14 (by decide) ?_
    exact go_iret rfl dX6_byteAt_18
def f_X6_isLetter (a0 : Int32) (u : Uw) : Option (Bool × Uw) :=
  bd (f_X6_in (a0.toInt64) (97 : Int64) (122 : Int64) u) fun r1 u2 =>
  some (r1, u2)
set_option maxHeartbeats 4000000 in
set_option maxRecDepth 100000 in
theorem g_X6_isLetter (a0 : Int32) (u : Uw) : ∀ l, Con l yX6_isLetter mi_X6_isLetter ivZ (fun ad => [.int a0]) u (f_X6_isLetter a0 u) := by
  refine con_of (by decide) rfl (fun _ => Nat.le_of_ble_eq_true rfl) (fun X ad => ?_)
  show Go X ad mi_X6_isLetter ivZ 0 [(0, .int a0)] [] u (f_X6_isLetter a0 u)
  unfold f_X6_isLetter
  refine go_iload_n 0 rfl dX6_isLetter_0 rfl ?_
  refine go_i2l dX6_isLetter_1 ?_
  refine go_ldc2 (v := (97 : Int64)) gw268 dX6_isLetter_2 ?_
  refine go_ldc2 (v := (122 : Int64)) gw269 dX6_isLetter_5 ?_
  refine go_callSZ (As := fun ad => [.long (a0.toInt64), .long (97 : Int64), .long (122 : Int64)]) (g_X6_in (a0.toInt64) (97 : Int64) (122 : Int64) u) mo_X6_in gw209 gw210 rfl ⟨Nat.le_of_ble_eq_true rfl, Nat.le_of_ble_eq_true rfl⟩ rfl (Nat.le_of_ble_eq_true rfl) dX6_isLetter_8 (fun r1 u2 => ?_)
  exact go_zret rfl dX6_isLetter_11
def f_X6_isDigit (a0 : Int32) (u : Uw) : Option (Bool × Uw) :=
  bd (f_X6_in (a0.toInt64) (48 : Int64) (57 : Int64) u) fun r1 u2 =>
  some (r1, u2)
set_option maxHeartbeats 4000000 in
set_option maxRecDepth 100000 in
theorem g_X6_isDigit (a0 : Int32) (u : Uw) : ∀ l, Con l yX6_isDigit mi_X6_isDigit ivZ (fun ad => [.int a0]) u (f_X6_isDigit a0 u) := by
  refine con_of (by decide) rfl (fun _ => Nat.le_of_ble_eq_true rfl) (fun X ad => ?_)
  show Go X ad mi_X6_isDigit ivZ 0 [(0, .int a0)] [] u (f_X6_isDigit a0 u)
  unfold f_X6_isDigit
  refine go_iload_n 0 rfl dX6_isDigit_0 rfl ?_
  refine go_i2l dX6_isDigit_1 ?_
  refine go_ldc2 (v := (48 : Int64)) gw270 dX6_isDigit_2 ?_
  refine go_ldc2 (v := (57 : Int64)) gw271 dX6_isDigit_5 ?_
  refine go_callSZ (As := fun ad => [.long (a0.toInt64), .long (48 : Int64), .long (57 : Int64)]) (g_X6_in (a0.toInt64) (48 : Int64) (57 : Int64) u) mo_X6_in gw209 gw210 rfl ⟨Nat.le_of_ble_eq_true rfl, Nat.le_of_ble_eq_true rfl⟩ rfl (Nat.le_of_ble_eq_true rfl) dX6_isDigit_8 (fun r1 u2 => ?_)
  exact go_zret rfl dX6_isDigit_11
