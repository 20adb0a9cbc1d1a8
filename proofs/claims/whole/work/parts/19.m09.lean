/-! methods: what each does to the world, and that its bytecode does so (laid by wip/whole/gen) -/
def b_X6_token_86 (ih86 : Int32 × Int32 × Uw → Option (Unit × Uw)) (s : Int32 × Int32 × Uw) : Option (Unit × Uw) :=
  if s.1 = 0 then
  (if s.2.1 = 0 then
  (some ((), s.2.2))
  else
  (bd (f_X6_byteAt (s.2.2.1 25 3) s.2.2) fun r13 u14 =>
  bd (f_X6_isDigit r13 u14) fun r15 u16 =>
  if r15 = true then
  (nm (w1 u16 25 3 ((u16.1 25 3) + (1 : Int32))) fun u17 =>
  ih86 (s.1, s.2.1, u17))
  else
  (some ((), u16))))
  else
  (bd (f_X6_byteAt (s.2.2.1 25 3) s.2.2) fun r18 u19 =>
  bd (f_X6_isLetter r18 u19) fun r20 u21 =>
  if r20 = true then
  (nm (w1 u21 25 3 ((u21.1 25 3) + (1 : Int32))) fun u22 =>
  ih86 (s.1, s.2.1, u22))
  else
  (if s.2.1 = 0 then
  (some ((), u21))
  else
  (bd (f_X6_byteAt (u21.1 25 3) u21) fun r23 u24 =>
  bd (f_X6_isDigit r23 u24) fun r25 u26 =>
  if r25 = true then
  (nm (w1 u26 25 3 ((u26.1 25 3) + (1 : Int32))) fun u27 =>
  ih86 (s.1, s.2.1, u27))
  else
  (some ((), u26)))))
def b_X6_token_8 (ih8 : Uw → Option (Unit × Uw)) (s : Uw) : Option (Unit × Uw) :=
  bd (f_X6_byteAt (s.1 25 2) s) fun r2 u3 =>
  if r2 = (32 : Int32) then
  (nm (w1 u3 25 2 ((u3.1 25 2) + (1 : Int32))) fun u29 =>
  ih8 u29)
  else
  (bd (f_X6_byteAt (u3.1 25 2) u3) fun r4 u5 =>
  bd (f_X6_isLetter r4 u5) fun r6 u7 =>
  bd (f_X6_byteAt (u7.1 25 2) u7) fun r8 u9 =>
  bd (f_X6_isDigit r8 u9) fun r10 u11 =>
  if (u11.1 25 1) ≤ (u11.1 25 2) then
  (nm (w1 u11 25 3 (u11.1 25 2)) fun u12 =>
  lp b_X6_token_86 2100 ((bI r6), (bI r10), u12))
  else
  (nm (w1 u11 25 3 ((u11.1 25 2) + (1 : Int32))) fun u28 =>
  lp b_X6_token_86 2100 ((bI r6), (bI r10), u28)))
def f_X6_token (u : Uw) : Option (Unit × Uw) :=
  nm (w1 u 25 2 (u.1 25 3)) fun u1 =>
  lp b_X6_token_8 2100 u1
set_option maxHeartbeats 4000000 in
set_option maxRecDepth 100000 in
theorem gl_X6_token_86 (X : Cx) (ad : Nat → Nat) : ∀ (n : Nat) (s : Int32 × Int32 × Uw), Go X ad mi_X6_token ivV 86 [(0, .ref (ad 86)), (1, .int s.1), (2, .int s.2.1)] [] s.2.2 (lp b_X6_token_86 n s) := by
  refine go_lp (G := fun (s : Int32 × Int32 × Uw) o => Go X ad mi_X6_token ivV 86 [(0, .ref (ad 86)), (1, .int s.1), (2, .int s.2.1)] [] s.2.2 o) (fun _ => go_none) (fun ih86 hih86 s => ?_)
  show Go X ad mi_X6_token ivV 86 [(0, .ref (ad 86)), (1, .int s.1), (2, .int s.2.1)] [] s.2.2 (b_X6_token_86 ih86 s)
  unfold b_X6_token_86
  refine go_iload_n 1 rfl dX6_token_86 rfl ?_
  refine go_if_eq (tgt := 104) dX6_token_87 (by decide) ?_ ?_
  · refine go_iload_n 2 rfl dX6_token_104 rfl ?_
    refine go_if_eq (tgt := 135) dX6_token_105 (by decide) ?_ ?_
    · exact go_vret rfl dX6_token_135
    · refine go_aload_n 0 rfl dX6_token_108 rfl ?_
      refine go_aload_n 0 rfl dX6_token_109 rfl ?_
      refine go_getIL clX6 kt_86 9 (Nat.le_of_ble_eq_true rfl) (c := 3) (fun _ => rfl) kr_86 gw272 dX6_token_110 ?_
      refine go_callVI (As := fun ad => [.int (s.2.2.1 25 3)]) (g_X6_byteAt (s.2.2.1 25 3) s.2.2) mv_X6_byteAt clX6 kt_86 gw274 rfl ⟨Nat.le_of_ble_eq_true rfl, Nat.le_of_ble_eq_true rfl⟩ rfl (Nat.le_of_ble_eq_true rfl) dX6_token_113 (fun r13 u14 => ?_)
      refine go_callSZ (As := fun ad => [.int r13]) (g_X6_isDigit r13 u14) mo_X6_isDigit gw277 gw278 rfl ⟨Nat.le_of_ble_eq_true rfl, Nat.le_of_ble_eq_true rfl⟩ rfl (Nat.le_of_ble_eq_true rfl) dX6_token_116 (fun r15 u16 => ?_)
      refine go_ifz_eq (tgt := 135) dX6_token_119 (by decide) ?_ ?_
      · exact go_vret rfl dX6_token_135
      · refine go_aload_n 0 rfl dX6_token_122 rfl ?_
        refine go_dup dX6_token_123 rfl ?_
        refine go_getIL clX6 kt_86 9 (Nat.le_of_ble_eq_true rfl) (c := 3) (fun _ => rfl) kr_86 gw272 dX6_token_124 ?_
        refine go_iconst (v := (1 : Int32)) dX6_token_127 (by decide) ?_
        refine go_iadd dX6_token_128 ?_
        refine go_putIL clX6 kt_86 9 (Nat.le_of_ble_eq_true rfl) (c := 3) (fun _ => rfl) (by decide) kr_86 (fty := .int) (tyX6_ok 9 (Nat.le_of_ble_eq_true rfl)) rfl rfl rfl (fun _ => Nat.le_of_ble_eq_true rfl) gw272 dX6_token_129 ?_
        refine go_nmU (fun u17 => ?_)
        refine go_goto (tgt := 86) dX6_token_132 (by decide) ?_
        exact go_sub [0, 1, 2] rfl (hih86 (s.1, s.2.1, u17))
  · refine go_aload_n 0 rfl dX6_token_90 rfl ?_
    refine go_aload_n 0 rfl dX6_token_91 rfl ?_
    refine go_getIL clX6 kt_86 9 (Nat.le_of_ble_eq_true rfl) (c := 3) (fun _ => rfl) kr_86 gw272 dX6_token_92 ?_
    refine go_callVI (As := fun ad => [.int (s.2.2.1 25 3)]) (g_X6_byteAt (s.2.2.1 25 3) s.2.2) mv_X6_byteAt clX6 kt_86 gw274 rfl ⟨Nat.le_of_ble_eq_true rfl, Nat.le_of_ble_eq_true rfl⟩ rfl (Nat.le_of_ble_eq_true rfl) dX6_token_95 (fun r18 u19 => ?_)
    refine go_callSZ (As := fun ad => [.int r18]) (g_X6_isLetter r18 u19) mo_X6_isLetter gw275 gw276 rfl ⟨Nat.le_of_ble_eq_true rfl, Nat.le_of_ble_eq_true rfl⟩ rfl (Nat.le_of_ble_eq_true rfl) dX6_token_98 (fun r20 u21 => ?_)
    refine go_ifz_ne (tgt := 122) dX6_token_101 (by decide) ?_ ?_
    · refine go_aload_n 0 rfl dX6_token_122 rfl ?_
      refine go_dup dX6_token_123 rfl ?_
      refine go_getIL clX6 kt_86 9 (Nat.le_of_ble_eq_true rfl) (c := 3) (fun _ => rfl) kr_86 gw272 dX6_token_124 ?_
      refine go_iconst (v := (1 : Int32)) dX6_token_127 (by decide) ?_
      refine go_iadd dX6_token_128 ?_
      refine go_putIL clX6 kt_86 9 (Nat.le_of_ble_eq_true rfl) (c := 3) (fun _ => rfl) (by decide) kr_86 (fty := .int) (tyX6_ok 9 (Nat.le_of_ble_eq_true rfl)) rfl rfl rfl (fun _ => Nat.le_of_ble_eq_true rfl) gw272 dX6_token_129 ?_
      refine go_nmU (fun u22 => ?_)
      refine go_goto (tgt := 86) dX6_token_132 (by decide) ?_
      exact go_sub [0, 1, 2] rfl (hih86 (s.1, s.2.1, u22))
    · refine go_iload_n 2 rfl dX6_token_104 rfl ?_
      refine go_if_eq (tgt := 135) dX6_token_105 (by decide) ?_ ?_
      · exact go_vret rfl dX6_token_135
      · refine go_aload_n 0 rfl dX6_token_108 rfl ?_
        refine go_aload_n 0 rfl dX6_token_109 rfl ?_
        refine go_getIL clX6 kt_86 9 (Nat.le_of_ble_eq_true rfl) (c := 3) (fun _ => rfl) kr_86 gw272 dX6_token_110 ?_
        refine go_callVI (As := fun ad => [.int (u21.1 25 3)]) (g_X6_byteAt (u21.1 25 3) u21) mv_X6_byteAt clX6 kt_86 gw274 rfl ⟨Nat.le_of_ble_eq_true rfl, Nat.le_of_ble_eq_true rfl⟩ rfl (Nat.le_of_ble_eq_true rfl) dX6_token_113 (fun r23 u24 => ?_)
        refine go_callSZ (As := fun ad => [.int r23]) (g_X6_isDigit r23 u24) mo_X6_isDigit gw277 gw278 rfl ⟨Nat.le_of_ble_eq_true rfl, Nat.le_of_ble_eq_true rfl⟩ rfl (Nat.le_of_ble_eq_true rfl) dX6_token_116 (fun r25 u26 => ?_)
        refine go_ifz_eq (tgt := 135) dX6_token_119 (by decide) ?_ ?_
        · exact go_vret rfl dX6_token_135
        · refine go_aload_n 0 rfl dX6_token_122 rfl ?_
          refine go_dup dX6_token_123 rfl ?_
          refine go_getIL clX6 kt_86 9 (Nat.le_of_ble_eq_true rfl) (c := 3) (fun _ => rfl) kr_86 gw272 dX6_token_124 ?_
          refine go_iconst (v := (1 : Int32)) dX6_token_127 (by decide) ?_
          refine go_iadd dX6_token_128 ?_
          refine go_putIL clX6 kt_86 9 (Nat.le_of_ble_eq_true rfl) (c := 3) (fun _ => rfl) (by decide) kr_86 (fty := .int) (tyX6_ok 9 (Nat.le_of_ble_eq_true rfl)) rfl rfl rfl (fun _ => Nat.le_of_ble_eq_true rfl) gw272 dX6_token_129 ?_
          refine go_nmU (fun u27 => ?_)
          refine go_goto (tgt := 86) dX6_token_132 (by decide) ?_
          exact go_sub [0, 1, 2] rfl (hih86 (s.1, s.2.1, u27))
set_option maxHeartbeats 4000000 in
set_option maxRecDepth 100000 in
theorem gl_X6_token_8 (X : Cx) (ad : Nat → Nat) : ∀ (n : Nat) (s : Uw), Go X ad mi_X6_token ivV 8 [(0, .ref (ad 86))] [] s (lp b_X6_token_8 n s) := by
  refine go_lp (G := fun (s : Uw) o => Go X ad mi_X6_token ivV 8 [(0, .ref (ad 86))] [] s o) (fun _ => go_none) (fun ih8 hih8 s => ?_)
  show Go X ad mi_X6_token ivV 8 [(0, .ref (ad 86))] [] s (b_X6_token_8 ih8 s)
  unfold b_X6_token_8
  refine go_aload_n 0 rfl dX6_token_8 rfl ?_
  refine go_aload_n 0 rfl dX6_token_9 rfl ?_
  refine go_getIL clX6 kt_86 8 (Nat.le_of_ble_eq_true rfl) (c := 2) (fun _ => rfl) kr_86 gw273 dX6_token_10 ?_
  refine go_callVI (As := fun ad => [.int (s.1 25 2)]) (g_X6_byteAt (s.1 25 2) s) mv_X6_byteAt clX6 kt_86 gw274 rfl ⟨Nat.le_of_ble_eq_true rfl, Nat.le_of_ble_eq_true rfl⟩ rfl (Nat.le_of_ble_eq_true rfl) dX6_token_13 (fun r2 u3 => ?_)
  refine go_bipush (v := (32 : Int32)) dX6_token_16 (by decide) ?_
  refine go_icmp_ne (tgt := 34) dX6_token_18 (by decide) ?_ ?_
  · refine go_aload_n 0 rfl dX6_token_34 rfl ?_
    refine go_aload_n 0 rfl dX6_token_35 rfl ?_
    refine go_getIL clX6 kt_86 8 (Nat.le_of_ble_eq_true rfl) (c := 2) (fun _ => rfl) kr_86 gw273 dX6_token_36 ?_
    refine go_callVI (As := fun ad => [.int (u3.1 25 2)]) (g_X6_byteAt (u3.1 25 2) u3) mv_X6_byteAt clX6 kt_86 gw274 rfl ⟨Nat.le_of_ble_eq_true rfl, Nat.le_of_ble_eq_true rfl⟩ rfl (Nat.le_of_ble_eq_true rfl) dX6_token_39 (fun r4 u5 => ?_)
    refine go_callSZ (As := fun ad => [.int r4]) (g_X6_isLetter r4 u5) mo_X6_isLetter gw275 gw276 rfl ⟨Nat.le_of_ble_eq_true rfl, Nat.le_of_ble_eq_true rfl⟩ rfl (Nat.le_of_ble_eq_true rfl) dX6_token_42 (fun r6 u7 => ?_)
    refine go_istore_n (lv' := [(1, .int (bI r6)), (0, .ref (ad 86))]) dX6_token_45 rfl (Nat.le_of_ble_eq_true rfl) rfl ?_
    refine go_aload_n 1 rfl dX6_token_46 rfl ?_
    refine go_aload_n 1 rfl dX6_token_47 rfl ?_
    refine go_getIL clX6 kt_86 8 (Nat.le_of_ble_eq_true rfl) (c := 2) (fun _ => rfl) kr_86 gw273 dX6_token_48 ?_
    refine go_callVI (As := fun ad => [.int (u7.1 25 2)]) (g_X6_byteAt (u7.1 25 2) u7) mv_X6_byteAt clX6 kt_86 gw274 rfl ⟨Nat.le_of_ble_eq_true rfl, Nat.le_of_ble_eq_true rfl⟩ rfl (Nat.le_of_ble_eq_true rfl) dX6_token_51 (fun r8 u9 => ?_)
    refine go_callSZ (As := fun ad => [.int r8]) (g_X6_isDigit r8 u9) mo_X6_isDigit gw277 gw278 rfl ⟨Nat.le_of_ble_eq_true rfl, Nat.le_of_ble_eq_true rfl⟩ rfl (Nat.le_of_ble_eq_true rfl) dX6_token_54 (fun r10 u11 => ?_)
    refine go_istore_n (lv' := [(2, .int (bI r10)), (1, .int (bI r6)), (0, .ref (ad 86))]) dX6_token_57 rfl (Nat.le_of_ble_eq_true rfl) rfl ?_
    refine go_aload_n 2 rfl dX6_token_58 rfl ?_
    refine go_aload_n 2 rfl dX6_token_59 rfl ?_
    refine go_getIL clX6 kt_86 8 (Nat.le_of_ble_eq_true rfl) (c := 2) (fun _ => rfl) kr_86 gw273 dX6_token_60 ?_
    refine go_aload_n 2 rfl dX6_token_63 rfl ?_
    refine go_getIL clX6 kt_86 7 (Nat.le_of_ble_eq_true rfl) (c := 1) (fun _ => rfl) kr_86 gw266 dX6_token_64 ?_
    refine go_icmp_ge (tgt := 79) dX6_token_67 (by decide) ?_ ?_
    · refine go_aload_n 2 rfl dX6_token_79 rfl ?_
      refine go_getIL clX6 kt_86 8 (Nat.le_of_ble_eq_true rfl) (c := 2) (fun _ => rfl) kr_86 gw273 dX6_token_80 ?_
      refine go_putIL clX6 kt_86 9 (Nat.le_of_ble_eq_true rfl) (c := 3) (fun _ => rfl) (by decide) kr_86 (fty := .int) (tyX6_ok 9 (Nat.le_of_ble_eq_true rfl)) rfl rfl rfl (fun _ => Nat.le_of_ble_eq_true rfl) gw272 dX6_token_83 ?_
      refine go_nmU (fun u12 => ?_)
      exact go_sub [2, 1, 0] rfl (gl_X6_token_86 X ad  2100 ((bI r6), (bI r10), u12))
    · refine go_aload_n 2 rfl dX6_token_70 rfl ?_
      refine go_getIL clX6 kt_86 8 (Nat.le_of_ble_eq_true rfl) (c := 2) (fun _ => rfl) kr_86 gw273 dX6_token_71 ?_
      refine go_iconst (v := (1 : Int32)) dX6_token_74 (by decide) ?_
      refine go_iadd dX6_token_75 ?_
      refine go_goto (tgt := 83) dX6_token_76 (by decide) ?_
      refine go_putIL clX6 kt_86 9 (Nat.le_of_ble_eq_true rfl) (c := 3) (fun _ => rfl) (by decide) kr_86 (fty := .int) (tyX6_ok 9 (Nat.le_of_ble_eq_true rfl)) rfl rfl rfl (fun _ => Nat.le_of_ble_eq_true rfl) gw272 dX6_token_83 ?_
      refine go_nmU (fun u28 => ?_)
      exact go_sub [2, 1, 0] rfl (gl_X6_token_86 X ad  2100 ((bI r6), (bI r10), u28))
  · refine go_aload_n 0 rfl dX6_token_21 rfl ?_
    refine go_dup dX6_token_22 rfl ?_
    refine go_getIL clX6 kt_86 8 (Nat.le_of_ble_eq_true rfl) (c := 2) (fun _ => rfl) kr_86 gw273 dX6_token_23 ?_
    refine go_iconst (v := (1 : Int32)) dX6_token_26 (by decide) ?_
    refine go_iadd dX6_token_27 ?_
    refine go_putIL clX6 kt_86 8 (Nat.le_of_ble_eq_true rfl) (c := 2) (fun _ => rfl) (by decide) kr_86 (fty := .int) (tyX6_ok 8 (Nat.le_of_ble_eq_true rfl)) rfl rfl rfl (fun _ => Nat.le_of_ble_eq_true rfl) gw273 dX6_token_28 ?_
    refine go_nmU (fun u29 => ?_)
    refine go_goto (tgt := 8) dX6_token_31 (by decide) ?_
    exact go_sub [0] rfl (hih8 u29)
set_option maxHeartbeats 4000000 in
set_option maxRecDepth 100000 in
theorem g_X6_token (u : Uw) : ∀ l, Con l yX6_token mi_X6_token ivV (fun ad => [.ref (ad 86)]) u (f_X6_token u) := by
  refine con_of (by decide) rfl (fun _ => Nat.le_of_ble_eq_true rfl) (fun X ad => ?_)
  show Go X ad mi_X6_token ivV 0 [(0, .ref (ad 86))] [] u (f_X6_token u)
  unfold f_X6_token
  refine go_aload_n 0 rfl dX6_token_0 rfl ?_
  refine go_aload_n 0 rfl dX6_token_1 rfl ?_
  refine go_getIL clX6 kt_86 9 (Nat.le_of_ble_eq_true rfl) (c := 3) (fun _ => rfl) kr_86 gw272 dX6_token_2 ?_
  refine go_putIL clX6 kt_86 8 (Nat.le_of_ble_eq_true rfl) (c := 2) (fun _ => rfl) (by decide) kr_86 (fty := .int) (tyX6_ok 8 (Nat.le_of_ble_eq_true rfl)) rfl rfl rfl (fun _ => Nat.le_of_ble_eq_true rfl) gw273 dX6_token_5 ?_
  refine go_nmU (fun u1 => ?_)
  exact go_sub [0] rfl (gl_X6_token_8 X ad  2100 u1)
def f_X6_must (a1 : Int32) (u : Uw) : Option (Unit × Uw) :=
  if (u.1 25 5) = 0 then
  (if a1 = 0 then
  (nm (w1 u 25 5 (1 : Int32)) fun u7 =>
  if (u7.1 25 5) = 0 then
  (bd (f_X6_token  u7) fun r8 u9 =>
  some ((), u9))
  else
  (some ((), u7)))
  else
  (nm (w1 u 25 5 (0 : Int32)) fun u4 =>
  if (u4.1 25 5) = 0 then
  (bd (f_X6_token  u4) fun r5 u6 =>
  some ((), u6))
  else
  (some ((), u4))))
  else
  (nm (w1 u 25 5 (1 : Int32)) fun u1 =>
  if (u1.1 25 5) = 0 then
  (bd (f_X6_token  u1) fun r2 u3 =>
  some ((), u3))
  else
  (some ((), u1)))
set_option maxHeartbeats 4000000 in
set_option maxRecDepth 100000 in
theorem g_X6_must (a1 : Int32) (u : Uw) : ∀ l, Con l yX6_must mi_X6_must ivV (fun ad => [.ref (ad 86), .int a1]) u (f_X6_must a1 u) := by
  refine con_of (by decide) rfl (fun _ => Nat.le_of_ble_eq_true rfl) (fun X ad => ?_)
  show Go X ad mi_X6_must ivV 0 [(0, .ref (ad 86)), (1, .int a1)] [] u (f_X6_must a1 u)
  unfold f_X6_must
  refine go_aload_n 0 rfl dX6_must_0 rfl ?_
  refine go_aload_n 0 rfl dX6_must_1 rfl ?_
  refine go_getIL clX6 kt_86 11 (Nat.le_of_ble_eq_true rfl) (c := 5) (fun _ => rfl) kr_86 gw279 dX6_must_2 ?_
  refine go_if_ne (tgt := 12) dX6_must_5 (by decide) ?_ ?_
  · refine go_iconst (v := (1 : Int32)) dX6_must_12 (by decide) ?_
    refine go_goto (tgt := 17) dX6_must_13 (by decide) ?_
    refine go_putIL clX6 kt_86 11 (Nat.le_of_ble_eq_true rfl) (c := 5) (fun _ => rfl) (by decide) kr_86 (fty := .boolean) (tyX6_ok 11 (Nat.le_of_ble_eq_true rfl)) rfl rfl rfl (fun _ => Nat.le_of_ble_eq_true rfl) gw279 dX6_must_17 ?_
    refine go_nmU (fun u1 => ?_)
    refine go_aload_n 0 rfl dX6_must_20 rfl ?_
    refine go_getIL clX6 kt_86 11 (Nat.le_of_ble_eq_true rfl) (c := 5) (fun _ => rfl) kr_86 gw279 dX6_must_21 ?_
    refine go_if_ne (tgt := 31) dX6_must_24 (by decide) ?_ ?_
    · exact go_vret rfl dX6_must_31
    · refine go_aload_n 0 rfl dX6_must_27 rfl ?_
      refine go_callVV (As := fun ad => []) (g_X6_token  u1) mv_X6_token clX6 kt_86 gw280 rfl ⟨Nat.le_of_ble_eq_true rfl, Nat.le_of_ble_eq_true rfl⟩ rfl (Nat.le_of_ble_eq_true rfl) dX6_must_28 (fun r2 u3 => ?_)
      exact go_vret rfl dX6_must_31
  · refine go_iload_n 1 rfl dX6_must_8 rfl ?_
    refine go_if_ne (tgt := 16) dX6_must_9 (by decide) ?_ ?_
    · refine go_iconst (v := (0 : Int32)) dX6_must_16 (by decide) ?_
      refine go_putIL clX6 kt_86 11 (Nat.le_of_ble_eq_true rfl) (c := 5) (fun _ => rfl) (by decide) kr_86 (fty := .boolean) (tyX6_ok 11 (Nat.le_of_ble_eq_true rfl)) rfl rfl rfl (fun _ => Nat.le_of_ble_eq_true rfl) gw279 dX6_must_17 ?_
      refine go_nmU (fun u4 => ?_)
      refine go_aload_n 0 rfl dX6_must_20 rfl ?_
      refine go_getIL clX6 kt_86 11 (Nat.le_of_ble_eq_true rfl) (c := 5) (fun _ => rfl) kr_86 gw279 dX6_must_21 ?_
      refine go_if_ne (tgt := 31) dX6_must_24 (by decide) ?_ ?_
      · exact go_vret rfl dX6_must_31
      · refine go_aload_n 0 rfl dX6_must_27 rfl ?_
        refine go_callVV (As := fun ad => []) (g_X6_token  u4) mv_X6_token clX6 kt_86 gw280 rfl ⟨Nat.le_of_ble_eq_true rfl, Nat.le_of_ble_eq_true rfl⟩ rfl (Nat.le_of_ble_eq_true rfl) dX6_must_28 (fun r5 u6 => ?_)
        exact go_vret rfl dX6_must_31
    · refine go_iconst (v := (1 : Int32)) dX6_must_12 (by decide) ?_
      refine go_goto (tgt := 17) dX6_must_13 (by decide) ?_
      refine go_putIL clX6 kt_86 11 (Nat.le_of_ble_eq_true rfl) (c := 5) (fun _ => rfl) (by decide) kr_86 (fty := .boolean) (tyX6_ok 11 (Nat.le_of_ble_eq_true rfl)) rfl rfl rfl (fun _ => Nat.le_of_ble_eq_true rfl) gw279 dX6_must_17 ?_
      refine go_nmU (fun u7 => ?_)
      refine go_aload_n 0 rfl dX6_must_20 rfl ?_
      refine go_getIL clX6 kt_86 11 (Nat.le_of_ble_eq_true rfl) (c := 5) (fun _ => rfl) kr_86 gw279 dX6_must_21 ?_
      refine go_if_ne (tgt := 31) dX6_must_24 (by decide) ?_ ?_
      · exact go_vret rfl dX6_must_31
      · refine go_aload_n 0 rfl dX6_must_27 rfl ?_
        refine go_callVV (As := fun ad => []) (g_X6_token  u7) mv_X6_token clX6 kt_86 gw280 rfl ⟨Nat.le_of_ble_eq_true rfl, Nat.le_of_ble_eq_true rfl⟩ rfl (Nat.le_of_ble_eq_true rfl) dX6_must_28 (fun r8 u9 => ?_)
        exact go_vret rfl dX6_must_31
def b_X6_word_7 (ih7 : Int64 × Int32 × Uw → Option (Int64 × Uw)) (s : Int64 × Int32 × Uw) : Option (Int64 × Uw) :=
  if (s.2.2.1 25 3) ≤ s.2.1 then
  (if (s.2.2.1 25 5) = 0 then
  (bd (f_X6_byteAt (s.2.2.1 25 2) s.2.2) fun r2 u3 =>
  bd (f_X6_isLetter r2 u3) fun r4 u5 =>
  if r4 = true then
  (some (s.1, u5))
  else
  (some ((0 : Int64), u5)))
  else
  (some ((0 : Int64), s.2.2)))
  else
  (if (lg_cmp s.1 (36028797018963967 : Int64)) ≤ 0 then
  (ck (inb s.2.1 120) <|
  nm (s.2.2.1 26 s.2.1.toNatClampNeg) fun x7 =>
  nm (((32 : Int64) * s.1) + ((x7 - (96 : Int32)).toInt64)) fun x8 =>
  ih7 (x8, (s.2.1 + (1 : Int32)), s.2.2))
  else
  (ih7 (s.1, (s.2.1 + (1 : Int32)), s.2.2)))
def f_X6_word (u : Uw) : Option (Int64 × Uw) :=
  nm (u.1 25 2) fun x1 =>
  lp b_X6_word_7 2100 ((0 : Int64), x1, u)
set_option maxHeartbeats 4000000 in
set_option maxRecDepth 100000 in
theorem gl_X6_word_7 (X : Cx) (ad : Nat → Nat) : ∀ (n : Nat) (s : Int64 × Int32 × Uw), Go X ad mi_X6_word ivL 7 [(0, .ref (ad 86)), (1, .long s.1), (3, .int s.2.1)] [] s.2.2 (lp b_X6_word_7 n s) := by
  refine go_lp (G := fun (s : Int64 × Int32 × Uw) o => Go X ad mi_X6_word ivL 7 [(0, .ref (ad 86)), (1, .long s.1), (3, .int s.2.1)] [] s.2.2 o) (fun _ => go_none) (fun ih7 hih7 s => ?_)
  show Go X ad mi_X6_word ivL 7 [(0, .ref (ad 86)), (1, .long s.1), (3, .int s.2.1)] [] s.2.2 (b_X6_word_7 ih7 s)
  unfold b_X6_word_7
  refine go_iload_n 2 rfl dX6_word_7 rfl ?_
  refine go_aload_n 0 rfl dX6_word_8 rfl ?_
  refine go_getIL clX6 kt_86 9 (Nat.le_of_ble_eq_true rfl) (c := 3) (fun _ => rfl) kr_86 gw272 dX6_word_9 ?_
  refine go_icmp_ge (tgt := 50) dX6_word_12 (by decide) ?_ ?_
  · refine go_aload_n 0 rfl dX6_word_50 rfl ?_
    refine go_getIL clX6 kt_86 11 (Nat.le_of_ble_eq_true rfl) (c := 5) (fun _ => rfl) kr_86 gw279 dX6_word_51 ?_
    refine go_if_ne (tgt := 71) dX6_word_54 (by decide) ?_ ?_
    · refine go_lconst (v := (0 : Int64)) dX6_word_71 (by decide) ?_
      refine go_goto (tgt := 76) dX6_word_72 (by decide) ?_
      exact go_lret rfl dX6_word_76
    · refine go_aload_n 0 rfl dX6_word_57 rfl ?_
      refine go_aload_n 0 rfl dX6_word_58 rfl ?_
      refine go_getIL clX6 kt_86 8 (Nat.le_of_ble_eq_true rfl) (c := 2) (fun _ => rfl) kr_86 gw273 dX6_word_59 ?_
      refine go_callVI (As := fun ad => [.int (s.2.2.1 25 2)]) (g_X6_byteAt (s.2.2.1 25 2) s.2.2) mv_X6_byteAt clX6 kt_86 gw274 rfl ⟨Nat.le_of_ble_eq_true rfl, Nat.le_of_ble_eq_true rfl⟩ rfl (Nat.le_of_ble_eq_true rfl) dX6_word_62 (fun r2 u3 => ?_)
      refine go_callSZ (As := fun ad => [.int r2]) (g_X6_isLetter r2 u3) mo_X6_isLetter gw275 gw276 rfl ⟨Nat.le_of_ble_eq_true rfl, Nat.le_of_ble_eq_true rfl⟩ rfl (Nat.le_of_ble_eq_true rfl) dX6_word_65 (fun r4 u5 => ?_)
      refine go_ifz_ne (tgt := 75) dX6_word_68 (by decide) ?_ ?_
      · refine go_lload_n 1 rfl dX6_word_75 rfl ?_
        exact go_lret rfl dX6_word_76
      · refine go_lconst (v := (0 : Int64)) dX6_word_71 (by decide) ?_
        refine go_goto (tgt := 76) dX6_word_72 (by decide) ?_
        exact go_lret rfl dX6_word_76
  · refine go_lload_n 1 rfl dX6_word_15 rfl ?_
    refine go_ldc2 (v := (36028797018963967 : Int64)) gw281 dX6_word_16 ?_
    refine go_lcmp dX6_word_19 ?_
    refine go_if_le (tgt := 27) dX6_word_20 (by decide) ?_ ?_
    · refine go_ldc2 (v := (32 : Int64)) gw282 dX6_word_27 ?_
      refine go_lload_n 1 rfl dX6_word_30 rfl ?_
      refine go_lmul dX6_word_31 ?_
      refine go_aload_n 0 rfl dX6_word_32 rfl ?_
      refine go_getR clX6 kt_86 6 (Nat.le_of_ble_eq_true rfl) (f := 92) (fun _ => rfl) gw267 dX6_word_33 ?_
      refine go_iload_n 2 rfl dX6_word_36 rfl ?_
      refine go_ck (fun h6 => ?_)
      refine go_ialdL kt_92 kr_92 kl_92 h6 dX6_word_37 ?_
      refine go_nm (fun x7 => ?_)
      refine go_bipush (v := (96 : Int32)) dX6_word_38 (by decide) ?_
      refine go_isub dX6_word_40 ?_
      refine go_i2l dX6_word_41 ?_
      refine go_ladd dX6_word_42 ?_
      refine go_nmL (fun x8 => ?_)
      refine go_lstore_n (lv' := [(1, .long x8), (0, .ref (ad 86)), (3, .int s.2.1)]) dX6_word_43 rfl (Nat.le_of_ble_eq_true rfl) rfl ?_
      refine go_iinc (v := (s.2.1 + (1 : Int32))) (lv' := [(3, .int (s.2.1 + (1 : Int32))), (1, .long x8), (0, .ref (ad 86))]) 2 rfl dX6_word_44 rfl (Nat.le_of_ble_eq_true rfl) rfl ?_
      refine go_goto (tgt := 7) dX6_word_47 (by decide) ?_
      exact go_sub [2, 1, 0] rfl (hih7 (x8, (s.2.1 + (1 : Int32)), s.2.2))
    · refine go_lload_n 1 rfl dX6_word_23 rfl ?_
      refine go_goto (tgt := 43) dX6_word_24 (by decide) ?_
      refine go_lstore_n (lv' := [(1, .long s.1), (0, .ref (ad 86)), (3, .int s.2.1)]) dX6_word_43 rfl (Nat.le_of_ble_eq_true rfl) rfl ?_
      refine go_iinc (v := (s.2.1 + (1 : Int32))) (lv' := [(3, .int (s.2.1 + (1 : Int32))), (1, .long s.1), (0, .ref (ad 86))]) 2 rfl dX6_word_44 rfl (Nat.le_of_ble_eq_true rfl) rfl ?_
      refine go_goto (tgt := 7) dX6_word_47 (by decide) ?_
      exact go_sub [2, 1, 0] rfl (hih7 (s.1, (s.2.1 + (1 : Int32)), s.2.2))
set_option maxHeartbeats 4000000 in
set_option maxRecDepth 100000 in
theorem g_X6_word (u : Uw) : ∀ l, Con l yX6_word mi_X6_word ivL (fun ad => [.ref (ad 86)]) u (f_X6_word u) := by
  refine con_of (by decide) rfl (fun _ => Nat.le_of_ble_eq_true rfl) (fun X ad => ?_)
  show Go X ad mi_X6_word ivL 0 [(0, .ref (ad 86))] [] u (f_X6_word u)
  unfold f_X6_word
  refine go_lconst (v := (0 : Int64)) dX6_word_0 (by decide) ?_
  refine go_lstore_n (lv' := [(1, .long (0 : Int64)), (0, .ref (ad 86))]) dX6_word_1 rfl (Nat.le_of_ble_eq_true rfl) rfl ?_
  refine go_aload_n 1 rfl dX6_word_2 rfl ?_
  refine go_getIL clX6 kt_86 8 (Nat.le_of_ble_eq_true rfl) (c := 2) (fun _ => rfl) kr_86 gw273 dX6_word_3 ?_
  refine go_nm (fun x1 => ?_)
  refine go_istore_n (lv' := [(3, .int x1), (1, .long (0 : Int64)), (0, .ref (ad 86))]) dX6_word_6 rfl (Nat.le_of_ble_eq_true rfl) rfl ?_
  exact go_sub [2, 1, 0] rfl (gl_X6_word_7 X ad  2100 ((0 : Int64), x1, u))
def b_X6_number_29 (ih29 : Int32 × Int32 × Int32 × Int32 × Int32 × Uw → Option (Unit × Uw)) (s : Int32 × Int32 × Int32 × Int32 × Int32 × Uw) : Option (Unit × Uw) :=
  if (s.2.2.2.2.2.1 25 3) ≤ s.2.2.2.2.1 then
  (nm (w1 s.2.2.2.2.2 25 4 s.2.2.2.1) fun u6 =>
  if s.2.2.1 = 0 then
  (bd (f_X6_must (0 : Int32) u6) fun r7 u8 =>
  some ((), u8))
  else
  (bd (f_X6_in (s.2.2.2.1.toInt64) (s.1.toInt64) (s.2.1.toInt64) u6) fun r9 u10 =>
  if r9 = true then
  (bd (f_X6_must (1 : Int32) u10) fun r13 u14 =>
  some ((), u14))
  else
  (bd (f_X6_must (0 : Int32) u10) fun r11 u12 =>
  some ((), u12))))
  else
  (if s.2.2.1 = 0 then
  (nm (w1 s.2.2.2.2.2 25 4 s.2.2.2.1) fun u15 =>
  if s.2.2.1 = 0 then
  (bd (f_X6_must (0 : Int32) u15) fun r16 u17 =>
  some ((), u17))
  else
  (bd (f_X6_in (s.2.2.2.1.toInt64) (s.1.toInt64) (s.2.1.toInt64) u15) fun r18 u19 =>
  if r18 = true then
  (bd (f_X6_must (1 : Int32) u19) fun r22 u23 =>
  some ((), u23))
  else
  (bd (f_X6_must (0 : Int32) u19) fun r20 u21 =>
  some ((), u21))))
  else
  (if s.2.2.2.1 ≤ (9999 : Int32) then
  (ck (inb s.2.2.2.2.1 120) <|
  nm (s.2.2.2.2.2.1 26 s.2.2.2.2.1.toNatClampNeg) fun x25 =>
  nm ((((10 : Int32) * s.2.2.2.1) + x25) - (48 : Int32)) fun x26 =>
  ih29 (s.1, s.2.1, s.2.2.1, x26, (s.2.2.2.2.1 + (1 : Int32)), s.2.2.2.2.2))
  else
  (nm s.2.2.2.1 fun x27 =>
  ih29 (s.1, s.2.1, s.2.2.1, x27, (s.2.2.2.2.1 + (1 : Int32)), s.2.2.2.2.2))))
def f_X6_number (a1 : Int32) (a2 : Int32) (u : Uw) : Option (Unit × Uw) :=
  if (u.1 25 5) = 0 then
  (bd (f_X6_byteAt (u.1 25 2) u) fun r1 u2 =>
  bd (f_X6_isDigit r1 u2) fun r3 u4 =>
  nm (u4.1 25 2) fun x5 =>
  lp b_X6_number_29 2100 (a1, a2, (bI r3), (0 : Int32), x5, u4))
  else
  (some ((), u))
set_option maxHeartbeats 4000000 in
set_option maxRecDepth 100000 in
theorem gl_X6_number_29 (X : Cx) (ad : Nat → Nat) : ∀ (n : Nat) (s : Int32 × Int32 × Int32 × Int32 × Int32 × Uw), Go X ad mi_X6_number ivV 29 [(0, .ref (ad 86)), (1, .int s.1), (2, .int s.2.1), (3, .int s.2.2.1), (4, .int s.2.2.2.1), (5, .int s.2.2.2.2.1)] [] s.2.2.2.2.2 (lp b_X6_number_29 n s) := by
  refine go_lp (G := fun (s : Int32 × Int32 × Int32 × Int32 × Int32 × Uw) o => Go X ad mi_X6_number ivV 29 [(0, .ref (ad 86)), (1, .int s.1), (2, .int s.2.1), (3, .int s.2.2.1), (4, .int s.2.2.2.1), (5, .int s.2.2.2.2.1)] [] s.2.2.2.2.2 o) (fun _ => go_none) (fun ih29 hih29 s => ?_)
  show Go X ad mi_X6_number ivV 29 [(0, .ref (ad 86)), (1, .int s.1), (2, .int s.2.1), (3, .int s.2.2.1), (4, .int s.2.2.2.1), (5, .int s.2.2.2.2.1)] [] s.2.2.2.2.2 (b_X6_number_29 ih29 s)
  unfold b_X6_number_29
  refine go_iload 5 rfl dX6_number_29 ?_
  refine go_aload_n 0 rfl dX6_number_31 rfl ?_
  refine go_getIL clX6 kt_86 9 (Nat.le_of_ble_eq_true rfl) (c := 3) (fun _ => rfl) kr_86 gw272 dX6_number_32 ?_
  refine go_icmp_ge (tgt := 79) dX6_number_35 (by decide) ?_ ?_
  · refine go_aload_n 0 rfl dX6_number_79 rfl ?_
    refine go_iload 4 rfl dX6_number_80 ?_
    refine go_putIL clX6 kt_86 10 (Nat.le_of_ble_eq_true rfl) (c := 4) (fun _ => rfl) (by decide) kr_86 (fty := .int) (tyX6_ok 10 (Nat.le_of_ble_eq_true rfl)) rfl rfl rfl (fun _ => Nat.le_of_ble_eq_true rfl) gw283 dX6_number_82 ?_
    refine go_nmU (fun u6 => ?_)
    refine go_aload_n 0 rfl dX6_number_85 rfl ?_
    refine go_iload_n 3 rfl dX6_number_86 rfl ?_
    refine go_if_eq (tgt := 107) dX6_number_87 (by decide) ?_ ?_
    · refine go_iconst (v := (0 : Int32)) dX6_number_107 (by decide) ?_
      refine go_callVV (As := fun ad => [.int (0 : Int32)]) (g_X6_must (0 : Int32) u6) mv_X6_must clX6 kt_86 gw284 rfl ⟨Nat.le_of_ble_eq_true rfl, Nat.le_of_ble_eq_true rfl⟩ rfl (Nat.le_of_ble_eq_true rfl) dX6_number_108 (fun r7 u8 => ?_)
      exact go_vret rfl dX6_number_111
    · refine go_iload 4 rfl dX6_number_90 ?_
      refine go_i2l dX6_number_92 ?_
      refine go_iload_n 1 rfl dX6_number_93 rfl ?_
      refine go_i2l dX6_number_94 ?_
      refine go_iload_n 2 rfl dX6_number_95 rfl ?_
      refine go_i2l dX6_number_96 ?_
      refine go_callSZ (As := fun ad => [.long (s.2.2.2.1.toInt64), .long (s.1.toInt64), .long (s.2.1.toInt64)]) (g_X6_in (s.2.2.2.1.toInt64) (s.1.toInt64) (s.2.1.toInt64) u6) mo_X6_in gw209 gw210 rfl ⟨Nat.le_of_ble_eq_true rfl, Nat.le_of_ble_eq_true rfl⟩ rfl (Nat.le_of_ble_eq_true rfl) dX6_number_97 (fun r9 u10 => ?_)
      refine go_ifz_eq (tgt := 107) dX6_number_100 (by decide) ?_ ?_
      · refine go_iconst (v := (0 : Int32)) dX6_number_107 (by decide) ?_
        refine go_callVV (As := fun ad => [.int (0 : Int32)]) (g_X6_must (0 : Int32) u10) mv_X6_must clX6 kt_86 gw284 rfl ⟨Nat.le_of_ble_eq_true rfl, Nat.le_of_ble_eq_true rfl⟩ rfl (Nat.le_of_ble_eq_true rfl) dX6_number_108 (fun r11 u12 => ?_)
        exact go_vret rfl dX6_number_111
      · refine go_iconst (v := (1 : Int32)) dX6_number_103 (by decide) ?_
        refine go_goto (tgt := 108) dX6_number_104 (by decide) ?_
        refine go_callVV (As := fun ad => [.int (1 : Int32)]) (g_X6_must (1 : Int32) u10) mv_X6_must clX6 kt_86 gw284 rfl ⟨Nat.le_of_ble_eq_true rfl, Nat.le_of_ble_eq_true rfl⟩ rfl (Nat.le_of_ble_eq_true rfl) dX6_number_108 (fun r13 u14 => ?_)
        exact go_vret rfl dX6_number_111
  · refine go_iload_n 3 rfl dX6_number_38 rfl ?_
    refine go_if_eq (tgt := 79) dX6_number_39 (by decide) ?_ ?_
    · refine go_aload_n 0 rfl dX6_number_79 rfl ?_
      refine go_iload 4 rfl dX6_number_80 ?_
      refine go_putIL clX6 kt_86 10 (Nat.le_of_ble_eq_true rfl) (c := 4) (fun _ => rfl) (by decide) kr_86 (fty := .int) (tyX6_ok 10 (Nat.le_of_ble_eq_true rfl)) rfl rfl rfl (fun _ => Nat.le_of_ble_eq_true rfl) gw283 dX6_number_82 ?_
      refine go_nmU (fun u15 => ?_)
      refine go_aload_n 0 rfl dX6_number_85 rfl ?_
      refine go_iload_n 3 rfl dX6_number_86 rfl ?_
      refine go_if_eq (tgt := 107) dX6_number_87 (by decide) ?_ ?_
      · refine go_iconst (v := (0 : Int32)) dX6_number_107 (by decide) ?_
        refine go_callVV (As := fun ad => [.int (0 : Int32)]) (g_X6_must (0 : Int32) u15) mv_X6_must clX6 kt_86 gw284 rfl ⟨Nat.le_of_ble_eq_true rfl, Nat.le_of_ble_eq_true rfl⟩ rfl (Nat.le_of_ble_eq_true rfl) dX6_number_108 (fun r16 u17 => ?_)
        exact go_vret rfl dX6_number_111
      · refine go_iload 4 rfl dX6_number_90 ?_
        refine go_i2l dX6_number_92 ?_
        refine go_iload_n 1 rfl dX6_number_93 rfl ?_
        refine go_i2l dX6_number_94 ?_
        refine go_iload_n 2 rfl dX6_number_95 rfl ?_
        refine go_i2l dX6_number_96 ?_
        refine go_callSZ (As := fun ad => [.long (s.2.2.2.1.toInt64), .long (s.1.toInt64), .long (s.2.1.toInt64)]) (g_X6_in (s.2.2.2.1.toInt64) (s.1.toInt64) (s.2.1.toInt64) u15) mo_X6_in gw209 gw210 rfl ⟨Nat.le_of_ble_eq_true rfl, Nat.le_of_ble_eq_true rfl⟩ rfl (Nat.le_of_ble_eq_true rfl) dX6_number_97 (fun r18 u19 => ?_)
        refine go_ifz_eq (tgt := 107) dX6_number_100 (by decide) ?_ ?_
        · refine go_iconst (v := (0 : Int32)) dX6_number_107 (by decide) ?_
          refine go_callVV (As := fun ad => [.int (0 : Int32)]) (g_X6_must (0 : Int32) u19) mv_X6_must clX6 kt_86 gw284 rfl ⟨Nat.le_of_ble_eq_true rfl, Nat.le_of_ble_eq_true rfl⟩ rfl (Nat.le_of_ble_eq_true rfl) dX6_number_108 (fun r20 u21 => ?_)
          exact go_vret rfl dX6_number_111
        · refine go_iconst (v := (1 : Int32)) dX6_number_103 (by decide) ?_
          refine go_goto (tgt := 108) dX6_number_104 (by decide) ?_
          refine go_callVV (As := fun ad => [.int (1 : Int32)]) (g_X6_must (1 : Int32) u19) mv_X6_must clX6 kt_86 gw284 rfl ⟨Nat.le_of_ble_eq_true rfl, Nat.le_of_ble_eq_true rfl⟩ rfl (Nat.le_of_ble_eq_true rfl) dX6_number_108 (fun r22 u23 => ?_)
          exact go_vret rfl dX6_number_111
    · refine go_iload 4 rfl dX6_number_42 ?_
      refine go_sipush (v := (9999 : Int32)) dX6_number_44 (by decide) ?_
      refine go_icmp_le (tgt := 55) dX6_number_47 (by decide) ?_ ?_
      · refine go_bipush (v := (10 : Int32)) dX6_number_55 (by decide) ?_
        refine go_iload 4 rfl dX6_number_57 ?_
        refine go_imul dX6_number_59 ?_
        refine go_aload_n 0 rfl dX6_number_60 rfl ?_
        refine go_getR clX6 kt_86 6 (Nat.le_of_ble_eq_true rfl) (f := 92) (fun _ => rfl) gw267 dX6_number_61 ?_
        refine go_iload 5 rfl dX6_number_64 ?_
        refine go_ck (fun h24 => ?_)
        refine go_ialdL kt_92 kr_92 kl_92 h24 dX6_number_66 ?_
        refine go_nm (fun x25 => ?_)
        refine go_iadd dX6_number_67 ?_
        refine go_bipush (v := (48 : Int32)) dX6_number_68 (by decide) ?_
        refine go_isub dX6_number_70 ?_
        refine go_nm (fun x26 => ?_)
        refine go_istore (lv' := [(4, .int x26), (0, .ref (ad 86)), (1, .int s.1), (2, .int s.2.1), (3, .int s.2.2.1), (5, .int s.2.2.2.2.1)]) dX6_number_71 (Nat.le_of_ble_eq_true rfl) rfl ?_
        refine go_iinc (v := (s.2.2.2.2.1 + (1 : Int32))) (lv' := [(5, .int (s.2.2.2.2.1 + (1 : Int32))), (4, .int x26), (0, .ref (ad 86)), (1, .int s.1), (2, .int s.2.1), (3, .int s.2.2.1)]) 5 rfl dX6_number_73 rfl (Nat.le_of_ble_eq_true rfl) rfl ?_
        refine go_goto (tgt := 29) dX6_number_76 (by decide) ?_
        exact go_sub [2, 3, 4, 5, 1, 0] rfl (hih29 (s.1, s.2.1, s.2.2.1, x26, (s.2.2.2.2.1 + (1 : Int32)), s.2.2.2.2.2))
      · refine go_iload 4 rfl dX6_number_50 ?_
        refine go_goto (tgt := 71) dX6_number_52 (by decide) ?_
        refine go_nm (fun x27 => ?_)
        refine go_istore (lv' := [(4, .int x27), (0, .ref (ad 86)), (1, .int s.1), (2, .int s.2.1), (3, .int s.2.2.1), (5, .int s.2.2.2.2.1)]) dX6_number_71 (Nat.le_of_ble_eq_true rfl) rfl ?_
        refine go_iinc (v := (s.2.2.2.2.1 + (1 : Int32))) (lv' := [(5, .int (s.2.2.2.2.1 + (1 : Int32))), (4, .int x27), (0, .ref (ad 86)), (1, .int s.1), (2, .int s.2.1), (3, .int s.2.2.1)]) 5 rfl dX6_number_73 rfl (Nat.le_of_ble_eq_true rfl) rfl ?_
        refine go_goto (tgt := 29) dX6_number_76 (by decide) ?_
        exact go_sub [2, 3, 4, 5, 1, 0] rfl (hih29 (s.1, s.2.1, s.2.2.1, x27, (s.2.2.2.2.1 + (1 : Int32)), s.2.2.2.2.2))
set_option maxHeartbeats 4000000 in
set_option maxRecDepth 100000 in
theorem g_X6_number (a1 : Int32) (a2 : Int32) (u : Uw) : ∀ l, Con l yX6_number mi_X6_number ivV (fun ad => [.ref (ad 86), .int a1, .int a2]) u (f_X6_number a1 a2 u) := by
  refine con_of (by decide) rfl (fun _ => Nat.le_of_ble_eq_true rfl) (fun X ad => ?_)
  show Go X ad mi_X6_number ivV 0 [(0, .ref (ad 86)), (1, .int a1), (2, .int a2)] [] u (f_X6_number a1 a2 u)
  unfold f_X6_number
  refine go_aload_n 0 rfl dX6_number_0 rfl ?_
  refine go_getIL clX6 kt_86 11 (Nat.le_of_ble_eq_true rfl) (c := 5) (fun _ => rfl) kr_86 gw279 dX6_number_1 ?_
  refine go_if_eq (tgt := 8) dX6_number_4 (by decide) ?_ ?_
  · refine go_aload_n 0 rfl dX6_number_8 rfl ?_
    refine go_aload_n 0 rfl dX6_number_9 rfl ?_
    refine go_getIL clX6 kt_86 8 (Nat.le_of_ble_eq_true rfl) (c := 2) (fun _ => rfl) kr_86 gw273 dX6_number_10 ?_
    refine go_callVI (As := fun ad => [.int (u.1 25 2)]) (g_X6_byteAt (u.1 25 2) u) mv_X6_byteAt clX6 kt_86 gw274 rfl ⟨Nat.le_of_ble_eq_true rfl, Nat.le_of_ble_eq_true rfl⟩ rfl (Nat.le_of_ble_eq_true rfl) dX6_number_13 (fun r1 u2 => ?_)
    refine go_callSZ (As := fun ad => [.int r1]) (g_X6_isDigit r1 u2) mo_X6_isDigit gw277 gw278 rfl ⟨Nat.le_of_ble_eq_true rfl, Nat.le_of_ble_eq_true rfl⟩ rfl (Nat.le_of_ble_eq_true rfl) dX6_number_16 (fun r3 u4 => ?_)
    refine go_istore_n (lv' := [(3, .int (bI r3)), (0, .ref (ad 86)), (1, .int a1), (2, .int a2)]) dX6_number_19 rfl (Nat.le_of_ble_eq_true rfl) rfl ?_
    refine go_iconst (v := (0 : Int32)) dX6_number_20 (by decide) ?_
    refine go_istore (lv' := [(4, .int (0 : Int32)), (3, .int (bI r3)), (0, .ref (ad 86)), (1, .int a1), (2, .int a2)]) dX6_number_21 (Nat.le_of_ble_eq_true rfl) rfl ?_
    refine go_aload_n 2 rfl dX6_number_23 rfl ?_
    refine go_getIL clX6 kt_86 8 (Nat.le_of_ble_eq_true rfl) (c := 2) (fun _ => rfl) kr_86 gw273 dX6_number_24 ?_
    refine go_nm (fun x5 => ?_)
    refine go_istore (lv' := [(5, .int x5), (4, .int (0 : Int32)), (3, .int (bI r3)), (0, .ref (ad 86)), (1, .int a1), (2, .int a2)]) dX6_number_27 (Nat.le_of_ble_eq_true rfl) rfl ?_
    exact go_sub [3, 4, 5, 2, 1, 0] rfl (gl_X6_number_29 X ad  2100 (a1, a2, (bI r3), (0 : Int32), x5, u4))
  · exact go_vret rfl dX6_number_7
def f_X6_kindHere (u : Uw) : Option (Int32 × Uw) :=
  bd (f_X6_word  u) fun r1 u2 =>
  if (lg_cmp r1 (3659220 : Int64)) = 0 then
  (some ((0 : Int32), u2))
  else
  (if (lg_cmp r1 (15748 : Int64)) = 0 then
  (some ((1 : Int32), u2))
  else
  (if (lg_cmp r1 (14519 : Int64)) = 0 then
  (some ((2 : Int32), u2))
  else
  (if (lg_cmp r1 (3559 : Int64)) = 0 then
  (some ((3 : Int32), u2))
  else
  (if (lg_cmp r1 (398384 : Int64)) = 0 then
  (some ((4 : Int32), u2))
  else
  (if (lg_cmp r1 (441803 : Int64)) = 0 then
  (some ((5 : Int32), u2))
  else
  (some ((-1 : Int32), u2)))))))
set_option maxHeartbeats 4000000 in
set_option maxRecDepth 100000 in
theorem g_X6_kindHere (u : Uw) : ∀ l, Con l yX6_kindHere mi_X6_kindHere ivI (fun ad => [.ref (ad 86)]) u (f_X6_kindHere u) := by
  refine con_of (by decide) rfl (fun _ => Nat.le_of_ble_eq_true rfl) (fun X ad => ?_)
  show Go X ad mi_X6_kindHere ivI 0 [(0, .ref (ad 86))] [] u (f_X6_kindHere u)
  unfold f_X6_kindHere
  refine go_aload_n 0 rfl dX6_kindHere_0 rfl ?_
  refine go_callVL (As := fun ad => []) (g_X6_word  u) mv_X6_word clX6 kt_86 gw285 rfl ⟨Nat.le_of_ble_eq_true rfl, Nat.le_of_ble_eq_true rfl⟩ rfl (Nat.le_of_ble_eq_true rfl) dX6_kindHere_1 (fun r1 u2 => ?_)
  refine go_lstore_n (lv' := [(1, .long r1), (0, .ref (ad 86))]) dX6_kindHere_4 rfl (Nat.le_of_ble_eq_true rfl) rfl ?_
  refine go_lload_n 0 rfl dX6_kindHere_5 rfl ?_
  refine go_ldc2 (v := (3659220 : Int64)) gw286 dX6_kindHere_6 ?_
  refine go_lcmp dX6_kindHere_9 ?_
  refine go_if_ne (tgt := 17) dX6_kindHere_10 (by decide) ?_ ?_
  · refine go_lload_n 0 rfl dX6_kindHere_17 rfl ?_
    refine go_ldc2 (v := (15748 : Int64)) gw287 dX6_kindHere_18 ?_
    refine go_lcmp dX6_kindHere_21 ?_
    refine go_if_ne (tgt := 29) dX6_kindHere_22 (by decide) ?_ ?_
    · refine go_lload_n 0 rfl dX6_kindHere_29 rfl ?_
      refine go_ldc2 (v := (14519 : Int64)) gw288 dX6_kindHere_30 ?_
      refine go_lcmp dX6_kindHere_33 ?_
      refine go_if_ne (tgt := 41) dX6_kindHere_34 (by decide) ?_ ?_
      · refine go_lload_n 0 rfl dX6_kindHere_41 rfl ?_
        refine go_ldc2 (v := (3559 : Int64)) gw289 dX6_kindHere_42 ?_
        refine go_lcmp dX6_kindHere_45 ?_
        refine go_if_ne (tgt := 53) dX6_kindHere_46 (by decide) ?_ ?_
        · refine go_lload_n 0 rfl dX6_kindHere_53 rfl ?_
          refine go_ldc2 (v := (398384 : Int64)) gw290 dX6_kindHere_54 ?_
          refine go_lcmp dX6_kindHere_57 ?_
          refine go_if_ne (tgt := 65) dX6_kindHere_58 (by decide) ?_ ?_
          · refine go_lload_n 0 rfl dX6_kindHere_65 rfl ?_
            refine go_ldc2 (v := (441803 : Int64)) gw291 dX6_kindHere_66 ?_
            refine go_lcmp dX6_kindHere_69 ?_
            refine go_if_ne (tgt := 77) dX6_kindHere_70 (by decide) ?_ ?_
            · refine go_iconst (v := (-1 : Int32)) dX6_kindHere_77 (by decide) ?_
              exact go_iret rfl dX6_kindHere_78
            · refine go_iconst (v := (5 : Int32)) dX6_kindHere_73 (by decide) ?_
              refine go_goto (tgt := 78) dX6_kindHere_74 (by decide) ?_
              exact go_iret rfl dX6_kindHere_78
          · refine go_iconst (v := (4 : Int32)) dX6_kindHere_61 (by decide) ?_
            refine go_goto (tgt := 78) dX6_kindHere_62 (by decide) ?_
            exact go_iret rfl dX6_kindHere_78
        · refine go_iconst (v := (3 : Int32)) dX6_kindHere_49 (by decide) ?_
          refine go_goto (tgt := 78) dX6_kindHere_50 (by decide) ?_
          exact go_iret rfl dX6_kindHere_78
      · refine go_iconst (v := (2 : Int32)) dX6_kindHere_37 (by decide) ?_
        refine go_goto (tgt := 78) dX6_kindHere_38 (by decide) ?_
        exact go_iret rfl dX6_kindHere_78
    · refine go_iconst (v := (1 : Int32)) dX6_kindHere_25 (by decide) ?_
      refine go_goto (tgt := 78) dX6_kindHere_26 (by decide) ?_
      exact go_iret rfl dX6_kindHere_78
  · refine go_iconst (v := (0 : Int32)) dX6_kindHere_13 (by decide) ?_
    refine go_goto (tgt := 78) dX6_kindHere_14 (by decide) ?_
    exact go_iret rfl dX6_kindHere_78
def f_X6_partItem (a1 : Int64) (a3 : Int32) (a4 : Int32) (a5 : Int32) (u : Uw) : Option (Unit × Uw) :=
  bd (f_X6_word  u) fun r1 u2 =>
  if (lg_cmp r1 a1) = 0 then
  (bd (f_X6_must (1 : Int32) u2) fun r3 u4 =>
  bd (f_X6_number a4 a5 u4) fun r5 u6 =>
  nm (u6.1 20 (0 : Int32).toNatClampNeg) fun x7 =>
  nm (((7 : Int32) + ((5 : Int32) * (x7 - (1 : Int32)))) + a3) fun x8 =>
  if (u6.1 25 5) = 0 then
  (ck (inb x8 61) <|
  nm (w1 u6 20 x8.toNatClampNeg (u6.1 25 4)) fun u10 =>
  some ((), u10))
  else
  (ck (inb x8 61) <|
  nm (u6.1 20 x8.toNatClampNeg) fun x12 =>
  nm (w1 u6 20 x8.toNatClampNeg x12) fun u13 =>
  some ((), u13)))
  else
  (some ((), u2))
set_option maxHeartbeats 4000000 in
set_option maxRecDepth 100000 in
theorem g_X6_partItem (a1 : Int64) (a3 : Int32) (a4 : Int32) (a5 : Int32) (u : Uw) : ∀ l, Con l yX6_partItem mi_X6_partItem ivV (fun ad => [.ref (ad 86), .long a1, .int a3, .int a4, .int a5]) u (f_X6_partItem a1 a3 a4 a5 u) := by
  refine con_of (by decide) rfl (fun _ => Nat.le_of_ble_eq_true rfl) (fun X ad => ?_)
  show Go X ad mi_X6_partItem ivV 0 [(0, .ref (ad 86)), (1, .long a1), (3, .int a3), (4, .int a4), (5, .int a5)] [] u (f_X6_partItem a1 a3 a4 a5 u)
  unfold f_X6_partItem
  refine go_aload_n 0 rfl dX6_partItem_0 rfl ?_
  refine go_callVL (As := fun ad => []) (g_X6_word  u) mv_X6_word clX6 kt_86 gw285 rfl ⟨Nat.le_of_ble_eq_true rfl, Nat.le_of_ble_eq_true rfl⟩ rfl (Nat.le_of_ble_eq_true rfl) dX6_partItem_1 (fun r1 u2 => ?_)
  refine go_lload_n 1 rfl dX6_partItem_4 rfl ?_
  refine go_lcmp dX6_partItem_5 ?_
  refine go_if_ne (tgt := 67) dX6_partItem_6 (by decide) ?_ ?_
  · exact go_vret rfl dX6_partItem_67
  · refine go_aload_n 0 rfl dX6_partItem_9 rfl ?_
    refine go_iconst (v := (1 : Int32)) dX6_partItem_10 (by decide) ?_
    refine go_callVV (As := fun ad => [.int (1 : Int32)]) (g_X6_must (1 : Int32) u2) mv_X6_must clX6 kt_86 gw284 rfl ⟨Nat.le_of_ble_eq_true rfl, Nat.le_of_ble_eq_true rfl⟩ rfl (Nat.le_of_ble_eq_true rfl) dX6_partItem_11 (fun r3 u4 => ?_)
    refine go_aload_n 0 rfl dX6_partItem_14 rfl ?_
    refine go_iload 3 rfl dX6_partItem_15 ?_
    refine go_iload 4 rfl dX6_partItem_17 ?_
    refine go_callVV (As := fun ad => [.int a4, .int a5]) (g_X6_number a4 a5 u4) mv_X6_number clX6 kt_86 gw292 rfl ⟨Nat.le_of_ble_eq_true rfl, Nat.le_of_ble_eq_true rfl⟩ rfl (Nat.le_of_ble_eq_true rfl) dX6_partItem_19 (fun r5 u6 => ?_)
    refine go_bipush (v := (7 : Int32)) dX6_partItem_22 (by decide) ?_
    refine go_iconst (v := (5 : Int32)) dX6_partItem_24 (by decide) ?_
    refine go_aload_n 0 rfl dX6_partItem_25 rfl ?_
    refine go_getR clX6 kt_86 0 (Nat.le_of_ble_eq_true rfl) (f := 87) (fun _ => rfl) gw207 dX6_partItem_26 ?_
    refine go_iconst (v := (0 : Int32)) dX6_partItem_29 (by decide) ?_
    refine go_ialdL kt_87 kr_87 kl_87 rfl dX6_partItem_30 ?_
    refine go_nm (fun x7 => ?_)
    refine go_iconst (v := (1 : Int32)) dX6_partItem_31 (by decide) ?_
    refine go_isub dX6_partItem_32 ?_
    refine go_imul dX6_partItem_33 ?_
    refine go_iadd dX6_partItem_34 ?_
    refine go_iload_n 2 rfl dX6_partItem_35 rfl ?_
    refine go_iadd dX6_partItem_36 ?_
    refine go_nm (fun x8 => ?_)
    refine go_istore (lv' := [(6, .int x8), (0, .ref (ad 86)), (1, .long a1), (3, .int a3), (4, .int a4), (5, .int a5)]) dX6_partItem_37 (Nat.le_of_ble_eq_true rfl) rfl ?_
    refine go_aload_n 1 rfl dX6_partItem_39 rfl ?_
    refine go_getR clX6 kt_86 0 (Nat.le_of_ble_eq_true rfl) (f := 87) (fun _ => rfl) gw207 dX6_partItem_40 ?_
    refine go_iload 0 rfl dX6_partItem_43 ?_
    refine go_aload_n 1 rfl dX6_partItem_45 rfl ?_
    refine go_getIL clX6 kt_86 11 (Nat.le_of_ble_eq_true rfl) (c := 5) (fun _ => rfl) kr_86 gw279 dX6_partItem_46 ?_
    refine go_if_eq (tgt := 62) dX6_partItem_49 (by decide) ?_ ?_
    · refine go_aload_n 1 rfl dX6_partItem_62 rfl ?_
      refine go_getIL clX6 kt_86 10 (Nat.le_of_ble_eq_true rfl) (c := 4) (fun _ => rfl) kr_86 gw283 dX6_partItem_63 ?_
      refine go_ck (fun h9 => ?_)
      refine go_iastL kt_87 kr_87 kl_87 h9 dX6_partItem_66 ?_
      refine go_nmU (fun u10 => ?_)
      exact go_vret rfl dX6_partItem_67
    · refine go_aload_n 1 rfl dX6_partItem_52 rfl ?_
      refine go_getR clX6 kt_86 0 (Nat.le_of_ble_eq_true rfl) (f := 87) (fun _ => rfl) gw207 dX6_partItem_53 ?_
      refine go_iload 0 rfl dX6_partItem_56 ?_
      refine go_ck (fun h11 => ?_)
      refine go_ialdL kt_87 kr_87 kl_87 h11 dX6_partItem_58 ?_
      refine go_nm (fun x12 => ?_)
      refine go_goto (tgt := 66) dX6_partItem_59 (by decide) ?_
      refine go_iastL kt_87 kr_87 kl_87 h11 dX6_partItem_66 ?_
      refine go_nmU (fun u13 => ?_)
      exact go_vret rfl dX6_partItem_67
def f_X6_calendarItem (a1 : Int32) (u : Uw) : Option (Unit × Uw) :=
  nm (u.1 20 (0 : Int32).toNatClampNeg) fun x1 =>
  if (6 : Int32) ≤ x1 then
  (bd (f_X6_must (0 : Int32) u) fun r2 u3 =>
  if (u3.1 25 5) = 0 then
  (bd (f_X6_adds a1 u3) fun r4 u5 =>
  bd (f_X6_partItem (2268462 : Int64) (1 : Int32) (0 : Int32) (99 : Int32) u5) fun r6 u7 =>
  bd (f_X6_partItem (408362632 : Int64) (2 : Int32) (1 : Int32) (60 : Int32) u7) fun r8 u9 =>
  bd (f_X6_partItem (398548 : Int64) (3 : Int32) (0 : Int32) (99 : Int32) u9) fun r10 u11 =>
  bd (f_X6_partItem (609435213 : Int64) (4 : Int32) (0 : Int32) (9999 : Int32) u11) fun r12 u13 =>
  some ((), u13))
  else
  (some ((), u3)))
  else
  (bd (f_X6_must (1 : Int32) u) fun r14 u15 =>
  if (u15.1 25 5) = 0 then
  (bd (f_X6_adds a1 u15) fun r16 u17 =>
  bd (f_X6_partItem (2268462 : Int64) (1 : Int32) (0 : Int32) (99 : Int32) u17) fun r18 u19 =>
  bd (f_X6_partItem (408362632 : Int64) (2 : Int32) (1 : Int32) (60 : Int32) u19) fun r20 u21 =>
  bd (f_X6_partItem (398548 : Int64) (3 : Int32) (0 : Int32) (99 : Int32) u21) fun r22 u23 =>
  bd (f_X6_partItem (609435213 : Int64) (4 : Int32) (0 : Int32) (9999 : Int32) u23) fun r24 u25 =>
  some ((), u25))
  else
  (some ((), u15)))
set_option maxHeartbeats 4000000 in
set_option maxRecDepth 100000 in
theorem g_X6_calendarItem (a1 : Int32) (u : Uw) : ∀ l, Con l yX6_calendarItem mi_X6_calendarItem ivV (fun ad => [.ref (ad 86), .int a1]) u (f_X6_calendarItem a1 u) := by
  refine con_of (by decide) rfl (fun _ => Nat.le_of_ble_eq_true rfl) (fun X ad => ?_)
  show Go X ad mi_X6_calendarItem ivV 0 [(0, .ref (ad 86)), (1, .int a1)] [] u (f_X6_calendarItem a1 u)
  unfold f_X6_calendarItem
  refine go_aload_n 0 rfl dX6_calendarItem_0 rfl ?_
  refine go_aload_n 0 rfl dX6_calendarItem_1 rfl ?_
  refine go_getR clX6 kt_86 0 (Nat.le_of_ble_eq_true rfl) (f := 87) (fun _ => rfl) gw207 dX6_calendarItem_2 ?_
  refine go_iconst (v := (0 : Int32)) dX6_calendarItem_5 (by decide) ?_
  refine go_ialdL kt_87 kr_87 kl_87 rfl dX6_calendarItem_6 ?_
  refine go_nm (fun x1 => ?_)
  refine go_bipush (v := (6 : Int32)) dX6_calendarItem_7 (by decide) ?_
  refine go_icmp_ge (tgt := 16) dX6_calendarItem_9 (by decide) ?_ ?_
  · refine go_iconst (v := (0 : Int32)) dX6_calendarItem_16 (by decide) ?_
    refine go_callVV (As := fun ad => [.int (0 : Int32)]) (g_X6_must (0 : Int32) u) mv_X6_must clX6 kt_86 gw284 rfl ⟨Nat.le_of_ble_eq_true rfl, Nat.le_of_ble_eq_true rfl⟩ rfl (Nat.le_of_ble_eq_true rfl) dX6_calendarItem_17 (fun r2 u3 => ?_)
    refine go_aload_n 0 rfl dX6_calendarItem_20 rfl ?_
    refine go_getIL clX6 kt_86 11 (Nat.le_of_ble_eq_true rfl) (c := 5) (fun _ => rfl) kr_86 gw279 dX6_calendarItem_21 ?_
    refine go_if_eq (tgt := 28) dX6_calendarItem_24 (by decide) ?_ ?_
    · refine go_aload_n 0 rfl dX6_calendarItem_28 rfl ?_
      refine go_iload_n 1 rfl dX6_calendarItem_29 rfl ?_
      refine go_callVI (As := fun ad => [.int a1]) (g_X6_adds a1 u3) mv_X6_adds clX6 kt_86 gw217 rfl ⟨Nat.le_of_ble_eq_true rfl, Nat.le_of_ble_eq_true rfl⟩ rfl (Nat.le_of_ble_eq_true rfl) dX6_calendarItem_30 (fun r4 u5 => ?_)
      refine go_istore_n (lv' := [(2, .int r4), (0, .ref (ad 86)), (1, .int a1)]) dX6_calendarItem_33 rfl (Nat.le_of_ble_eq_true rfl) rfl ?_
      refine go_aload_n 1 rfl dX6_calendarItem_34 rfl ?_
      refine go_ldc2 (v := (2268462 : Int64)) gw293 dX6_calendarItem_35 ?_
      refine go_iconst (v := (1 : Int32)) dX6_calendarItem_38 (by decide) ?_
      refine go_iconst (v := (0 : Int32)) dX6_calendarItem_39 (by decide) ?_
      refine go_bipush (v := (99 : Int32)) dX6_calendarItem_40 (by decide) ?_
      refine go_callVV (As := fun ad => [.long (2268462 : Int64), .int (1 : Int32), .int (0 : Int32), .int (99 : Int32)]) (g_X6_partItem (2268462 : Int64) (1 : Int32) (0 : Int32) (99 : Int32) u5) mv_X6_partItem clX6 kt_86 gw294 rfl ⟨Nat.le_of_ble_eq_true rfl, Nat.le_of_ble_eq_true rfl⟩ rfl (Nat.le_of_ble_eq_true rfl) dX6_calendarItem_42 (fun r6 u7 => ?_)
      refine go_aload_n 1 rfl dX6_calendarItem_45 rfl ?_
      refine go_ldc2 (v := (408362632 : Int64)) gw295 dX6_calendarItem_46 ?_
      refine go_iconst (v := (2 : Int32)) dX6_calendarItem_49 (by decide) ?_
      refine go_iconst (v := (1 : Int32)) dX6_calendarItem_50 (by decide) ?_
      refine go_bipush (v := (60 : Int32)) dX6_calendarItem_51 (by decide) ?_
      refine go_callVV (As := fun ad => [.long (408362632 : Int64), .int (2 : Int32), .int (1 : Int32), .int (60 : Int32)]) (g_X6_partItem (408362632 : Int64) (2 : Int32) (1 : Int32) (60 : Int32) u7) mv_X6_partItem clX6 kt_86 gw294 rfl ⟨Nat.le_of_ble_eq_true rfl, Nat.le_of_ble_eq_true rfl⟩ rfl (Nat.le_of_ble_eq_true rfl) dX6_calendarItem_53 (fun r8 u9 => ?_)
      refine go_aload_n 1 rfl dX6_calendarItem_56 rfl ?_
      refine go_ldc2 (v := (398548 : Int64)) gw296 dX6_calendarItem_57 ?_
      refine go_iconst (v := (3 : Int32)) dX6_calendarItem_60 (by decide) ?_
      refine go_iconst (v := (0 : Int32)) dX6_calendarItem_61 (by decide) ?_
      refine go_bipush (v := (99 : Int32)) dX6_calendarItem_62 (by decide) ?_
      refine go_callVV (As := fun ad => [.long (398548 : Int64), .int (3 : Int32), .int (0 : Int32), .int (99 : Int32)]) (g_X6_partItem (398548 : Int64) (3 : Int32) (0 : Int32) (99 : Int32) u9) mv_X6_partItem clX6 kt_86 gw294 rfl ⟨Nat.le_of_ble_eq_true rfl, Nat.le_of_ble_eq_true rfl⟩ rfl (Nat.le_of_ble_eq_true rfl) dX6_calendarItem_64 (fun r10 u11 => ?_)
      refine go_aload_n 1 rfl dX6_calendarItem_67 rfl ?_
      refine go_ldc2 (v := (609435213 : Int64)) gw297 dX6_calendarItem_68 ?_
      refine go_iconst (v := (4 : Int32)) dX6_calendarItem_71 (by decide) ?_
      refine go_iconst (v := (0 : Int32)) dX6_calendarItem_72 (by decide) ?_
      refine go_sipush (v := (9999 : Int32)) dX6_calendarItem_73 (by decide) ?_
      refine go_callVV (As := fun ad => [.long (609435213 : Int64), .int (4 : Int32), .int (0 : Int32), .int (9999 : Int32)]) (g_X6_partItem (609435213 : Int64) (4 : Int32) (0 : Int32) (9999 : Int32) u11) mv_X6_partItem clX6 kt_86 gw294 rfl ⟨Nat.le_of_ble_eq_true rfl, Nat.le_of_ble_eq_true rfl⟩ rfl (Nat.le_of_ble_eq_true rfl) dX6_calendarItem_76 (fun r12 u13 => ?_)
      exact go_vret rfl dX6_calendarItem_79
    · exact go_vret rfl dX6_calendarItem_27
  · refine go_iconst (v := (1 : Int32)) dX6_calendarItem_12 (by decide) ?_
    refine go_goto (tgt := 17) dX6_calendarItem_13 (by decide) ?_
    refine go_callVV (As := fun ad => [.int (1 : Int32)]) (g_X6_must (1 : Int32) u) mv_X6_must clX6 kt_86 gw284 rfl ⟨Nat.le_of_ble_eq_true rfl, Nat.le_of_ble_eq_true rfl⟩ rfl (Nat.le_of_ble_eq_true rfl) dX6_calendarItem_17 (fun r14 u15 => ?_)
    refine go_aload_n 0 rfl dX6_calendarItem_20 rfl ?_
    refine go_getIL clX6 kt_86 11 (Nat.le_of_ble_eq_true rfl) (c := 5) (fun _ => rfl) kr_86 gw279 dX6_calendarItem_21 ?_
    refine go_if_eq (tgt := 28) dX6_calendarItem_24 (by decide) ?_ ?_
    · refine go_aload_n 0 rfl dX6_calendarItem_28 rfl ?_
      refine go_iload_n 1 rfl dX6_calendarItem_29 rfl ?_
      refine go_callVI (As := fun ad => [.int a1]) (g_X6_adds a1 u15) mv_X6_adds clX6 kt_86 gw217 rfl ⟨Nat.le_of_ble_eq_true rfl, Nat.le_of_ble_eq_true rfl⟩ rfl (Nat.le_of_ble_eq_true rfl) dX6_calendarItem_30 (fun r16 u17 => ?_)
      refine go_istore_n (lv' := [(2, .int r16), (0, .ref (ad 86)), (1, .int a1)]) dX6_calendarItem_33 rfl (Nat.le_of_ble_eq_true rfl) rfl ?_
      refine go_aload_n 1 rfl dX6_calendarItem_34 rfl ?_
      refine go_ldc2 (v := (2268462 : Int64)) gw293 dX6_calendarItem_35 ?_
      refine go_iconst (v := (1 : Int32)) dX6_calendarItem_38 (by decide) ?_
      refine go_iconst (v := (0 : Int32)) dX6_calendarItem_39 (by decide) ?_
      refine go_bipush (v := (99 : Int32)) dX6_calendarItem_40 (by decide) ?_
      refine go_callVV (As := fun ad => [.long (2268462 : Int64), .int (1 : Int32), .int (0 : Int32), .int (99 : Int32)]) (g_X6_partItem (2268462 : Int64) (1 : Int32) (0 : Int32) (99 : Int32) u17) mv_X6_partItem clX6 kt_86 gw294 rfl ⟨Nat.le_of_ble_eq_true rfl, Nat.le_of_ble_eq_true rfl⟩ rfl (Nat.le_of_ble_eq_true rfl) dX6_calendarItem_42 (fun r18 u19 => ?_)
      refine go_aload_n 1 rfl dX6_calendarItem_45 rfl ?_
      refine go_ldc2 (v := (408362632 : Int64)) gw295 dX6_calendarItem_46 ?_
      refine go_iconst (v := (2 : Int32)) dX6_calendarItem_49 (by decide) ?_
      refine go_iconst (v := (1 : Int32)) dX6_calendarItem_50 (by decide) ?_
      refine go_bipush (v := (60 : Int32)) dX6_calendarItem_51 (by decide) ?_
      refine go_callVV (As := fun ad => [.long (408362632 : Int64), .int (2 : Int32), .int (1 : Int32), .int (60 : Int32)]) (g_X6_partItem (408362632 : Int64) (2 : Int32) (1 : Int32) (60 : Int32) u19) mv_X6_partItem clX6 kt_86 gw294 rfl ⟨Nat.le_of_ble_eq_true rfl, Nat.le_of_ble_eq_true rfl⟩ rfl (Nat.le_of_ble_eq_true rfl) dX6_calendarItem_53 (fun r20 u21 => ?_)
      refine go_aload_n 1 rfl dX6_calendarItem_56 rfl ?_
      refine go_ldc2 (v := (398548 : Int64)) gw296 dX6_calendarItem_57 ?_
      refine go_iconst (v := (3 : Int32)) dX6_calendarItem_60 (by decide) ?_
      refine go_iconst (v := (0 : Int32)) dX6_calendarItem_61 (by decide) ?_
      refine go_bipush (v := (99 : Int32)) dX6_calendarItem_62 (by decide) ?_
      refine go_callVV (As := fun ad => [.long (398548 : Int64), .int (3 : Int32), .int (0 : Int32), .int (99 : Int32)]) (g_X6_partItem (398548 : Int64) (3 : Int32) (0 : Int32) (99 : Int32) u21) mv_X6_partItem clX6 kt_86 gw294 rfl ⟨Nat.le_of_ble_eq_true rfl, Nat.le_of_ble_eq_true rfl⟩ rfl (Nat.le_of_ble_eq_true rfl) dX6_calendarItem_64 (fun r22 u23 => ?_)
      refine go_aload_n 1 rfl dX6_calendarItem_67 rfl ?_
      refine go_ldc2 (v := (609435213 : Int64)) gw297 dX6_calendarItem_68 ?_
      refine go_iconst (v := (4 : Int32)) dX6_calendarItem_71 (by decide) ?_
      refine go_iconst (v := (0 : Int32)) dX6_calendarItem_72 (by decide) ?_
      refine go_sipush (v := (9999 : Int32)) dX6_calendarItem_73 (by decide) ?_
      refine go_callVV (As := fun ad => [.long (609435213 : Int64), .int (4 : Int32), .int (0 : Int32), .int (9999 : Int32)]) (g_X6_partItem (609435213 : Int64) (4 : Int32) (0 : Int32) (9999 : Int32) u23) mv_X6_partItem clX6 kt_86 gw294 rfl ⟨Nat.le_of_ble_eq_true rfl, Nat.le_of_ble_eq_true rfl⟩ rfl (Nat.le_of_ble_eq_true rfl) dX6_calendarItem_76 (fun r24 u25 => ?_)
      exact go_vret rfl dX6_calendarItem_79
    · exact go_vret rfl dX6_calendarItem_27
def f_X6_pilgrimItem (u : Uw) : Option (Unit × Uw) :=
  nm (u.1 20 (1 : Int32).toNatClampNeg) fun x1 =>
  if (8 : Int32) ≤ x1 then
  (bd (f_X6_must (0 : Int32) u) fun r2 u3 =>
  bd (f_X6_number (0 : Int32) (99 : Int32) u3) fun r4 u5 =>
  nm (u5.1 25 4) fun x6 =>
  bd (f_X6_word  u5) fun r7 u8 =>
  if (lg_cmp r7 (690671251 : Int64)) = 0 then
  (bd (f_X6_must (1 : Int32) u8) fun r11 u12 =>
  nm (u12.1 20 (0 : Int32).toNatClampNeg) fun x13 =>
  bd (f_X6_number (0 : Int32) (x13 - (1 : Int32)) u12) fun r14 u15 =>
  nm (u15.1 25 4) fun x16 =>
  if (u15.1 25 5) = 0 then
  (bd (f_X6_comes x6 x16 u15) fun r17 u18 =>
  some ((), u18))
  else
  (some ((), u15)))
  else
  (if (u8.1 25 5) = 0 then
  (bd (f_X6_comes x6 (-1 : Int32) u8) fun r9 u10 =>
  some ((), u10))
  else
  (some ((), u8))))
  else
  (bd (f_X6_must (1 : Int32) u) fun r19 u20 =>
  bd (f_X6_number (0 : Int32) (99 : Int32) u20) fun r21 u22 =>
  nm (u22.1 25 4) fun x23 =>
  bd (f_X6_word  u22) fun r24 u25 =>
  if (lg_cmp r24 (690671251 : Int64)) = 0 then
  (bd (f_X6_must (1 : Int32) u25) fun r28 u29 =>
  nm (u29.1 20 (0 : Int32).toNatClampNeg) fun x30 =>
  bd (f_X6_number (0 : Int32) (x30 - (1 : Int32)) u29) fun r31 u32 =>
  nm (u32.1 25 4) fun x33 =>
  if (u32.1 25 5) = 0 then
  (bd (f_X6_comes x23 x33 u32) fun r34 u35 =>
  some ((), u35))
  else
  (some ((), u32)))
  else
  (if (u25.1 25 5) = 0 then
  (bd (f_X6_comes x23 (-1 : Int32) u25) fun r26 u27 =>
  some ((), u27))
  else
  (some ((), u25))))
set_option maxHeartbeats 4000000 in
set_option maxRecDepth 100000 in
theorem g_X6_pilgrimItem (u : Uw) : ∀ l, Con l yX6_pilgrimItem mi_X6_pilgrimItem ivV (fun ad => [.ref (ad 86)]) u (f_X6_pilgrimItem u) := by
  refine con_of (by decide) rfl (fun _ => Nat.le_of_ble_eq_true rfl) (fun X ad => ?_)
  show Go X ad mi_X6_pilgrimItem ivV 0 [(0, .ref (ad 86))] [] u (f_X6_pilgrimItem u)
  unfold f_X6_pilgrimItem
  refine go_aload_n 0 rfl dX6_pilgrimItem_0 rfl ?_
  refine go_aload_n 0 rfl dX6_pilgrimItem_1 rfl ?_
  refine go_getR clX6 kt_86 0 (Nat.le_of_ble_eq_true rfl) (f := 87) (fun _ => rfl) gw207 dX6_pilgrimItem_2 ?_
  refine go_iconst (v := (1 : Int32)) dX6_pilgrimItem_5 (by decide) ?_
  refine go_ialdL kt_87 kr_87 kl_87 rfl dX6_pilgrimItem_6 ?_
  refine go_nm (fun x1 => ?_)
  refine go_bipush (v := (8 : Int32)) dX6_pilgrimItem_7 (by decide) ?_
  refine go_icmp_ge (tgt := 16) dX6_pilgrimItem_9 (by decide) ?_ ?_
  · refine go_iconst (v := (0 : Int32)) dX6_pilgrimItem_16 (by decide) ?_
    refine go_callVV (As := fun ad => [.int (0 : Int32)]) (g_X6_must (0 : Int32) u) mv_X6_must clX6 kt_86 gw284 rfl ⟨Nat.le_of_ble_eq_true rfl, Nat.le_of_ble_eq_true rfl⟩ rfl (Nat.le_of_ble_eq_true rfl) dX6_pilgrimItem_17 (fun r2 u3 => ?_)
    refine go_aload_n 0 rfl dX6_pilgrimItem_20 rfl ?_
    refine go_iconst (v := (0 : Int32)) dX6_pilgrimItem_21 (by decide) ?_
    refine go_bipush (v := (99 : Int32)) dX6_pilgrimItem_22 (by decide) ?_
    refine go_callVV (As := fun ad => [.int (0 : Int32), .int (99 : Int32)]) (g_X6_number (0 : Int32) (99 : Int32) u3) mv_X6_number clX6 kt_86 gw292 rfl ⟨Nat.le_of_ble_eq_true rfl, Nat.le_of_ble_eq_true rfl⟩ rfl (Nat.le_of_ble_eq_true rfl) dX6_pilgrimItem_24 (fun r4 u5 => ?_)
    refine go_aload_n 0 rfl dX6_pilgrimItem_27 rfl ?_
    refine go_getIL clX6 kt_86 10 (Nat.le_of_ble_eq_true rfl) (c := 4) (fun _ => rfl) kr_86 gw283 dX6_pilgrimItem_28 ?_
    refine go_nm (fun x6 => ?_)
    refine go_istore_n (lv' := [(1, .int x6), (0, .ref (ad 86))]) dX6_pilgrimItem_31 rfl (Nat.le_of_ble_eq_true rfl) rfl ?_
    refine go_iconst (v := (-1 : Int32)) dX6_pilgrimItem_32 (by decide) ?_
    refine go_istore_n (lv' := [(2, .int (-1 : Int32)), (1, .int x6), (0, .ref (ad 86))]) dX6_pilgrimItem_33 rfl (Nat.le_of_ble_eq_true rfl) rfl ?_
    refine go_aload_n 2 rfl dX6_pilgrimItem_34 rfl ?_
    refine go_callVL (As := fun ad => []) (g_X6_word  u5) mv_X6_word clX6 kt_86 gw285 rfl ⟨Nat.le_of_ble_eq_true rfl, Nat.le_of_ble_eq_true rfl⟩ rfl (Nat.le_of_ble_eq_true rfl) dX6_pilgrimItem_35 (fun r7 u8 => ?_)
    refine go_ldc2 (v := (690671251 : Int64)) gw298 dX6_pilgrimItem_38 ?_
    refine go_lcmp dX6_pilgrimItem_41 ?_
    refine go_if_ne (tgt := 68) dX6_pilgrimItem_42 (by decide) ?_ ?_
    · refine go_aload_n 2 rfl dX6_pilgrimItem_68 rfl ?_
      refine go_getIL clX6 kt_86 11 (Nat.le_of_ble_eq_true rfl) (c := 5) (fun _ => rfl) kr_86 gw279 dX6_pilgrimItem_69 ?_
      refine go_if_ne (tgt := 82) dX6_pilgrimItem_72 (by decide) ?_ ?_
      · exact go_vret rfl dX6_pilgrimItem_82
      · refine go_aload_n 2 rfl dX6_pilgrimItem_75 rfl ?_
        refine go_iload_n 1 rfl dX6_pilgrimItem_76 rfl ?_
        refine go_iload_n 0 rfl dX6_pilgrimItem_77 rfl ?_
        refine go_callVI (As := fun ad => [.int x6, .int (-1 : Int32)]) (g_X6_comes x6 (-1 : Int32) u8) mv_X6_comes clX6 kt_86 gw239 rfl ⟨Nat.le_of_ble_eq_true rfl, Nat.le_of_ble_eq_true rfl⟩ rfl (Nat.le_of_ble_eq_true rfl) dX6_pilgrimItem_78 (fun r9 u10 => ?_)
        refine go_istore_n (lv' := [(3, .int r9), (2, .int (-1 : Int32)), (1, .int x6), (0, .ref (ad 86))]) dX6_pilgrimItem_81 rfl (Nat.le_of_ble_eq_true rfl) rfl ?_
        exact go_vret rfl dX6_pilgrimItem_82
    · refine go_aload_n 2 rfl dX6_pilgrimItem_45 rfl ?_
      refine go_iconst (v := (1 : Int32)) dX6_pilgrimItem_46 (by decide) ?_
      refine go_callVV (As := fun ad => [.int (1 : Int32)]) (g_X6_must (1 : Int32) u8) mv_X6_must clX6 kt_86 gw284 rfl ⟨Nat.le_of_ble_eq_true rfl, Nat.le_of_ble_eq_true rfl⟩ rfl (Nat.le_of_ble_eq_true rfl) dX6_pilgrimItem_47 (fun r11 u12 => ?_)
      refine go_aload_n 2 rfl dX6_pilgrimItem_50 rfl ?_
      refine go_iconst (v := (0 : Int32)) dX6_pilgrimItem_51 (by decide) ?_
      refine go_aload_n 2 rfl dX6_pilgrimItem_52 rfl ?_
      refine go_getR clX6 kt_86 0 (Nat.le_of_ble_eq_true rfl) (f := 87) (fun _ => rfl) gw207 dX6_pilgrimItem_53 ?_
      refine go_iconst (v := (0 : Int32)) dX6_pilgrimItem_56 (by decide) ?_
      refine go_ialdL kt_87 kr_87 kl_87 rfl dX6_pilgrimItem_57 ?_
      refine go_nm (fun x13 => ?_)
      refine go_iconst (v := (1 : Int32)) dX6_pilgrimItem_58 (by decide) ?_
      refine go_isub dX6_pilgrimItem_59 ?_
      refine go_callVV (As := fun ad => [.int (0 : Int32), .int (x13 - (1 : Int32))]) (g_X6_number (0 : Int32) (x13 - (1 : Int32)) u12) mv_X6_number clX6 kt_86 gw292 rfl ⟨Nat.le_of_ble_eq_true rfl, Nat.le_of_ble_eq_true rfl⟩ rfl (Nat.le_of_ble_eq_true rfl) dX6_pilgrimItem_60 (fun r14 u15 => ?_)
      refine go_aload_n 2 rfl dX6_pilgrimItem_63 rfl ?_
      refine go_getIL clX6 kt_86 10 (Nat.le_of_ble_eq_true rfl) (c := 4) (fun _ => rfl) kr_86 gw283 dX6_pilgrimItem_64 ?_
      refine go_nm (fun x16 => ?_)
      refine go_istore_n (lv' := [(2, .int x16), (1, .int x6), (0, .ref (ad 86))]) dX6_pilgrimItem_67 rfl (Nat.le_of_ble_eq_true rfl) rfl ?_
      refine go_aload_n 2 rfl dX6_pilgrimItem_68 rfl ?_
      refine go_getIL clX6 kt_86 11 (Nat.le_of_ble_eq_true rfl) (c := 5) (fun _ => rfl) kr_86 gw279 dX6_pilgrimItem_69 ?_
      refine go_if_ne (tgt := 82) dX6_pilgrimItem_72 (by decide) ?_ ?_
      · exact go_vret rfl dX6_pilgrimItem_82
      · refine go_aload_n 2 rfl dX6_pilgrimItem_75 rfl ?_
        refine go_iload_n 1 rfl dX6_pilgrimItem_76 rfl ?_
        refine go_iload_n 0 rfl dX6_pilgrimItem_77 rfl ?_
        refine go_callVI (As := fun ad => [.int x6, .int x16]) (g_X6_comes x6 x16 u15) mv_X6_comes clX6 kt_86 gw239 rfl ⟨Nat.le_of_ble_eq_true rfl, Nat.le_of_ble_eq_true rfl⟩ rfl (Nat.le_of_ble_eq_true rfl) dX6_pilgrimItem_78 (fun r17 u18 => ?_)
        refine go_istore_n (lv' := [(3, .int r17), (2, .int x16), (1, .int x6), (0, .ref (ad 86))]) dX6_pilgrimItem_81 rfl (Nat.le_of_ble_eq_true rfl) rfl ?_
        exact go_vret rfl dX6_pilgrimItem_82
  · refine go_iconst (v := (1 : Int32)) dX6_pilgrimItem_12 (by decide) ?_
    refine go_goto (tgt := 17) dX6_pilgrimItem_13 (by decide) ?_
    refine go_callVV (As := fun ad => [.int (1 : Int32)]) (g_X6_must (1 : Int32) u) mv_X6_must clX6 kt_86 gw284 rfl ⟨Nat.le_of_ble_eq_true rfl, Nat.le_of_ble_eq_true rfl⟩ rfl (Nat.le_of_ble_eq_true rfl) dX6_pilgrimItem_17 (fun r19 u20 => ?_)
    refine go_aload_n 0 rfl dX6_pilgrimItem_20 rfl ?_
    refine go_iconst (v := (0 : Int32)) dX6_pilgrimItem_21 (by decide) ?_
    refine go_bipush (v := (99 : Int32)) dX6_pilgrimItem_22 (by decide) ?_
    refine go_callVV (As := fun ad => [.int (0 : Int32), .int (99 : Int32)]) (g_X6_number (0 : Int32) (99 : Int32) u20) mv_X6_number clX6 kt_86 gw292 rfl ⟨Nat.le_of_ble_eq_true rfl, Nat.le_of_ble_eq_true rfl⟩ rfl (Nat.le_of_ble_eq_true rfl) dX6_pilgrimItem_24 (fun r21 u22 => ?_)
    refine go_aload_n 0 rfl dX6_pilgrimItem_27 rfl ?_
    refine go_getIL clX6 kt_86 10 (Nat.le_of_ble_eq_true rfl) (c := 4) (fun _ => rfl) kr_86 gw283 dX6_pilgrimItem_28 ?_
    refine go_nm (fun x23 => ?_)
    refine go_istore_n (lv' := [(1, .int x23), (0, .ref (ad 86))]) dX6_pilgrimItem_31 rfl (Nat.le_of_ble_eq_true rfl) rfl ?_
    refine go_iconst (v := (-1 : Int32)) dX6_pilgrimItem_32 (by decide) ?_
    refine go_istore_n (lv' := [(2, .int (-1 : Int32)), (1, .int x23), (0, .ref (ad 86))]) dX6_pilgrimItem_33 rfl (Nat.le_of_ble_eq_true rfl) rfl ?_
    refine go_aload_n 2 rfl dX6_pilgrimItem_34 rfl ?_
    refine go_callVL (As := fun ad => []) (g_X6_word  u22) mv_X6_word clX6 kt_86 gw285 rfl ⟨Nat.le_of_ble_eq_true rfl, Nat.le_of_ble_eq_true rfl⟩ rfl (Nat.le_of_ble_eq_true rfl) dX6_pilgrimItem_35 (fun r24 u25 => ?_)
    refine go_ldc2 (v := (690671251 : Int64)) gw298 dX6_pilgrimItem_38 ?_
    refine go_lcmp dX6_pilgrimItem_41 ?_
    refine go_if_ne (tgt := 68) dX6_pilgrimItem_42 (by decide) ?_ ?_
    · refine go_aload_n 2 rfl dX6_pilgrimItem_68 rfl ?_
      refine go_getIL clX6 kt_86 11 (Nat.le_of_ble_eq_true rfl) (c := 5) (fun _ => rfl) kr_86 gw279 dX6_pilgrimItem_69 ?_
      refine go_if_ne (tgt := 82) dX6_pilgrimItem_72 (by decide) ?_ ?_
      · exact go_vret rfl dX6_pilgrimItem_82
      · refine go_aload_n 2 rfl dX6_pilgrimItem_75 rfl ?_
        refine go_iload_n 1 rfl dX6_pilgrimItem_76 rfl ?_
        refine go_iload_n 0 rfl dX6_pilgrimItem_77 rfl ?_
        refine go_callVI (As := fun ad => [.int x23, .int (-1 : Int32)]) (g_X6_comes x23 (-1 : Int32) u25) mv_X6_comes clX6 kt_86 gw239 rfl ⟨Nat.le_of_ble_eq_true rfl, Nat.le_of_ble_eq_true rfl⟩ rfl (Nat.le_of_ble_eq_true rfl) dX6_pilgrimItem_78 (fun r26 u27 => ?_)
        refine go_istore_n (lv' := [(3, .int r26), (2, .int (-1 : Int32)), (1, .int x23), (0, .ref (ad 86))]) dX6_pilgrimItem_81 rfl (Nat.le_of_ble_eq_true rfl) rfl ?_
        exact go_vret rfl dX6_pilgrimItem_82
    · refine go_aload_n 2 rfl dX6_pilgrimItem_45 rfl ?_
      refine go_iconst (v := (1 : Int32)) dX6_pilgrimItem_46 (by decide) ?_
      refine go_callVV (As := fun ad => [.int (1 : Int32)]) (g_X6_must (1 : Int32) u25) mv_X6_must clX6 kt_86 gw284 rfl ⟨Nat.le_of_ble_eq_true rfl, Nat.le_of_ble_eq_true rfl⟩ rfl (Nat.le_of_ble_eq_true rfl) dX6_pilgrimItem_47 (fun r28 u29 => ?_)
      refine go_aload_n 2 rfl dX6_pilgrimItem_50 rfl ?_
      refine go_iconst (v := (0 : Int32)) dX6_pilgrimItem_51 (by decide) ?_
      refine go_aload_n 2 rfl dX6_pilgrimItem_52 rfl ?_
      refine go_getR clX6 kt_86 0 (Nat.le_of_ble_eq_true rfl) (f := 87) (fun _ => rfl) gw207 dX6_pilgrimItem_53 ?_
      refine go_iconst (v := (0 : Int32)) dX6_pilgrimItem_56 (by decide) ?_
      refine go_ialdL kt_87 kr_87 kl_87 rfl dX6_pilgrimItem_57 ?_
      refine go_nm (fun x30 => ?_)
      refine go_iconst (v := (1 : Int32)) dX6_pilgrimItem_58 (by decide) ?_
      refine go_isub dX6_pilgrimItem_59 ?_
      refine go_callVV (As := fun ad => [.int (0 : Int32), .int (x30 - (1 : Int32))]) (g_X6_number (0 : Int32) (x30 - (1 : Int32)) u29) mv_X6_number clX6 kt_86 gw292 rfl ⟨Nat.le_of_ble_eq_true rfl, Nat.le_of_ble_eq_true rfl⟩ rfl (Nat.le_of_ble_eq_true rfl) dX6_pilgrimItem_60 (fun r31 u32 => ?_)
      refine go_aload_n 2 rfl dX6_pilgrimItem_63 rfl ?_
      refine go_getIL clX6 kt_86 10 (Nat.le_of_ble_eq_true rfl) (c := 4) (fun _ => rfl) kr_86 gw283 dX6_pilgrimItem_64 ?_
      refine go_nm (fun x33 => ?_)
      refine go_istore_n (lv' := [(2, .int x33), (1, .int x23), (0, .ref (ad 86))]) dX6_pilgrimItem_67 rfl (Nat.le_of_ble_eq_true rfl) rfl ?_
      refine go_aload_n 2 rfl dX6_pilgrimItem_68 rfl ?_
      refine go_getIL clX6 kt_86 11 (Nat.le_of_ble_eq_true rfl) (c := 5) (fun _ => rfl) kr_86 gw279 dX6_pilgrimItem_69 ?_
      refine go_if_ne (tgt := 82) dX6_pilgrimItem_72 (by decide) ?_ ?_
      · exact go_vret rfl dX6_pilgrimItem_82
      · refine go_aload_n 2 rfl dX6_pilgrimItem_75 rfl ?_
        refine go_iload_n 1 rfl dX6_pilgrimItem_76 rfl ?_
        refine go_iload_n 0 rfl dX6_pilgrimItem_77 rfl ?_
        refine go_callVI (As := fun ad => [.int x23, .int x33]) (g_X6_comes x23 x33 u32) mv_X6_comes clX6 kt_86 gw239 rfl ⟨Nat.le_of_ble_eq_true rfl, Nat.le_of_ble_eq_true rfl⟩ rfl (Nat.le_of_ble_eq_true rfl) dX6_pilgrimItem_78 (fun r34 u35 => ?_)
        refine go_istore_n (lv' := [(3, .int r34), (2, .int x33), (1, .int x23), (0, .ref (ad 86))]) dX6_pilgrimItem_81 rfl (Nat.le_of_ble_eq_true rfl) rfl ?_
        exact go_vret rfl dX6_pilgrimItem_82
def f_X6_item (u : Uw) : Option (Unit × Uw) :=
  bd (f_X6_kindHere  u) fun r1 u2 =>
  bd (f_X6_word  u2) fun r3 u4 =>
  if r1 < 0 then
  (if (lg_cmp r3 (17494690093 : Int64)) = 0 then
  (bd (f_X6_pilgrimItem  u4) fun r26 u27 =>
  some ((), u27))
  else
  (if (lg_cmp r3 (21583496 : Int64)) = 0 then
  (bd (f_X6_must (1 : Int32) u4) fun r19 u20 =>
  bd (f_X6_number (0 : Int32) (5 : Int32) u20) fun r21 u22 =>
  if (u22.1 25 5) = 0 then
  (nm (w1 u22 20 (4 : Int32).toNatClampNeg (u22.1 25 4)) fun u23 =>
  some ((), u23))
  else
  (nm (u22.1 20 (4 : Int32).toNatClampNeg) fun x24 =>
  nm (w1 u22 20 (4 : Int32).toNatClampNeg x24) fun u25 =>
  some ((), u25)))
  else
  (if (lg_cmp r3 (17292466 : Int64)) = 0 then
  (bd (f_X6_must (1 : Int32) u4) fun r12 u13 =>
  bd (f_X6_number (1 : Int32) (50 : Int32) u13) fun r14 u15 =>
  if (u15.1 25 5) = 0 then
  (nm (w1 u15 20 (3 : Int32).toNatClampNeg (u15.1 25 4)) fun u16 =>
  some ((), u16))
  else
  (nm (u15.1 20 (3 : Int32).toNatClampNeg) fun x17 =>
  nm (w1 u15 20 (3 : Int32).toNatClampNeg x17) fun u18 =>
  some ((), u18)))
  else
  (bd (f_X6_must (0 : Int32) u4) fun r5 u6 =>
  bd (f_X6_number (1 : Int32) (50 : Int32) u6) fun r7 u8 =>
  if (u8.1 25 5) = 0 then
  (nm (w1 u8 20 (3 : Int32).toNatClampNeg (u8.1 25 4)) fun u9 =>
  some ((), u9))
  else
  (nm (u8.1 20 (3 : Int32).toNatClampNeg) fun x10 =>
  nm (w1 u8 20 (3 : Int32).toNatClampNeg x10) fun u11 =>
  some ((), u11))))))
  else
  (bd (f_X6_calendarItem r1 u4) fun r28 u29 =>
  some ((), u29))
set_option maxHeartbeats 4000000 in
set_option maxRecDepth 100000 in
theorem g_X6_item (u : Uw) : ∀ l, Con l yX6_item mi_X6_item ivV (fun ad => [.ref (ad 86)]) u (f_X6_item u) := by
  refine con_of (by decide) rfl (fun _ => Nat.le_of_ble_eq_true rfl) (fun X ad => ?_)
  show Go X ad mi_X6_item ivV 0 [(0, .ref (ad 86))] [] u (f_X6_item u)
  unfold f_X6_item
  refine go_aload_n 0 rfl dX6_item_0 rfl ?_
  refine go_callVI (As := fun ad => []) (g_X6_kindHere  u) mv_X6_kindHere clX6 kt_86 gw299 rfl ⟨Nat.le_of_ble_eq_true rfl, Nat.le_of_ble_eq_true rfl⟩ rfl (Nat.le_of_ble_eq_true rfl) dX6_item_1 (fun r1 u2 => ?_)
  refine go_istore_n (lv' := [(1, .int r1), (0, .ref (ad 86))]) dX6_item_4 rfl (Nat.le_of_ble_eq_true rfl) rfl ?_
  refine go_aload_n 1 rfl dX6_item_5 rfl ?_
  refine go_callVL (As := fun ad => []) (g_X6_word  u2) mv_X6_word clX6 kt_86 gw285 rfl ⟨Nat.le_of_ble_eq_true rfl, Nat.le_of_ble_eq_true rfl⟩ rfl (Nat.le_of_ble_eq_true rfl) dX6_item_6 (fun r3 u4 => ?_)
  refine go_lstore_n (lv' := [(2, .long r3), (1, .int r1), (0, .ref (ad 86))]) dX6_item_9 rfl (Nat.le_of_ble_eq_true rfl) rfl ?_
  refine go_iload_n 1 rfl dX6_item_10 rfl ?_
  refine go_if_lt (tgt := 22) dX6_item_11 (by decide) ?_ ?_
  · refine go_lload_n 0 rfl dX6_item_22 rfl ?_
    refine go_ldc2 (v := (17494690093 : Int64)) gw300 dX6_item_23 ?_
    refine go_lcmp dX6_item_26 ?_
    refine go_if_ne (tgt := 37) dX6_item_27 (by decide) ?_ ?_
    · refine go_lload_n 0 rfl dX6_item_37 rfl ?_
      refine go_ldc2 (v := (21583496 : Int64)) gw301 dX6_item_38 ?_
      refine go_lcmp dX6_item_41 ?_
      refine go_if_ne (tgt := 49) dX6_item_42 (by decide) ?_ ?_
      · refine go_iconst (v := (0 : Int32)) dX6_item_49 (by decide) ?_
        refine go_istore (lv' := [(4, .int (0 : Int32)), (2, .long r3), (1, .int r1), (0, .ref (ad 86))]) dX6_item_50 (Nat.le_of_ble_eq_true rfl) rfl ?_
        refine go_aload_n 3 rfl dX6_item_52 rfl ?_
        refine go_iload 0 rfl dX6_item_53 ?_
        refine go_if_ne_f (tgt := 66) (by decide) dX6_item_55 (by decide) ?_
        refine go_lload_n 1 rfl dX6_item_58 rfl ?_
        refine go_ldc2 (v := (17292466 : Int64)) gw302 dX6_item_59 ?_
        refine go_lcmp dX6_item_62 ?_
        refine go_if_ne (tgt := 70) dX6_item_63 (by decide) ?_ ?_
        · refine go_iconst (v := (0 : Int32)) dX6_item_70 (by decide) ?_
          refine go_callVV (As := fun ad => [.int (0 : Int32)]) (g_X6_must (0 : Int32) u4) mv_X6_must clX6 kt_86 gw284 rfl ⟨Nat.le_of_ble_eq_true rfl, Nat.le_of_ble_eq_true rfl⟩ rfl (Nat.le_of_ble_eq_true rfl) dX6_item_71 (fun r5 u6 => ?_)
          refine go_aload_n 3 rfl dX6_item_74 rfl ?_
          refine go_iload 0 rfl dX6_item_75 ?_
          refine go_if_eq_t (tgt := 84) (by decide) dX6_item_77 (by decide) ?_
          refine go_iconst (v := (1 : Int32)) dX6_item_84 (by decide) ?_
          refine go_iload 0 rfl dX6_item_85 ?_
          refine go_if_eq_t (tgt := 94) (by decide) dX6_item_87 (by decide) ?_
          refine go_bipush (v := (50 : Int32)) dX6_item_94 (by decide) ?_
          refine go_callVV (As := fun ad => [.int (1 : Int32), .int (50 : Int32)]) (g_X6_number (1 : Int32) (50 : Int32) u6) mv_X6_number clX6 kt_86 gw292 rfl ⟨Nat.le_of_ble_eq_true rfl, Nat.le_of_ble_eq_true rfl⟩ rfl (Nat.le_of_ble_eq_true rfl) dX6_item_96 (fun r7 u8 => ?_)
          refine go_iload 0 rfl dX6_item_99 ?_
          refine go_if_eq_t (tgt := 108) (by decide) dX6_item_101 (by decide) ?_
          refine go_iconst (v := (3 : Int32)) dX6_item_108 (by decide) ?_
          refine go_istore (lv' := [(5, .int (3 : Int32)), (4, .int (0 : Int32)), (2, .long r3), (1, .int r1), (0, .ref (ad 86))]) dX6_item_109 (Nat.le_of_ble_eq_true rfl) rfl ?_
          refine go_aload_n 4 rfl dX6_item_111 rfl ?_
          refine go_getR clX6 kt_86 0 (Nat.le_of_ble_eq_true rfl) (f := 87) (fun _ => rfl) gw207 dX6_item_112 ?_
          refine go_iload 0 rfl dX6_item_115 ?_
          refine go_aload_n 4 rfl dX6_item_117 rfl ?_
          refine go_getIL clX6 kt_86 11 (Nat.le_of_ble_eq_true rfl) (c := 5) (fun _ => rfl) kr_86 gw279 dX6_item_118 ?_
          refine go_if_eq (tgt := 134) dX6_item_121 (by decide) ?_ ?_
          · refine go_aload_n 4 rfl dX6_item_134 rfl ?_
            refine go_getIL clX6 kt_86 10 (Nat.le_of_ble_eq_true rfl) (c := 4) (fun _ => rfl) kr_86 gw283 dX6_item_135 ?_
            refine go_iastL kt_87 kr_87 kl_87 rfl dX6_item_138 ?_
            refine go_nmU (fun u9 => ?_)
            exact go_vret rfl dX6_item_139
          · refine go_aload_n 4 rfl dX6_item_124 rfl ?_
            refine go_getR clX6 kt_86 0 (Nat.le_of_ble_eq_true rfl) (f := 87) (fun _ => rfl) gw207 dX6_item_125 ?_
            refine go_iload 0 rfl dX6_item_128 ?_
            refine go_ialdL kt_87 kr_87 kl_87 rfl dX6_item_130 ?_
            refine go_nm (fun x10 => ?_)
            refine go_goto (tgt := 138) dX6_item_131 (by decide) ?_
            refine go_iastL kt_87 kr_87 kl_87 rfl dX6_item_138 ?_
            refine go_nmU (fun u11 => ?_)
            exact go_vret rfl dX6_item_139
        · refine go_iconst (v := (1 : Int32)) dX6_item_66 (by decide) ?_
          refine go_goto (tgt := 71) dX6_item_67 (by decide) ?_
          refine go_callVV (As := fun ad => [.int (1 : Int32)]) (g_X6_must (1 : Int32) u4) mv_X6_must clX6 kt_86 gw284 rfl ⟨Nat.le_of_ble_eq_true rfl, Nat.le_of_ble_eq_true rfl⟩ rfl (Nat.le_of_ble_eq_true rfl) dX6_item_71 (fun r12 u13 => ?_)
          refine go_aload_n 3 rfl dX6_item_74 rfl ?_
          refine go_iload 0 rfl dX6_item_75 ?_
          refine go_if_eq_t (tgt := 84) (by decide) dX6_item_77 (by decide) ?_
          refine go_iconst (v := (1 : Int32)) dX6_item_84 (by decide) ?_
          refine go_iload 0 rfl dX6_item_85 ?_
          refine go_if_eq_t (tgt := 94) (by decide) dX6_item_87 (by decide) ?_
          refine go_bipush (v := (50 : Int32)) dX6_item_94 (by decide) ?_
          refine go_callVV (As := fun ad => [.int (1 : Int32), .int (50 : Int32)]) (g_X6_number (1 : Int32) (50 : Int32) u13) mv_X6_number clX6 kt_86 gw292 rfl ⟨Nat.le_of_ble_eq_true rfl, Nat.le_of_ble_eq_true rfl⟩ rfl (Nat.le_of_ble_eq_true rfl) dX6_item_96 (fun r14 u15 => ?_)
          refine go_iload 0 rfl dX6_item_99 ?_
          refine go_if_eq_t (tgt := 108) (by decide) dX6_item_101 (by decide) ?_
          refine go_iconst (v := (3 : Int32)) dX6_item_108 (by decide) ?_
          refine go_istore (lv' := [(5, .int (3 : Int32)), (4, .int (0 : Int32)), (2, .long r3), (1, .int r1), (0, .ref (ad 86))]) dX6_item_109 (Nat.le_of_ble_eq_true rfl) rfl ?_
          refine go_aload_n 4 rfl dX6_item_111 rfl ?_
          refine go_getR clX6 kt_86 0 (Nat.le_of_ble_eq_true rfl) (f := 87) (fun _ => rfl) gw207 dX6_item_112 ?_
          refine go_iload 0 rfl dX6_item_115 ?_
          refine go_aload_n 4 rfl dX6_item_117 rfl ?_
          refine go_getIL clX6 kt_86 11 (Nat.le_of_ble_eq_true rfl) (c := 5) (fun _ => rfl) kr_86 gw279 dX6_item_118 ?_
          refine go_if_eq (tgt := 134) dX6_item_121 (by decide) ?_ ?_
          · refine go_aload_n 4 rfl dX6_item_134 rfl ?_
            refine go_getIL clX6 kt_86 10 (Nat.le_of_ble_eq_true rfl) (c := 4) (fun _ => rfl) kr_86 gw283 dX6_item_135 ?_
            refine go_iastL kt_87 kr_87 kl_87 rfl dX6_item_138 ?_
            refine go_nmU (fun u16 => ?_)
            exact go_vret rfl dX6_item_139
          · refine go_aload_n 4 rfl dX6_item_124 rfl ?_
            refine go_getR clX6 kt_86 0 (Nat.le_of_ble_eq_true rfl) (f := 87) (fun _ => rfl) gw207 dX6_item_125 ?_
            refine go_iload 0 rfl dX6_item_128 ?_
            refine go_ialdL kt_87 kr_87 kl_87 rfl dX6_item_130 ?_
            refine go_nm (fun x17 => ?_)
            refine go_goto (tgt := 138) dX6_item_131 (by decide) ?_
            refine go_iastL kt_87 kr_87 kl_87 rfl dX6_item_138 ?_
            refine go_nmU (fun u18 => ?_)
            exact go_vret rfl dX6_item_139
      · refine go_iconst (v := (1 : Int32)) dX6_item_45 (by decide) ?_
        refine go_goto (tgt := 50) dX6_item_46 (by decide) ?_
        refine go_istore (lv' := [(4, .int (1 : Int32)), (2, .long r3), (1, .int r1), (0, .ref (ad 86))]) dX6_item_50 (Nat.le_of_ble_eq_true rfl) rfl ?_
        refine go_aload_n 3 rfl dX6_item_52 rfl ?_
        refine go_iload 0 rfl dX6_item_53 ?_
        refine go_if_ne_t (tgt := 66) (by decide) dX6_item_55 (by decide) ?_
        refine go_iconst (v := (1 : Int32)) dX6_item_66 (by decide) ?_
        refine go_goto (tgt := 71) dX6_item_67 (by decide) ?_
        refine go_callVV (As := fun ad => [.int (1 : Int32)]) (g_X6_must (1 : Int32) u4) mv_X6_must clX6 kt_86 gw284 rfl ⟨Nat.le_of_ble_eq_true rfl, Nat.le_of_ble_eq_true rfl⟩ rfl (Nat.le_of_ble_eq_true rfl) dX6_item_71 (fun r19 u20 => ?_)
        refine go_aload_n 3 rfl dX6_item_74 rfl ?_
        refine go_iload 0 rfl dX6_item_75 ?_
        refine go_if_eq_f (tgt := 84) (by decide) dX6_item_77 (by decide) ?_
        refine go_iconst (v := (0 : Int32)) dX6_item_80 (by decide) ?_
        refine go_goto (tgt := 85) dX6_item_81 (by decide) ?_
        refine go_iload 0 rfl dX6_item_85 ?_
        refine go_if_eq_f (tgt := 94) (by decide) dX6_item_87 (by decide) ?_
        refine go_iconst (v := (5 : Int32)) dX6_item_90 (by decide) ?_
        refine go_goto (tgt := 96) dX6_item_91 (by decide) ?_
        refine go_callVV (As := fun ad => [.int (0 : Int32), .int (5 : Int32)]) (g_X6_number (0 : Int32) (5 : Int32) u20) mv_X6_number clX6 kt_86 gw292 rfl ⟨Nat.le_of_ble_eq_true rfl, Nat.le_of_ble_eq_true rfl⟩ rfl (Nat.le_of_ble_eq_true rfl) dX6_item_96 (fun r21 u22 => ?_)
        refine go_iload 0 rfl dX6_item_99 ?_
        refine go_if_eq_f (tgt := 108) (by decide) dX6_item_101 (by decide) ?_
        refine go_iconst (v := (4 : Int32)) dX6_item_104 (by decide) ?_
        refine go_goto (tgt := 109) dX6_item_105 (by decide) ?_
        refine go_istore (lv' := [(5, .int (4 : Int32)), (4, .int (1 : Int32)), (2, .long r3), (1, .int r1), (0, .ref (ad 86))]) dX6_item_109 (Nat.le_of_ble_eq_true rfl) rfl ?_
        refine go_aload_n 4 rfl dX6_item_111 rfl ?_
        refine go_getR clX6 kt_86 0 (Nat.le_of_ble_eq_true rfl) (f := 87) (fun _ => rfl) gw207 dX6_item_112 ?_
        refine go_iload 0 rfl dX6_item_115 ?_
        refine go_aload_n 4 rfl dX6_item_117 rfl ?_
        refine go_getIL clX6 kt_86 11 (Nat.le_of_ble_eq_true rfl) (c := 5) (fun _ => rfl) kr_86 gw279 dX6_item_118 ?_
        refine go_if_eq (tgt := 134) dX6_item_121 (by decide) ?_ ?_
        · refine go_aload_n 4 rfl dX6_item_134 rfl ?_
          refine go_getIL clX6 kt_86 10 (Nat.le_of_ble_eq_true rfl) (c := 4) (fun _ => rfl) kr_86 gw283 dX6_item_135 ?_
          refine go_iastL kt_87 kr_87 kl_87 rfl dX6_item_138 ?_
          refine go_nmU (fun u23 => ?_)
          exact go_vret rfl dX6_item_139
        · refine go_aload_n 4 rfl dX6_item_124 rfl ?_
          refine go_getR clX6 kt_86 0 (Nat.le_of_ble_eq_true rfl) (f := 87) (fun _ => rfl) gw207 dX6_item_125 ?_
          refine go_iload 0 rfl dX6_item_128 ?_
          refine go_ialdL kt_87 kr_87 kl_87 rfl dX6_item_130 ?_
          refine go_nm (fun x24 => ?_)
          refine go_goto (tgt := 138) dX6_item_131 (by decide) ?_
          refine go_iastL kt_87 kr_87 kl_87 rfl dX6_item_138 ?_
          refine go_nmU (fun u25 => ?_)
          exact go_vret rfl dX6_item_139
    · refine go_aload_n 2 rfl dX6_item_30 rfl ?_
      refine go_callVV (As := fun ad => []) (g_X6_pilgrimItem  u4) mv_X6_pilgrimItem clX6 kt_86 gw303 rfl ⟨Nat.le_of_ble_eq_true rfl, Nat.le_of_ble_eq_true rfl⟩ rfl (Nat.le_of_ble_eq_true rfl) dX6_item_31 (fun r26 u27 => ?_)
      refine go_goto (tgt := 139) dX6_item_34 (by decide) ?_
      exact go_vret rfl dX6_item_139
  · refine go_aload_n 2 rfl dX6_item_14 rfl ?_
    refine go_iload_n 1 rfl dX6_item_15 rfl ?_
    refine go_callVV (As := fun ad => [.int r1]) (g_X6_calendarItem r1 u4) mv_X6_calendarItem clX6 kt_86 gw304 rfl ⟨Nat.le_of_ble_eq_true rfl, Nat.le_of_ble_eq_true rfl⟩ rfl (Nat.le_of_ble_eq_true rfl) dX6_item_16 (fun r28 u29 => ?_)
    refine go_goto (tgt := 139) dX6_item_19 (by decide) ?_
    exact go_vret rfl dX6_item_139
