/-! methods: what each does to the world, and that its bytecode does so (laid by wip/whole/gen) -/
def b_X6_book_24 (ih24 : Int32 × Int32 × Int32 × Uw → Option (Int32 × Uw)) (s : Int32 × Int32 × Int32 × Uw) : Option (Int32 × Uw) :=
  ck (inb s.1 4) <|
  nm (s.2.2.2.1 28 s.1.toNatClampNeg) fun x6 =>
  if x6 ≤ s.2.2.1 then
  (nm (s.2.2.2.1 28 s.1.toNatClampNeg) fun x7 =>
  bd (f_X6_takesBack x7 s.2.2.2) fun r8 u9 =>
  some (r8, u9))
  else
  (nm (s.2.2.2.1 27 s.1.toNatClampNeg) fun x10 =>
  bd (f_X6_isOf s.2.1 (0 : Int32) s.2.2.2) fun r11 u12 =>
  bd (f_X6_narrowed x10 (r11.toInt64) u12) fun r13 u14 =>
  ck (inb (((40 : Int32) * s.1) + s.2.2.1) 160) <|
  nm (w2 u14 29 (((40 : Int32) * s.1) + s.2.2.1).toNatClampNeg r13) fun u16 =>
  bd (f_X6_day  u16) fun r17 u18 =>
  ih24 (s.1, s.2.1, (s.2.2.1 + (1 : Int32)), u18))
def f_X6_book (a1 : Int32) (a2 : Int32) (u : Uw) : Option (Int32 × Uw) :=
  bd (f_X6_wrongBook a1 a2 u) fun r1 u2 =>
  if r1 = 0 then
  (bd (f_X6_laysAside  u2) fun r3 u4 =>
  lp b_X6_book_24 2100 (a1, a2, (0 : Int32), u4))
  else
  (bd (f_X6_finds r1 u2) fun r19 u20 =>
  some (r19, u20))
set_option maxHeartbeats 4000000 in
set_option maxRecDepth 100000 in
theorem gl_X6_book_24 (X : Cx) (ad : Nat → Nat) : ∀ (n : Nat) (s : Int32 × Int32 × Int32 × Uw), Go X ad mi_X6_book ivI 24 [(0, .ref (ad 86)), (1, .int s.1), (2, .int s.2.1), (4, .int s.2.2.1)] [] s.2.2.2 (lp b_X6_book_24 n s) := by
  refine go_lp (G := fun (s : Int32 × Int32 × Int32 × Uw) o => Go X ad mi_X6_book ivI 24 [(0, .ref (ad 86)), (1, .int s.1), (2, .int s.2.1), (4, .int s.2.2.1)] [] s.2.2.2 o) (fun _ => go_none) (fun ih24 hih24 s => ?_)
  show Go X ad mi_X6_book ivI 24 [(0, .ref (ad 86)), (1, .int s.1), (2, .int s.2.1), (4, .int s.2.2.1)] [] s.2.2.2 (b_X6_book_24 ih24 s)
  unfold b_X6_book_24
  refine go_iload 3 rfl dX6_book_24 ?_
  refine go_aload_n 0 rfl dX6_book_26 rfl ?_
  refine go_getR clX6 kt_86 13 (Nat.le_of_ble_eq_true rfl) (f := 94) (fun _ => rfl) gw311 dX6_book_27 ?_
  refine go_iload_n 1 rfl dX6_book_30 rfl ?_
  refine go_ck (fun h5 => ?_)
  refine go_ialdL kt_94 kr_94 kl_94 h5 dX6_book_31 ?_
  refine go_nm (fun x6 => ?_)
  refine go_icmp_ge (tgt := 73) dX6_book_32 (by decide) ?_ ?_
  · refine go_aload_n 0 rfl dX6_book_73 rfl ?_
    refine go_aload_n 0 rfl dX6_book_74 rfl ?_
    refine go_getR clX6 kt_86 13 (Nat.le_of_ble_eq_true rfl) (f := 94) (fun _ => rfl) gw311 dX6_book_75 ?_
    refine go_iload_n 1 rfl dX6_book_78 rfl ?_
    refine go_ialdL kt_94 kr_94 kl_94 h5 dX6_book_79 ?_
    refine go_nm (fun x7 => ?_)
    refine go_callVI (As := fun ad => [.int x7]) (g_X6_takesBack x7 s.2.2.2) mv_X6_takesBack clX6 kt_86 gw255 rfl ⟨Nat.le_of_ble_eq_true rfl, Nat.le_of_ble_eq_true rfl⟩ rfl (Nat.le_of_ble_eq_true rfl) dX6_book_80 (fun r8 u9 => ?_)
    exact go_iret rfl dX6_book_83
  · refine go_aload_n 0 rfl dX6_book_35 rfl ?_
    refine go_getR clX6 kt_86 14 (Nat.le_of_ble_eq_true rfl) (f := 95) (fun _ => rfl) gw312 dX6_book_36 ?_
    refine go_bipush (v := (40 : Int32)) dX6_book_39 (by decide) ?_
    refine go_iload_n 1 rfl dX6_book_41 rfl ?_
    refine go_imul dX6_book_42 ?_
    refine go_iload 3 rfl dX6_book_43 ?_
    refine go_iadd dX6_book_45 ?_
    refine go_aload_n 0 rfl dX6_book_46 rfl ?_
    refine go_getR clX6 kt_86 12 (Nat.le_of_ble_eq_true rfl) (f := 93) (fun _ => rfl) gw310 dX6_book_47 ?_
    refine go_iload_n 1 rfl dX6_book_50 rfl ?_
    refine go_ialdL kt_93 kr_93 kl_93 h5 dX6_book_51 ?_
    refine go_nm (fun x10 => ?_)
    refine go_aload_n 0 rfl dX6_book_52 rfl ?_
    refine go_iload_n 2 rfl dX6_book_53 rfl ?_
    refine go_iconst (v := (0 : Int32)) dX6_book_54 (by decide) ?_
    refine go_callVI (As := fun ad => [.int s.2.1, .int (0 : Int32)]) (g_X6_isOf s.2.1 (0 : Int32) s.2.2.2) mv_X6_isOf clX6 kt_86 gw242 rfl ⟨Nat.le_of_ble_eq_true rfl, Nat.le_of_ble_eq_true rfl⟩ rfl (Nat.le_of_ble_eq_true rfl) dX6_book_55 (fun r11 u12 => ?_)
    refine go_i2l dX6_book_58 ?_
    refine go_callSL (As := fun ad => [.int x10, .long (r11.toInt64)]) (g_X6_narrowed x10 (r11.toInt64) u12) mo_X6_narrowed gw316 gw317 rfl ⟨Nat.le_of_ble_eq_true rfl, Nat.le_of_ble_eq_true rfl⟩ rfl (Nat.le_of_ble_eq_true rfl) dX6_book_59 (fun r13 u14 => ?_)
    refine go_ck (fun h15 => ?_)
    refine go_lastL kt_95 kr_95 kl_95 h15 dX6_book_62 ?_
    refine go_nmU (fun u16 => ?_)
    refine go_aload_n 0 rfl dX6_book_63 rfl ?_
    refine go_callVV (As := fun ad => []) (g_X6_day  u16) mv_X6_day clX6 kt_86 gw246 rfl ⟨Nat.le_of_ble_eq_true rfl, Nat.le_of_ble_eq_true rfl⟩ rfl (Nat.le_of_ble_eq_true rfl) dX6_book_64 (fun r17 u18 => ?_)
    refine go_iinc (v := (s.2.2.1 + (1 : Int32))) (lv' := [(4, .int (s.2.2.1 + (1 : Int32))), (0, .ref (ad 86)), (1, .int s.1), (2, .int s.2.1)]) 3 rfl dX6_book_67 rfl (Nat.le_of_ble_eq_true rfl) rfl ?_
    refine go_goto (tgt := 24) dX6_book_70 (by decide) ?_
    exact go_sub [1, 2, 3, 0] rfl (hih24 (s.1, s.2.1, (s.2.2.1 + (1 : Int32)), u18))
set_option maxHeartbeats 4000000 in
set_option maxRecDepth 100000 in
theorem g_X6_book (a1 : Int32) (a2 : Int32) (u : Uw) : ∀ l, Con l yX6_book mi_X6_book ivI (fun ad => [.ref (ad 86), .int a1, .int a2]) u (f_X6_book a1 a2 u) := by
  refine con_of (by decide) rfl (fun _ => Nat.le_of_ble_eq_true rfl) (fun X ad => ?_)
  show Go X ad mi_X6_book ivI 0 [(0, .ref (ad 86)), (1, .int a1), (2, .int a2)] [] u (f_X6_book a1 a2 u)
  unfold f_X6_book
  refine go_aload_n 0 rfl dX6_book_0 rfl ?_
  refine go_iload_n 1 rfl dX6_book_1 rfl ?_
  refine go_iload_n 2 rfl dX6_book_2 rfl ?_
  refine go_callVI (As := fun ad => [.int a1, .int a2]) (g_X6_wrongBook a1 a2 u) mv_X6_wrongBook clX6 kt_86 gw319 rfl ⟨Nat.le_of_ble_eq_true rfl, Nat.le_of_ble_eq_true rfl⟩ rfl (Nat.le_of_ble_eq_true rfl) dX6_book_3 (fun r1 u2 => ?_)
  refine go_istore_n (lv' := [(3, .int r1), (0, .ref (ad 86)), (1, .int a1), (2, .int a2)]) dX6_book_6 rfl (Nat.le_of_ble_eq_true rfl) rfl ?_
  refine go_iload_n 0 rfl dX6_book_7 rfl ?_
  refine go_if_eq (tgt := 17) dX6_book_8 (by decide) ?_ ?_
  · refine go_aload_n 1 rfl dX6_book_17 rfl ?_
    refine go_callVV (As := fun ad => []) (g_X6_laysAside  u2) mv_X6_laysAside clX6 kt_86 gw254 rfl ⟨Nat.le_of_ble_eq_true rfl, Nat.le_of_ble_eq_true rfl⟩ rfl (Nat.le_of_ble_eq_true rfl) dX6_book_18 (fun r3 u4 => ?_)
    refine go_iconst (v := (0 : Int32)) dX6_book_21 (by decide) ?_
    refine go_istore (lv' := [(4, .int (0 : Int32)), (3, .int r1), (0, .ref (ad 86)), (1, .int a1), (2, .int a2)]) dX6_book_22 (Nat.le_of_ble_eq_true rfl) rfl ?_
    exact go_sub [2, 3, 4, 0] rfl (gl_X6_book_24 X ad  2100 (a1, a2, (0 : Int32), u4))
  · refine go_aload_n 1 rfl dX6_book_11 rfl ?_
    refine go_iload_n 0 rfl dX6_book_12 rfl ?_
    refine go_callVI (As := fun ad => [.int r1]) (g_X6_finds r1 u2) mv_X6_finds clX6 kt_86 gw219 rfl ⟨Nat.le_of_ble_eq_true rfl, Nat.le_of_ble_eq_true rfl⟩ rfl (Nat.le_of_ble_eq_true rfl) dX6_book_13 (fun r19 u20 => ?_)
    exact go_iret rfl dX6_book_16
def b_X6_isBook_2 (ih2 : Int32 × Int32 × Int32 × Uw → Option (Bool × Uw)) (s : Int32 × Int32 × Int32 × Uw) : Option (Bool × Uw) :=
  ck (inb s.1 4) <|
  nm (s.2.2.2.1 28 s.1.toNatClampNeg) fun x2 =>
  if x2 ≤ s.2.2.1 then
  (some (true, s.2.2.2))
  else
  (ck (inb (((40 : Int32) * s.1) + s.2.2.1) 160) <|
  nm (s.2.2.2.2 29 (((40 : Int32) * s.1) + s.2.2.1).toNatClampNeg) fun x4 =>
  bd (f_X6_isOf s.2.1 (0 : Int32) s.2.2.2) fun r5 u6 =>
  if (lg_cmp x4 (r5.toInt64)) = 0 then
  (bd (f_X6_day  u6) fun r7 u8 =>
  ih2 (s.1, s.2.1, (s.2.2.1 + (1 : Int32)), u8))
  else
  (some (false, u6)))
def f_X6_isBook (a1 : Int32) (a2 : Int32) (u : Uw) : Option (Bool × Uw) :=
  lp b_X6_isBook_2 2100 (a1, a2, (0 : Int32), u)
set_option maxHeartbeats 4000000 in
set_option maxRecDepth 100000 in
theorem gl_X6_isBook_2 (X : Cx) (ad : Nat → Nat) : ∀ (n : Nat) (s : Int32 × Int32 × Int32 × Uw), Go X ad mi_X6_isBook ivZ 2 [(0, .ref (ad 86)), (1, .int s.1), (2, .int s.2.1), (3, .int s.2.2.1)] [] s.2.2.2 (lp b_X6_isBook_2 n s) := by
  refine go_lp (G := fun (s : Int32 × Int32 × Int32 × Uw) o => Go X ad mi_X6_isBook ivZ 2 [(0, .ref (ad 86)), (1, .int s.1), (2, .int s.2.1), (3, .int s.2.2.1)] [] s.2.2.2 o) (fun _ => go_none) (fun ih2 hih2 s => ?_)
  show Go X ad mi_X6_isBook ivZ 2 [(0, .ref (ad 86)), (1, .int s.1), (2, .int s.2.1), (3, .int s.2.2.1)] [] s.2.2.2 (b_X6_isBook_2 ih2 s)
  unfold b_X6_isBook_2
  refine go_iload_n 3 rfl dX6_isBook_2 rfl ?_
  refine go_aload_n 0 rfl dX6_isBook_3 rfl ?_
  refine go_getR clX6 kt_86 13 (Nat.le_of_ble_eq_true rfl) (f := 94) (fun _ => rfl) gw311 dX6_isBook_4 ?_
  refine go_iload_n 1 rfl dX6_isBook_7 rfl ?_
  refine go_ck (fun h1 => ?_)
  refine go_ialdL kt_94 kr_94 kl_94 h1 dX6_isBook_8 ?_
  refine go_nm (fun x2 => ?_)
  refine go_icmp_ge (tgt := 46) dX6_isBook_9 (by decide) ?_ ?_
  · refine go_iconst (v := (1 : Int32)) dX6_isBook_46 (by decide) ?_
    exact go_zret (b := true) rfl dX6_isBook_47
  · refine go_aload_n 0 rfl dX6_isBook_12 rfl ?_
    refine go_getR clX6 kt_86 14 (Nat.le_of_ble_eq_true rfl) (f := 95) (fun _ => rfl) gw312 dX6_isBook_13 ?_
    refine go_bipush (v := (40 : Int32)) dX6_isBook_16 (by decide) ?_
    refine go_iload_n 1 rfl dX6_isBook_18 rfl ?_
    refine go_imul dX6_isBook_19 ?_
    refine go_iload_n 3 rfl dX6_isBook_20 rfl ?_
    refine go_iadd dX6_isBook_21 ?_
    refine go_ck (fun h3 => ?_)
    refine go_laldL kt_95 kr_95 kl_95 h3 dX6_isBook_22 ?_
    refine go_nmL (fun x4 => ?_)
    refine go_aload_n 0 rfl dX6_isBook_23 rfl ?_
    refine go_iload_n 2 rfl dX6_isBook_24 rfl ?_
    refine go_iconst (v := (0 : Int32)) dX6_isBook_25 (by decide) ?_
    refine go_callVI (As := fun ad => [.int s.2.1, .int (0 : Int32)]) (g_X6_isOf s.2.1 (0 : Int32) s.2.2.2) mv_X6_isOf clX6 kt_86 gw242 rfl ⟨Nat.le_of_ble_eq_true rfl, Nat.le_of_ble_eq_true rfl⟩ rfl (Nat.le_of_ble_eq_true rfl) dX6_isBook_26 (fun r5 u6 => ?_)
    refine go_i2l dX6_isBook_29 ?_
    refine go_lcmp dX6_isBook_30 ?_
    refine go_if_eq (tgt := 36) dX6_isBook_31 (by decide) ?_ ?_
    · refine go_aload_n 0 rfl dX6_isBook_36 rfl ?_
      refine go_callVV (As := fun ad => []) (g_X6_day  u6) mv_X6_day clX6 kt_86 gw246 rfl ⟨Nat.le_of_ble_eq_true rfl, Nat.le_of_ble_eq_true rfl⟩ rfl (Nat.le_of_ble_eq_true rfl) dX6_isBook_37 (fun r7 u8 => ?_)
      refine go_iinc (v := (s.2.2.1 + (1 : Int32))) (lv' := [(3, .int (s.2.2.1 + (1 : Int32))), (0, .ref (ad 86)), (1, .int s.1), (2, .int s.2.1)]) 3 rfl dX6_isBook_40 rfl (Nat.le_of_ble_eq_true rfl) rfl ?_
      refine go_goto (tgt := 2) dX6_isBook_43 (by decide) ?_
      exact go_sub [1, 2, 3, 0] rfl (hih2 (s.1, s.2.1, (s.2.2.1 + (1 : Int32)), u8))
    · refine go_iconst (v := (0 : Int32)) dX6_isBook_34 (by decide) ?_
      exact go_zret (b := false) rfl dX6_isBook_35
set_option maxHeartbeats 4000000 in
set_option maxRecDepth 100000 in
theorem g_X6_isBook (a1 : Int32) (a2 : Int32) (u : Uw) : ∀ l, Con l yX6_isBook mi_X6_isBook ivZ (fun ad => [.ref (ad 86), .int a1, .int a2]) u (f_X6_isBook a1 a2 u) := by
  refine con_of (by decide) rfl (fun _ => Nat.le_of_ble_eq_true rfl) (fun X ad => ?_)
  show Go X ad mi_X6_isBook ivZ 0 [(0, .ref (ad 86)), (1, .int a1), (2, .int a2)] [] u (f_X6_isBook a1 a2 u)
  unfold f_X6_isBook
  refine go_iconst (v := (0 : Int32)) dX6_isBook_0 (by decide) ?_
  refine go_istore_n (lv' := [(3, .int (0 : Int32)), (0, .ref (ad 86)), (1, .int a1), (2, .int a2)]) dX6_isBook_1 rfl (Nat.le_of_ble_eq_true rfl) rfl ?_
  exact go_sub [1, 2, 3, 0] rfl (gl_X6_isBook_2 X ad  2100 (a1, a2, (0 : Int32), u))
def b_X6_read_41 (ih27 : Int32 × Int32 × Int32 × Int32 × Uw → Option (Int32 × Uw)) (ih41 : Int32 × Int32 × Int32 × Int32 × Int32 × Uw → Option (Int32 × Uw)) (s : Int32 × Int32 × Int32 × Int32 × Int32 × Uw) : Option (Int32 × Uw) :=
  nm (s.2.2.2.2.2.1 20 (0 : Int32).toNatClampNeg) fun x6 =>
  if x6 ≤ s.2.2.2.2.1 then
  (ih27 (s.1, s.2.1, s.2.2.1, (s.2.2.2.1 + (1 : Int32)), s.2.2.2.2.2))
  else
  (nm (w1 s.2.2.2.2.2 20 (4 : Int32).toNatClampNeg s.2.2.2.1) fun u7 =>
  bd (f_X6_spot s.2.1 (1 : Int32) u7) fun r8 u9 =>
  ck (inb r8 61) <|
  nm (w1 u9 20 r8.toNatClampNeg s.2.2.2.2.1) fun u11 =>
  bd (f_X6_isBook s.1 s.2.1 u11) fun r12 u13 =>
  if r12 = true then
  (bd (f_X6_takesBack (s.2.2.1 + (1 : Int32)) u13) fun r16 u17 =>
  ih41 (s.1, s.2.1, r16, s.2.2.2.1, (s.2.2.2.2.1 + (1 : Int32)), u17))
  else
  (bd (f_X6_takesBack (s.2.2.1 + (0 : Int32)) u13) fun r14 u15 =>
  ih41 (s.1, s.2.1, r14, s.2.2.2.1, (s.2.2.2.2.1 + (1 : Int32)), u15)))
def b_X6_read_27 (ih27 : Int32 × Int32 × Int32 × Int32 × Uw → Option (Int32 × Uw)) (s : Int32 × Int32 × Int32 × Int32 × Uw) : Option (Int32 × Uw) :=
  nm (s.2.2.2.2.1 20 (0 : Int32).toNatClampNeg) fun x5 =>
  if x5 ≤ s.2.2.2.1 then
  (some (s.2.2.1, s.2.2.2.2))
  else
  (lp (b_X6_read_41 ih27) 2100 (s.1, s.2.1, s.2.2.1, s.2.2.2.1, (-1 : Int32), s.2.2.2.2))
def f_X6_read (a1 : Int32) (a2 : Int32) (u : Uw) : Option (Int32 × Uw) :=
  bd (f_X6_wrongBook a1 a2 u) fun r1 u2 =>
  if r1 = 0 then
  (bd (f_X6_laysAside  u2) fun r3 u4 =>
  lp b_X6_read_27 2100 (a1, a2, (0 : Int32), (0 : Int32), u4))
  else
  (bd (f_X6_finds r1 u2) fun r18 u19 =>
  some (r18, u19))
set_option maxHeartbeats 4000000 in
set_option maxRecDepth 100000 in
theorem gl_X6_read_41 (X : Cx) (ad : Nat → Nat) (ih27 : Int32 × Int32 × Int32 × Int32 × Uw → Option (Int32 × Uw)) (hih27 : ∀ s : Int32 × Int32 × Int32 × Int32 × Uw, Go X ad mi_X6_read ivI 27 [(0, .ref (ad 86)), (1, .int s.1), (2, .int s.2.1), (4, .int s.2.2.1), (5, .int s.2.2.2.1)] [] s.2.2.2.2 (ih27 s)) : ∀ (n : Nat) (s : Int32 × Int32 × Int32 × Int32 × Int32 × Uw), Go X ad mi_X6_read ivI 41 [(0, .ref (ad 86)), (1, .int s.1), (2, .int s.2.1), (4, .int s.2.2.1), (5, .int s.2.2.2.1), (6, .int s.2.2.2.2.1)] [] s.2.2.2.2.2 (lp (b_X6_read_41 ih27) n s) := by
  refine go_lp (G := fun (s : Int32 × Int32 × Int32 × Int32 × Int32 × Uw) o => Go X ad mi_X6_read ivI 41 [(0, .ref (ad 86)), (1, .int s.1), (2, .int s.2.1), (4, .int s.2.2.1), (5, .int s.2.2.2.1), (6, .int s.2.2.2.2.1)] [] s.2.2.2.2.2 o) (fun _ => go_none) (fun ih41 hih41 s => ?_)
  show Go X ad mi_X6_read ivI 41 [(0, .ref (ad 86)), (1, .int s.1), (2, .int s.2.1), (4, .int s.2.2.1), (5, .int s.2.2.2.1), (6, .int s.2.2.2.2.1)] [] s.2.2.2.2.2 (b_X6_read_41 ih27 ih41 s)
  unfold b_X6_read_41
  refine go_iload 5 rfl dX6_read_41 ?_
  refine go_aload_n 0 rfl dX6_read_43 rfl ?_
  refine go_getR clX6 kt_86 0 (Nat.le_of_ble_eq_true rfl) (f := 87) (fun _ => rfl) gw207 dX6_read_44 ?_
  refine go_iconst (v := (0 : Int32)) dX6_read_47 (by decide) ?_
  refine go_ialdL kt_87 kr_87 kl_87 rfl dX6_read_48 ?_
  refine go_nm (fun x6 => ?_)
  refine go_icmp_ge (tgt := 101) dX6_read_49 (by decide) ?_ ?_
  · refine go_iinc (v := (s.2.2.2.1 + (1 : Int32))) (lv' := [(5, .int (s.2.2.2.1 + (1 : Int32))), (0, .ref (ad 86)), (1, .int s.1), (2, .int s.2.1), (4, .int s.2.2.1), (6, .int s.2.2.2.2.1)]) 4 rfl dX6_read_101 rfl (Nat.le_of_ble_eq_true rfl) rfl ?_
    refine go_goto (tgt := 27) dX6_read_104 (by decide) ?_
    exact go_sub [1, 2, 3, 4, 0] rfl (hih27 (s.1, s.2.1, s.2.2.1, (s.2.2.2.1 + (1 : Int32)), s.2.2.2.2.2))
  · refine go_aload_n 0 rfl dX6_read_52 rfl ?_
    refine go_getR clX6 kt_86 0 (Nat.le_of_ble_eq_true rfl) (f := 87) (fun _ => rfl) gw207 dX6_read_53 ?_
    refine go_iconst (v := (4 : Int32)) dX6_read_56 (by decide) ?_
    refine go_iload 4 rfl dX6_read_57 ?_
    refine go_iastL kt_87 kr_87 kl_87 rfl dX6_read_59 ?_
    refine go_nmU (fun u7 => ?_)
    refine go_aload_n 0 rfl dX6_read_60 rfl ?_
    refine go_getR clX6 kt_86 0 (Nat.le_of_ble_eq_true rfl) (f := 87) (fun _ => rfl) gw207 dX6_read_61 ?_
    refine go_iload_n 2 rfl dX6_read_64 rfl ?_
    refine go_iconst (v := (1 : Int32)) dX6_read_65 (by decide) ?_
    refine go_callSI (As := fun ad => [.int s.2.1, .int (1 : Int32)]) (g_X6_spot s.2.1 (1 : Int32) u7) mo_X6_spot gw213 gw214 rfl ⟨Nat.le_of_ble_eq_true rfl, Nat.le_of_ble_eq_true rfl⟩ rfl (Nat.le_of_ble_eq_true rfl) dX6_read_66 (fun r8 u9 => ?_)
    refine go_iload 5 rfl dX6_read_69 ?_
    refine go_ck (fun h10 => ?_)
    refine go_iastL kt_87 kr_87 kl_87 h10 dX6_read_71 ?_
    refine go_nmU (fun u11 => ?_)
    refine go_aload_n 0 rfl dX6_read_72 rfl ?_
    refine go_iload 3 rfl dX6_read_73 ?_
    refine go_aload_n 0 rfl dX6_read_75 rfl ?_
    refine go_iload_n 1 rfl dX6_read_76 rfl ?_
    refine go_iload_n 2 rfl dX6_read_77 rfl ?_
    refine go_callVZ (As := fun ad => [.int s.1, .int s.2.1]) (g_X6_isBook s.1 s.2.1 u11) mv_X6_isBook clX6 kt_86 gw320 rfl ⟨Nat.le_of_ble_eq_true rfl, Nat.le_of_ble_eq_true rfl⟩ rfl (Nat.le_of_ble_eq_true rfl) dX6_read_78 (fun r12 u13 => ?_)
    refine go_ifz_eq (tgt := 88) dX6_read_81 (by decide) ?_ ?_
    · refine go_iconst (v := (0 : Int32)) dX6_read_88 (by decide) ?_
      refine go_iadd dX6_read_89 ?_
      refine go_callVI (As := fun ad => [.int (s.2.2.1 + (0 : Int32))]) (g_X6_takesBack (s.2.2.1 + (0 : Int32)) u13) mv_X6_takesBack clX6 kt_86 gw255 rfl ⟨Nat.le_of_ble_eq_true rfl, Nat.le_of_ble_eq_true rfl⟩ rfl (Nat.le_of_ble_eq_true rfl) dX6_read_90 (fun r14 u15 => ?_)
      refine go_istore (lv' := [(4, .int r14), (0, .ref (ad 86)), (1, .int s.1), (2, .int s.2.1), (5, .int s.2.2.2.1), (6, .int s.2.2.2.2.1)]) dX6_read_93 (Nat.le_of_ble_eq_true rfl) rfl ?_
      refine go_iinc (v := (s.2.2.2.2.1 + (1 : Int32))) (lv' := [(6, .int (s.2.2.2.2.1 + (1 : Int32))), (4, .int r14), (0, .ref (ad 86)), (1, .int s.1), (2, .int s.2.1), (5, .int s.2.2.2.1)]) 5 rfl dX6_read_95 rfl (Nat.le_of_ble_eq_true rfl) rfl ?_
      refine go_goto (tgt := 41) dX6_read_98 (by decide) ?_
      exact go_sub [2, 3, 4, 1, 5, 0] rfl (hih41 (s.1, s.2.1, r14, s.2.2.2.1, (s.2.2.2.2.1 + (1 : Int32)), u15))
    · refine go_iconst (v := (1 : Int32)) dX6_read_84 (by decide) ?_
      refine go_goto (tgt := 89) dX6_read_85 (by decide) ?_
      refine go_iadd dX6_read_89 ?_
      refine go_callVI (As := fun ad => [.int (s.2.2.1 + (1 : Int32))]) (g_X6_takesBack (s.2.2.1 + (1 : Int32)) u13) mv_X6_takesBack clX6 kt_86 gw255 rfl ⟨Nat.le_of_ble_eq_true rfl, Nat.le_of_ble_eq_true rfl⟩ rfl (Nat.le_of_ble_eq_true rfl) dX6_read_90 (fun r16 u17 => ?_)
      refine go_istore (lv' := [(4, .int r16), (0, .ref (ad 86)), (1, .int s.1), (2, .int s.2.1), (5, .int s.2.2.2.1), (6, .int s.2.2.2.2.1)]) dX6_read_93 (Nat.le_of_ble_eq_true rfl) rfl ?_
      refine go_iinc (v := (s.2.2.2.2.1 + (1 : Int32))) (lv' := [(6, .int (s.2.2.2.2.1 + (1 : Int32))), (4, .int r16), (0, .ref (ad 86)), (1, .int s.1), (2, .int s.2.1), (5, .int s.2.2.2.1)]) 5 rfl dX6_read_95 rfl (Nat.le_of_ble_eq_true rfl) rfl ?_
      refine go_goto (tgt := 41) dX6_read_98 (by decide) ?_
      exact go_sub [2, 3, 4, 1, 5, 0] rfl (hih41 (s.1, s.2.1, r16, s.2.2.2.1, (s.2.2.2.2.1 + (1 : Int32)), u17))
set_option maxHeartbeats 4000000 in
set_option maxRecDepth 100000 in
theorem gl_X6_read_27 (X : Cx) (ad : Nat → Nat) : ∀ (n : Nat) (s : Int32 × Int32 × Int32 × Int32 × Uw), Go X ad mi_X6_read ivI 27 [(0, .ref (ad 86)), (1, .int s.1), (2, .int s.2.1), (4, .int s.2.2.1), (5, .int s.2.2.2.1)] [] s.2.2.2.2 (lp b_X6_read_27 n s) := by
  refine go_lp (G := fun (s : Int32 × Int32 × Int32 × Int32 × Uw) o => Go X ad mi_X6_read ivI 27 [(0, .ref (ad 86)), (1, .int s.1), (2, .int s.2.1), (4, .int s.2.2.1), (5, .int s.2.2.2.1)] [] s.2.2.2.2 o) (fun _ => go_none) (fun ih27 hih27 s => ?_)
  show Go X ad mi_X6_read ivI 27 [(0, .ref (ad 86)), (1, .int s.1), (2, .int s.2.1), (4, .int s.2.2.1), (5, .int s.2.2.2.1)] [] s.2.2.2.2 (b_X6_read_27 ih27 s)
  unfold b_X6_read_27
  refine go_iload 4 rfl dX6_read_27 ?_
  refine go_aload_n 0 rfl dX6_read_29 rfl ?_
  refine go_getR clX6 kt_86 0 (Nat.le_of_ble_eq_true rfl) (f := 87) (fun _ => rfl) gw207 dX6_read_30 ?_
  refine go_iconst (v := (0 : Int32)) dX6_read_33 (by decide) ?_
  refine go_ialdL kt_87 kr_87 kl_87 rfl dX6_read_34 ?_
  refine go_nm (fun x5 => ?_)
  refine go_icmp_ge (tgt := 107) dX6_read_35 (by decide) ?_ ?_
  · refine go_iload 3 rfl dX6_read_107 ?_
    exact go_iret rfl dX6_read_109
  · refine go_iconst (v := (-1 : Int32)) dX6_read_38 (by decide) ?_
    refine go_istore (lv' := [(6, .int (-1 : Int32)), (0, .ref (ad 86)), (1, .int s.1), (2, .int s.2.1), (4, .int s.2.2.1), (5, .int s.2.2.2.1)]) dX6_read_39 (Nat.le_of_ble_eq_true rfl) rfl ?_
    exact go_sub [1, 2, 3, 4, 5, 0] rfl (gl_X6_read_41 X ad ih27 hih27 2100 (s.1, s.2.1, s.2.2.1, s.2.2.2.1, (-1 : Int32), s.2.2.2.2))
set_option maxHeartbeats 4000000 in
set_option maxRecDepth 100000 in
theorem g_X6_read (a1 : Int32) (a2 : Int32) (u : Uw) : ∀ l, Con l yX6_read mi_X6_read ivI (fun ad => [.ref (ad 86), .int a1, .int a2]) u (f_X6_read a1 a2 u) := by
  refine con_of (by decide) rfl (fun _ => Nat.le_of_ble_eq_true rfl) (fun X ad => ?_)
  show Go X ad mi_X6_read ivI 0 [(0, .ref (ad 86)), (1, .int a1), (2, .int a2)] [] u (f_X6_read a1 a2 u)
  unfold f_X6_read
  refine go_aload_n 0 rfl dX6_read_0 rfl ?_
  refine go_iload_n 1 rfl dX6_read_1 rfl ?_
  refine go_iload_n 2 rfl dX6_read_2 rfl ?_
  refine go_callVI (As := fun ad => [.int a1, .int a2]) (g_X6_wrongBook a1 a2 u) mv_X6_wrongBook clX6 kt_86 gw319 rfl ⟨Nat.le_of_ble_eq_true rfl, Nat.le_of_ble_eq_true rfl⟩ rfl (Nat.le_of_ble_eq_true rfl) dX6_read_3 (fun r1 u2 => ?_)
  refine go_istore_n (lv' := [(3, .int r1), (0, .ref (ad 86)), (1, .int a1), (2, .int a2)]) dX6_read_6 rfl (Nat.le_of_ble_eq_true rfl) rfl ?_
  refine go_iload_n 0 rfl dX6_read_7 rfl ?_
  refine go_if_eq (tgt := 17) dX6_read_8 (by decide) ?_ ?_
  · refine go_aload_n 1 rfl dX6_read_17 rfl ?_
    refine go_callVV (As := fun ad => []) (g_X6_laysAside  u2) mv_X6_laysAside clX6 kt_86 gw254 rfl ⟨Nat.le_of_ble_eq_true rfl, Nat.le_of_ble_eq_true rfl⟩ rfl (Nat.le_of_ble_eq_true rfl) dX6_read_18 (fun r3 u4 => ?_)
    refine go_iconst (v := (0 : Int32)) dX6_read_21 (by decide) ?_
    refine go_istore (lv' := [(4, .int (0 : Int32)), (3, .int r1), (0, .ref (ad 86)), (1, .int a1), (2, .int a2)]) dX6_read_22 (Nat.le_of_ble_eq_true rfl) rfl ?_
    refine go_iconst (v := (0 : Int32)) dX6_read_24 (by decide) ?_
    refine go_istore (lv' := [(5, .int (0 : Int32)), (4, .int (0 : Int32)), (3, .int r1), (0, .ref (ad 86)), (1, .int a1), (2, .int a2)]) dX6_read_25 (Nat.le_of_ble_eq_true rfl) rfl ?_
    exact go_sub [3, 4, 5, 1, 0] rfl (gl_X6_read_27 X ad  2100 (a1, a2, (0 : Int32), (0 : Int32), u4))
  · refine go_aload_n 1 rfl dX6_read_11 rfl ?_
    refine go_iload_n 0 rfl dX6_read_12 rfl ?_
    refine go_callVI (As := fun ad => [.int r1]) (g_X6_finds r1 u2) mv_X6_finds clX6 kt_86 gw219 rfl ⟨Nat.le_of_ble_eq_true rfl, Nat.le_of_ble_eq_true rfl⟩ rfl (Nat.le_of_ble_eq_true rfl) dX6_read_13 (fun r18 u19 => ?_)
    exact go_iret rfl dX6_read_16
def b_X6_image_2 (ih2 : Int32 × Uw → Option (Int32 × Uw)) (s : Int32 × Uw) : Option (Int32 × Uw) :=
  if (61 : Int32) ≤ s.1 then
  (nm (w1 s.2 25 0 (1 : Int32)) fun u1 =>
  some ((1 : Int32), u1))
  else
  (ck (inb s.1 61) <|
  nm (s.2.1 20 s.1.toNatClampNeg) fun x3 =>
  nm (w1 s.2 21 s.1.toNatClampNeg x3) fun u4 =>
  ih2 ((s.1 + (1 : Int32)), u4))
def f_X6_image (u : Uw) : Option (Int32 × Uw) :=
  lp b_X6_image_2 2100 ((0 : Int32), u)
set_option maxHeartbeats 4000000 in
set_option maxRecDepth 100000 in
theorem gl_X6_image_2 (X : Cx) (ad : Nat → Nat) : ∀ (n : Nat) (s : Int32 × Uw), Go X ad mi_X6_image ivI 2 [(0, .ref (ad 86)), (1, .int s.1)] [] s.2 (lp b_X6_image_2 n s) := by
  refine go_lp (G := fun (s : Int32 × Uw) o => Go X ad mi_X6_image ivI 2 [(0, .ref (ad 86)), (1, .int s.1)] [] s.2 o) (fun _ => go_none) (fun ih2 hih2 s => ?_)
  show Go X ad mi_X6_image ivI 2 [(0, .ref (ad 86)), (1, .int s.1)] [] s.2 (b_X6_image_2 ih2 s)
  unfold b_X6_image_2
  refine go_iload_n 1 rfl dX6_image_2 rfl ?_
  refine go_bipush (v := (61 : Int32)) dX6_image_3 (by decide) ?_
  refine go_icmp_ge (tgt := 26) dX6_image_5 (by decide) ?_ ?_
  · refine go_aload_n 0 rfl dX6_image_26 rfl ?_
    refine go_iconst (v := (1 : Int32)) dX6_image_27 (by decide) ?_
    refine go_putIL clX6 kt_86 5 (Nat.le_of_ble_eq_true rfl) (c := 0) (fun _ => rfl) (by decide) kr_86 (fty := .boolean) (tyX6_ok 5 (Nat.le_of_ble_eq_true rfl)) rfl rfl rfl (fun _ => Nat.le_of_ble_eq_true rfl) gw321 dX6_image_28 ?_
    refine go_nmU (fun u1 => ?_)
    refine go_iconst (v := (1 : Int32)) dX6_image_31 (by decide) ?_
    exact go_iret rfl dX6_image_32
  · refine go_aload_n 0 rfl dX6_image_8 rfl ?_
    refine go_getR clX6 kt_86 1 (Nat.le_of_ble_eq_true rfl) (f := 88) (fun _ => rfl) gw322 dX6_image_9 ?_
    refine go_iload_n 1 rfl dX6_image_12 rfl ?_
    refine go_aload_n 0 rfl dX6_image_13 rfl ?_
    refine go_getR clX6 kt_86 0 (Nat.le_of_ble_eq_true rfl) (f := 87) (fun _ => rfl) gw207 dX6_image_14 ?_
    refine go_iload_n 1 rfl dX6_image_17 rfl ?_
    refine go_ck (fun h2 => ?_)
    refine go_ialdL kt_87 kr_87 kl_87 h2 dX6_image_18 ?_
    refine go_nm (fun x3 => ?_)
    refine go_iastL kt_88 kr_88 kl_88 h2 dX6_image_19 ?_
    refine go_nmU (fun u4 => ?_)
    refine go_iinc (v := (s.1 + (1 : Int32))) (lv' := [(1, .int (s.1 + (1 : Int32))), (0, .ref (ad 86))]) 1 rfl dX6_image_20 rfl (Nat.le_of_ble_eq_true rfl) rfl ?_
    refine go_goto (tgt := 2) dX6_image_23 (by decide) ?_
    exact go_sub [1, 0] rfl (hih2 ((s.1 + (1 : Int32)), u4))
set_option maxHeartbeats 4000000 in
set_option maxRecDepth 100000 in
theorem g_X6_image (u : Uw) : ∀ l, Con l yX6_image mi_X6_image ivI (fun ad => [.ref (ad 86)]) u (f_X6_image u) := by
  refine con_of (by decide) rfl (fun _ => Nat.le_of_ble_eq_true rfl) (fun X ad => ?_)
  show Go X ad mi_X6_image ivI 0 [(0, .ref (ad 86))] [] u (f_X6_image u)
  unfold f_X6_image
  refine go_iconst (v := (0 : Int32)) dX6_image_0 (by decide) ?_
  refine go_istore_n (lv' := [(1, .int (0 : Int32)), (0, .ref (ad 86))]) dX6_image_1 rfl (Nat.le_of_ble_eq_true rfl) rfl ?_
  exact go_sub [1, 0] rfl (gl_X6_image_2 X ad  2100 ((0 : Int32), u))
def b_X6_undo_16 (ih16 : Int32 × Uw → Option (Int32 × Uw)) (s : Int32 × Uw) : Option (Int32 × Uw) :=
  if (61 : Int32) ≤ s.1 then
  (nm (s.2.1 20 (0 : Int32).toNatClampNeg) fun x1 =>
  some (x1, s.2))
  else
  (ck (inb s.1 61) <|
  nm (s.2.1 21 s.1.toNatClampNeg) fun x3 =>
  nm (w1 s.2 20 s.1.toNatClampNeg x3) fun u4 =>
  ih16 ((s.1 + (1 : Int32)), u4))
def f_X6_undo (u : Uw) : Option (Int32 × Uw) :=
  if (u.1 25 0) = 0 then
  (bd (f_X6_finds (-1000000004 : Int32) u) fun r5 u6 =>
  some (r5, u6))
  else
  (lp b_X6_undo_16 2100 ((0 : Int32), u))
set_option maxHeartbeats 4000000 in
set_option maxRecDepth 100000 in
theorem gl_X6_undo_16 (X : Cx) (ad : Nat → Nat) : ∀ (n : Nat) (s : Int32 × Uw), Go X ad mi_X6_undo ivI 16 [(0, .ref (ad 86)), (1, .int s.1)] [] s.2 (lp b_X6_undo_16 n s) := by
  refine go_lp (G := fun (s : Int32 × Uw) o => Go X ad mi_X6_undo ivI 16 [(0, .ref (ad 86)), (1, .int s.1)] [] s.2 o) (fun _ => go_none) (fun ih16 hih16 s => ?_)
  show Go X ad mi_X6_undo ivI 16 [(0, .ref (ad 86)), (1, .int s.1)] [] s.2 (b_X6_undo_16 ih16 s)
  unfold b_X6_undo_16
  refine go_iload_n 1 rfl dX6_undo_16 rfl ?_
  refine go_bipush (v := (61 : Int32)) dX6_undo_17 (by decide) ?_
  refine go_icmp_ge (tgt := 40) dX6_undo_19 (by decide) ?_ ?_
  · refine go_aload_n 0 rfl dX6_undo_40 rfl ?_
    refine go_getR clX6 kt_86 0 (Nat.le_of_ble_eq_true rfl) (f := 87) (fun _ => rfl) gw207 dX6_undo_41 ?_
    refine go_iconst (v := (0 : Int32)) dX6_undo_44 (by decide) ?_
    refine go_ialdL kt_87 kr_87 kl_87 rfl dX6_undo_45 ?_
    refine go_nm (fun x1 => ?_)
    exact go_iret rfl dX6_undo_46
  · refine go_aload_n 0 rfl dX6_undo_22 rfl ?_
    refine go_getR clX6 kt_86 0 (Nat.le_of_ble_eq_true rfl) (f := 87) (fun _ => rfl) gw207 dX6_undo_23 ?_
    refine go_iload_n 1 rfl dX6_undo_26 rfl ?_
    refine go_aload_n 0 rfl dX6_undo_27 rfl ?_
    refine go_getR clX6 kt_86 1 (Nat.le_of_ble_eq_true rfl) (f := 88) (fun _ => rfl) gw322 dX6_undo_28 ?_
    refine go_iload_n 1 rfl dX6_undo_31 rfl ?_
    refine go_ck (fun h2 => ?_)
    refine go_ialdL kt_88 kr_88 kl_88 h2 dX6_undo_32 ?_
    refine go_nm (fun x3 => ?_)
    refine go_iastL kt_87 kr_87 kl_87 h2 dX6_undo_33 ?_
    refine go_nmU (fun u4 => ?_)
    refine go_iinc (v := (s.1 + (1 : Int32))) (lv' := [(1, .int (s.1 + (1 : Int32))), (0, .ref (ad 86))]) 1 rfl dX6_undo_34 rfl (Nat.le_of_ble_eq_true rfl) rfl ?_
    refine go_goto (tgt := 16) dX6_undo_37 (by decide) ?_
    exact go_sub [1, 0] rfl (hih16 ((s.1 + (1 : Int32)), u4))
set_option maxHeartbeats 4000000 in
set_option maxRecDepth 100000 in
theorem g_X6_undo (u : Uw) : ∀ l, Con l yX6_undo mi_X6_undo ivI (fun ad => [.ref (ad 86)]) u (f_X6_undo u) := by
  refine con_of (by decide) rfl (fun _ => Nat.le_of_ble_eq_true rfl) (fun X ad => ?_)
  show Go X ad mi_X6_undo ivI 0 [(0, .ref (ad 86))] [] u (f_X6_undo u)
  unfold f_X6_undo
  refine go_aload_n 0 rfl dX6_undo_0 rfl ?_
  refine go_getIL clX6 kt_86 5 (Nat.le_of_ble_eq_true rfl) (c := 0) (fun _ => rfl) kr_86 gw321 dX6_undo_1 ?_
  refine go_if_ne (tgt := 14) dX6_undo_4 (by decide) ?_ ?_
  · refine go_iconst (v := (0 : Int32)) dX6_undo_14 (by decide) ?_
    refine go_istore_n (lv' := [(1, .int (0 : Int32)), (0, .ref (ad 86))]) dX6_undo_15 rfl (Nat.le_of_ble_eq_true rfl) rfl ?_
    exact go_sub [1, 0] rfl (gl_X6_undo_16 X ad  2100 ((0 : Int32), u))
  · refine go_aload_n 0 rfl dX6_undo_7 rfl ?_
    refine go_ldc (v := (-1000000004 : Int32)) gw257 dX6_undo_8 ?_
    refine go_callVI (As := fun ad => [.int (-1000000004 : Int32)]) (g_X6_finds (-1000000004 : Int32) u) mv_X6_finds clX6 kt_86 gw219 rfl ⟨Nat.le_of_ble_eq_true rfl, Nat.le_of_ble_eq_true rfl⟩ rfl (Nat.le_of_ble_eq_true rfl) dX6_undo_10 (fun r5 u6 => ?_)
    exact go_iret rfl dX6_undo_13
def f_X6_tear (u : Uw) : Option (Int32 × Uw) :=
  if (u.1 25 0) = 0 then
  (nm (w1 u 25 0 (0 : Int32)) fun u1 =>
  some ((0 : Int32), u1))
  else
  (nm (w1 u 25 0 (0 : Int32)) fun u2 =>
  some ((1 : Int32), u2))
set_option maxHeartbeats 4000000 in
set_option maxRecDepth 100000 in
theorem g_X6_tear (u : Uw) : ∀ l, Con l yX6_tear mi_X6_tear ivI (fun ad => [.ref (ad 86)]) u (f_X6_tear u) := by
  refine con_of (by decide) rfl (fun _ => Nat.le_of_ble_eq_true rfl) (fun X ad => ?_)
  show Go X ad mi_X6_tear ivI 0 [(0, .ref (ad 86))] [] u (f_X6_tear u)
  unfold f_X6_tear
  refine go_aload_n 0 rfl dX6_tear_0 rfl ?_
  refine go_getIL clX6 kt_86 5 (Nat.le_of_ble_eq_true rfl) (c := 0) (fun _ => rfl) kr_86 gw321 dX6_tear_1 ?_
  refine go_if_eq (tgt := 11) dX6_tear_4 (by decide) ?_ ?_
  · refine go_iconst (v := (0 : Int32)) dX6_tear_11 (by decide) ?_
    refine go_istore_n (lv' := [(1, .int (0 : Int32)), (0, .ref (ad 86))]) dX6_tear_12 rfl (Nat.le_of_ble_eq_true rfl) rfl ?_
    refine go_aload_n 1 rfl dX6_tear_13 rfl ?_
    refine go_iconst (v := (0 : Int32)) dX6_tear_14 (by decide) ?_
    refine go_putIL clX6 kt_86 5 (Nat.le_of_ble_eq_true rfl) (c := 0) (fun _ => rfl) (by decide) kr_86 (fty := .boolean) (tyX6_ok 5 (Nat.le_of_ble_eq_true rfl)) rfl rfl rfl (fun _ => Nat.le_of_ble_eq_true rfl) gw321 dX6_tear_15 ?_
    refine go_nmU (fun u1 => ?_)
    refine go_iload_n 0 rfl dX6_tear_18 rfl ?_
    exact go_iret rfl dX6_tear_19
  · refine go_iconst (v := (1 : Int32)) dX6_tear_7 (by decide) ?_
    refine go_goto (tgt := 12) dX6_tear_8 (by decide) ?_
    refine go_istore_n (lv' := [(1, .int (1 : Int32)), (0, .ref (ad 86))]) dX6_tear_12 rfl (Nat.le_of_ble_eq_true rfl) rfl ?_
    refine go_aload_n 1 rfl dX6_tear_13 rfl ?_
    refine go_iconst (v := (0 : Int32)) dX6_tear_14 (by decide) ?_
    refine go_putIL clX6 kt_86 5 (Nat.le_of_ble_eq_true rfl) (c := 0) (fun _ => rfl) (by decide) kr_86 (fty := .boolean) (tyX6_ok 5 (Nat.le_of_ble_eq_true rfl)) rfl rfl rfl (fun _ => Nat.le_of_ble_eq_true rfl) gw321 dX6_tear_15 ?_
    refine go_nmU (fun u2 => ?_)
    refine go_iload_n 0 rfl dX6_tear_18 rfl ?_
    exact go_iret rfl dX6_tear_19
def f_X6_count (a1 : Int32) (u : Uw) : Option (Int32 × Uw) :=
  nm a1 fun x1 =>
  if x1 = (0 : Int32) then
  (nm (u.1 20 (0 : Int32).toNatClampNeg) fun x2 =>
  some (x2, u))
  else
  (if x1 = (1 : Int32) then
  (some ((u.1 25 1), u))
  else
  (if x1 = (2 : Int32) then
  (nm (u.1 20 (1 : Int32).toNatClampNeg) fun x5 =>
  some (x5, u))
  else
  (if x1 = (3 : Int32) then
  (bd (f_X6_together (2 : Int32) u) fun r7 u8 =>
  some (r7, u8))
  else
  (bd (f_X6_finds (-1000000001 : Int32) u) fun r10 u11 =>
  some (r10, u11)))))
set_option maxHeartbeats 4000000 in
set_option maxRecDepth 100000 in
theorem g_X6_count (a1 : Int32) (u : Uw) : ∀ l, Con l yX6_count mi_X6_count ivI (fun ad => [.ref (ad 86), .int a1]) u (f_X6_count a1 u) := by
  refine con_of (by decide) rfl (fun _ => Nat.le_of_ble_eq_true rfl) (fun X ad => ?_)
  show Go X ad mi_X6_count ivI 0 [(0, .ref (ad 86)), (1, .int a1)] [] u (f_X6_count a1 u)
  unfold f_X6_count
  refine go_iload_n 1 rfl dX6_count_0 rfl ?_
  refine go_nm (fun x1 => ?_)
  refine go_ite (fun hx => ?_) (fun h3 => ?_)
  · subst hx
    refine go_tin (off := 31) (tgt := 32) dX6_count_1 (by decide) (by decide) (by decide) (by decide) ?_
    refine go_aload_n 0 rfl dX6_count_32 rfl ?_
    refine go_getR clX6 kt_86 0 (Nat.le_of_ble_eq_true rfl) (f := 87) (fun _ => rfl) gw207 dX6_count_33 ?_
    refine go_iconst (v := (0 : Int32)) dX6_count_36 (by decide) ?_
    refine go_ialdL kt_87 kr_87 kl_87 rfl dX6_count_37 ?_
    refine go_nm (fun x2 => ?_)
    exact go_iret rfl dX6_count_38
  · refine go_ite (fun hx => ?_) (fun h4 => ?_)
    · subst hx
      refine go_tin (off := 38) (tgt := 39) dX6_count_1 (by decide) (by decide) (by decide) (by decide) ?_
      refine go_aload_n 0 rfl dX6_count_39 rfl ?_
      refine go_getIL clX6 kt_86 7 (Nat.le_of_ble_eq_true rfl) (c := 1) (fun _ => rfl) kr_86 gw266 dX6_count_40 ?_
      exact go_iret rfl dX6_count_43
    · refine go_ite (fun hx => ?_) (fun h6 => ?_)
      · subst hx
        refine go_tin (off := 43) (tgt := 44) dX6_count_1 (by decide) (by decide) (by decide) (by decide) ?_
        refine go_aload_n 0 rfl dX6_count_44 rfl ?_
        refine go_getR clX6 kt_86 0 (Nat.le_of_ble_eq_true rfl) (f := 87) (fun _ => rfl) gw207 dX6_count_45 ?_
        refine go_iconst (v := (1 : Int32)) dX6_count_48 (by decide) ?_
        refine go_ialdL kt_87 kr_87 kl_87 rfl dX6_count_49 ?_
        refine go_nm (fun x5 => ?_)
        exact go_iret rfl dX6_count_50
      · refine go_ite (fun hx => ?_) (fun h9 => ?_)
        · subst hx
          refine go_tin (off := 50) (tgt := 51) dX6_count_1 (by decide) (by decide) (by decide) (by decide) ?_
          refine go_aload_n 0 rfl dX6_count_51 rfl ?_
          refine go_iconst (v := (2 : Int32)) dX6_count_52 (by decide) ?_
          refine go_callVI (As := fun ad => [.int (2 : Int32)]) (g_X6_together (2 : Int32) u) mv_X6_together clX6 kt_86 gw253 rfl ⟨Nat.le_of_ble_eq_true rfl, Nat.le_of_ble_eq_true rfl⟩ rfl (Nat.le_of_ble_eq_true rfl) dX6_count_53 (fun r7 u8 => ?_)
          exact go_iret rfl dX6_count_56
        · refine go_tout (tgt := 57) dX6_count_1 ?_ (by decide) ?_
          · have a0 : x1.toInt ≠ 0 := int_ne h3; have a1 : x1.toInt ≠ 1 := int_ne h4; have a2 : x1.toInt ≠ 2 := int_ne h6; have a3 : x1.toInt ≠ 3 := int_ne h9; omega
          · refine go_aload_n 0 rfl dX6_count_57 rfl ?_
            refine go_ldc (v := (-1000000001 : Int32)) gw205 dX6_count_58 ?_
            refine go_callVI (As := fun ad => [.int (-1000000001 : Int32)]) (g_X6_finds (-1000000001 : Int32) u) mv_X6_finds clX6 kt_86 gw219 rfl ⟨Nat.le_of_ble_eq_true rfl, Nat.le_of_ble_eq_true rfl⟩ rfl (Nat.le_of_ble_eq_true rfl) dX6_count_60 (fun r10 u11 => ?_)
            exact go_iret rfl dX6_count_63
def b_X6_status_25 (ih25 : Int32 × Int32 × Int32 × Uw → Option (Int32 × Uw)) (s : Int32 × Int32 × Int32 × Uw) : Option (Int32 × Uw) :=
  if (7 : Int32) ≤ s.2.2.1 then
  (some (s.2.1, s.2.2.2))
  else
  (if s.1 < 0 then
  (ck (inb s.2.2.1 7) <|
  nm (s.2.2.2.1 24 s.2.2.1.toNatClampNeg) fun x4 =>
  nm (s.2.1 + x4) fun x5 =>
  ih25 (s.1, x5, (s.2.2.1 + (1 : Int32)), s.2.2.2))
  else
  (if s.2.2.1 = s.1 then
  (ck (inb s.2.2.1 7) <|
  nm (s.2.2.2.1 24 s.2.2.1.toNatClampNeg) fun x8 =>
  nm (s.2.1 + x8) fun x9 =>
  ih25 (s.1, x9, (s.2.2.1 + (1 : Int32)), s.2.2.2))
  else
  (nm (s.2.1 + (0 : Int32)) fun x6 =>
  ih25 (s.1, x6, (s.2.2.1 + (1 : Int32)), s.2.2.2))))
def f_X6_status (a1 : Int32) (u : Uw) : Option (Int32 × Uw) :=
  bd (f_X6_in (a1.toInt64) (-1 : Int64) (6 : Int64) u) fun r1 u2 =>
  if r1 = true then
  (lp b_X6_status_25 2100 (a1, (0 : Int32), (0 : Int32), u2))
  else
  (bd (f_X6_finds (-1000000001 : Int32) u2) fun r10 u11 =>
  some (r10, u11))
set_option maxHeartbeats 4000000 in
set_option maxRecDepth 100000 in
theorem gl_X6_status_25 (X : Cx) (ad : Nat → Nat) : ∀ (n : Nat) (s : Int32 × Int32 × Int32 × Uw), Go X ad mi_X6_status ivI 25 [(0, .ref (ad 86)), (1, .int s.1), (2, .int s.2.1), (3, .int s.2.2.1)] [] s.2.2.2 (lp b_X6_status_25 n s) := by
  refine go_lp (G := fun (s : Int32 × Int32 × Int32 × Uw) o => Go X ad mi_X6_status ivI 25 [(0, .ref (ad 86)), (1, .int s.1), (2, .int s.2.1), (3, .int s.2.2.1)] [] s.2.2.2 o) (fun _ => go_none) (fun ih25 hih25 s => ?_)
  show Go X ad mi_X6_status ivI 25 [(0, .ref (ad 86)), (1, .int s.1), (2, .int s.2.1), (3, .int s.2.2.1)] [] s.2.2.2 (b_X6_status_25 ih25 s)
  unfold b_X6_status_25
  refine go_iload_n 3 rfl dX6_status_25 rfl ?_
  refine go_bipush (v := (7 : Int32)) dX6_status_26 (by decide) ?_
  refine go_icmp_ge (tgt := 59) dX6_status_28 (by decide) ?_ ?_
  · refine go_iload_n 2 rfl dX6_status_59 rfl ?_
    exact go_iret rfl dX6_status_60
  · refine go_iload_n 2 rfl dX6_status_31 rfl ?_
    refine go_iload_n 1 rfl dX6_status_32 rfl ?_
    refine go_if_lt (tgt := 41) dX6_status_33 (by decide) ?_ ?_
    · refine go_aload_n 0 rfl dX6_status_41 rfl ?_
      refine go_getR clX6 kt_86 4 (Nat.le_of_ble_eq_true rfl) (f := 91) (fun _ => rfl) gw204 dX6_status_42 ?_
      refine go_iload_n 3 rfl dX6_status_45 rfl ?_
      refine go_ck (fun h3 => ?_)
      refine go_ialdL kt_91 kr_91 kl_91 h3 dX6_status_46 ?_
      refine go_nm (fun x4 => ?_)
      refine go_goto (tgt := 51) dX6_status_47 (by decide) ?_
      refine go_iadd dX6_status_51 ?_
      refine go_nm (fun x5 => ?_)
      refine go_istore_n (lv' := [(2, .int x5), (0, .ref (ad 86)), (1, .int s.1), (3, .int s.2.2.1)]) dX6_status_52 rfl (Nat.le_of_ble_eq_true rfl) rfl ?_
      refine go_iinc (v := (s.2.2.1 + (1 : Int32))) (lv' := [(3, .int (s.2.2.1 + (1 : Int32))), (2, .int x5), (0, .ref (ad 86)), (1, .int s.1)]) 3 rfl dX6_status_53 rfl (Nat.le_of_ble_eq_true rfl) rfl ?_
      refine go_goto (tgt := 25) dX6_status_56 (by decide) ?_
      exact go_sub [2, 3, 1, 0] rfl (hih25 (s.1, x5, (s.2.2.1 + (1 : Int32)), s.2.2.2))
    · refine go_iload_n 3 rfl dX6_status_36 rfl ?_
      refine go_iload_n 1 rfl dX6_status_37 rfl ?_
      refine go_icmp_ne (tgt := 50) dX6_status_38 (by decide) ?_ ?_
      · refine go_iconst (v := (0 : Int32)) dX6_status_50 (by decide) ?_
        refine go_iadd dX6_status_51 ?_
        refine go_nm (fun x6 => ?_)
        refine go_istore_n (lv' := [(2, .int x6), (0, .ref (ad 86)), (1, .int s.1), (3, .int s.2.2.1)]) dX6_status_52 rfl (Nat.le_of_ble_eq_true rfl) rfl ?_
        refine go_iinc (v := (s.2.2.1 + (1 : Int32))) (lv' := [(3, .int (s.2.2.1 + (1 : Int32))), (2, .int x6), (0, .ref (ad 86)), (1, .int s.1)]) 3 rfl dX6_status_53 rfl (Nat.le_of_ble_eq_true rfl) rfl ?_
        refine go_goto (tgt := 25) dX6_status_56 (by decide) ?_
        exact go_sub [2, 3, 1, 0] rfl (hih25 (s.1, x6, (s.2.2.1 + (1 : Int32)), s.2.2.2))
      · refine go_aload_n 0 rfl dX6_status_41 rfl ?_
        refine go_getR clX6 kt_86 4 (Nat.le_of_ble_eq_true rfl) (f := 91) (fun _ => rfl) gw204 dX6_status_42 ?_
        refine go_iload_n 3 rfl dX6_status_45 rfl ?_
        refine go_ck (fun h7 => ?_)
        refine go_ialdL kt_91 kr_91 kl_91 h7 dX6_status_46 ?_
        refine go_nm (fun x8 => ?_)
        refine go_goto (tgt := 51) dX6_status_47 (by decide) ?_
        refine go_iadd dX6_status_51 ?_
        refine go_nm (fun x9 => ?_)
        refine go_istore_n (lv' := [(2, .int x9), (0, .ref (ad 86)), (1, .int s.1), (3, .int s.2.2.1)]) dX6_status_52 rfl (Nat.le_of_ble_eq_true rfl) rfl ?_
        refine go_iinc (v := (s.2.2.1 + (1 : Int32))) (lv' := [(3, .int (s.2.2.1 + (1 : Int32))), (2, .int x9), (0, .ref (ad 86)), (1, .int s.1)]) 3 rfl dX6_status_53 rfl (Nat.le_of_ble_eq_true rfl) rfl ?_
        refine go_goto (tgt := 25) dX6_status_56 (by decide) ?_
        exact go_sub [2, 3, 1, 0] rfl (hih25 (s.1, x9, (s.2.2.1 + (1 : Int32)), s.2.2.2))
set_option maxHeartbeats 4000000 in
set_option maxRecDepth 100000 in
theorem g_X6_status (a1 : Int32) (u : Uw) : ∀ l, Con l yX6_status mi_X6_status ivI (fun ad => [.ref (ad 86), .int a1]) u (f_X6_status a1 u) := by
  refine con_of (by decide) rfl (fun _ => Nat.le_of_ble_eq_true rfl) (fun X ad => ?_)
  show Go X ad mi_X6_status ivI 0 [(0, .ref (ad 86)), (1, .int a1)] [] u (f_X6_status a1 u)
  unfold f_X6_status
  refine go_iload_n 1 rfl dX6_status_0 rfl ?_
  refine go_i2l dX6_status_1 ?_
  refine go_ldc2 (v := (-1 : Int64)) gw323 dX6_status_2 ?_
  refine go_ldc2 (v := (6 : Int64)) gw324 dX6_status_5 ?_
  refine go_callSZ (As := fun ad => [.long (a1.toInt64), .long (-1 : Int64), .long (6 : Int64)]) (g_X6_in (a1.toInt64) (-1 : Int64) (6 : Int64) u) mo_X6_in gw209 gw210 rfl ⟨Nat.le_of_ble_eq_true rfl, Nat.le_of_ble_eq_true rfl⟩ rfl (Nat.le_of_ble_eq_true rfl) dX6_status_8 (fun r1 u2 => ?_)
  refine go_ifz_ne (tgt := 21) dX6_status_11 (by decide) ?_ ?_
  · refine go_iconst (v := (0 : Int32)) dX6_status_21 (by decide) ?_
    refine go_istore_n (lv' := [(2, .int (0 : Int32)), (0, .ref (ad 86)), (1, .int a1)]) dX6_status_22 rfl (Nat.le_of_ble_eq_true rfl) rfl ?_
    refine go_iconst (v := (0 : Int32)) dX6_status_23 (by decide) ?_
    refine go_istore_n (lv' := [(3, .int (0 : Int32)), (2, .int (0 : Int32)), (0, .ref (ad 86)), (1, .int a1)]) dX6_status_24 rfl (Nat.le_of_ble_eq_true rfl) rfl ?_
    exact go_sub [2, 3, 1, 0] rfl (gl_X6_status_25 X ad  2100 (a1, (0 : Int32), (0 : Int32), u2))
  · refine go_aload_n 0 rfl dX6_status_14 rfl ?_
    refine go_ldc (v := (-1000000001 : Int32)) gw205 dX6_status_15 ?_
    refine go_callVI (As := fun ad => [.int (-1000000001 : Int32)]) (g_X6_finds (-1000000001 : Int32) u2) mv_X6_finds clX6 kt_86 gw219 rfl ⟨Nat.le_of_ble_eq_true rfl, Nat.le_of_ble_eq_true rfl⟩ rfl (Nat.le_of_ble_eq_true rfl) dX6_status_17 (fun r10 u11 => ?_)
    exact go_iret rfl dX6_status_20
