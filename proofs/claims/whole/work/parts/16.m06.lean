/-! methods: what each does to the world, and that its bytecode does so (laid by wip/whole/gen) -/
def f_X6_of (a1 : Int32) (a2 : Int32) (u : Uw) : Option (Int32 × Uw) :=
  bd (f_X6_isCalendar a1 u) fun r1 u2 =>
  if r1 = true then
  (bd (f_X6_in (a2.toInt64) (0 : Int64) (4 : Int64) u2) fun r5 u6 =>
  if r5 = true then
  (bd (f_X6_its a1 a2 u6) fun r9 u10 =>
  some (r9, u10))
  else
  (bd (f_X6_finds (-1000000001 : Int32) u6) fun r7 u8 =>
  some (r7, u8)))
  else
  (bd (f_X6_finds (-1000000001 : Int32) u2) fun r3 u4 =>
  some (r3, u4))
set_option maxHeartbeats 4000000 in
set_option maxRecDepth 100000 in
theorem g_X6_of (a1 : Int32) (a2 : Int32) (u : Uw) : ∀ l, Con l yX6_of mi_X6_of ivI (fun ad => [.ref (ad 86), .int a1, .int a2]) u (f_X6_of a1 a2 u) := by
  refine con_of (by decide) rfl (fun _ => Nat.le_of_ble_eq_true rfl) (fun X ad => ?_)
  show Go X ad mi_X6_of ivI 0 [(0, .ref (ad 86)), (1, .int a1), (2, .int a2)] [] u (f_X6_of a1 a2 u)
  unfold f_X6_of
  refine go_aload_n 0 rfl dX6_of_0 rfl ?_
  refine go_iload_n 1 rfl dX6_of_1 rfl ?_
  refine go_callVZ (As := fun ad => [.int a1]) (g_X6_isCalendar a1 u) mv_X6_isCalendar clX6 kt_86 gw211 rfl ⟨Nat.le_of_ble_eq_true rfl, Nat.le_of_ble_eq_true rfl⟩ rfl (Nat.le_of_ble_eq_true rfl) dX6_of_2 (fun r1 u2 => ?_)
  refine go_ifz_eq (tgt := 29) dX6_of_5 (by decide) ?_ ?_
  · refine go_aload_n 0 rfl dX6_of_29 rfl ?_
    refine go_ldc (v := (-1000000001 : Int32)) gw205 dX6_of_30 ?_
    refine go_callVI (As := fun ad => [.int (-1000000001 : Int32)]) (g_X6_finds (-1000000001 : Int32) u2) mv_X6_finds clX6 kt_86 gw219 rfl ⟨Nat.le_of_ble_eq_true rfl, Nat.le_of_ble_eq_true rfl⟩ rfl (Nat.le_of_ble_eq_true rfl) dX6_of_32 (fun r3 u4 => ?_)
    exact go_iret rfl dX6_of_35
  · refine go_iload_n 2 rfl dX6_of_8 rfl ?_
    refine go_i2l dX6_of_9 ?_
    refine go_lconst (v := (0 : Int64)) dX6_of_10 (by decide) ?_
    refine go_ldc2 (v := (4 : Int64)) gw220 dX6_of_11 ?_
    refine go_callSZ (As := fun ad => [.long (a2.toInt64), .long (0 : Int64), .long (4 : Int64)]) (g_X6_in (a2.toInt64) (0 : Int64) (4 : Int64) u2) mo_X6_in gw209 gw210 rfl ⟨Nat.le_of_ble_eq_true rfl, Nat.le_of_ble_eq_true rfl⟩ rfl (Nat.le_of_ble_eq_true rfl) dX6_of_14 (fun r5 u6 => ?_)
    refine go_ifz_eq (tgt := 29) dX6_of_17 (by decide) ?_ ?_
    · refine go_aload_n 0 rfl dX6_of_29 rfl ?_
      refine go_ldc (v := (-1000000001 : Int32)) gw205 dX6_of_30 ?_
      refine go_callVI (As := fun ad => [.int (-1000000001 : Int32)]) (g_X6_finds (-1000000001 : Int32) u6) mv_X6_finds clX6 kt_86 gw219 rfl ⟨Nat.le_of_ble_eq_true rfl, Nat.le_of_ble_eq_true rfl⟩ rfl (Nat.le_of_ble_eq_true rfl) dX6_of_32 (fun r7 u8 => ?_)
      exact go_iret rfl dX6_of_35
    · refine go_aload_n 0 rfl dX6_of_20 rfl ?_
      refine go_iload_n 1 rfl dX6_of_21 rfl ?_
      refine go_iload_n 2 rfl dX6_of_22 rfl ?_
      refine go_callVI (As := fun ad => [.int a1, .int a2]) (g_X6_its a1 a2 u6) mv_X6_its clX6 kt_86 gw221 rfl ⟨Nat.le_of_ble_eq_true rfl, Nat.le_of_ble_eq_true rfl⟩ rfl (Nat.le_of_ble_eq_true rfl) dX6_of_23 (fun r9 u10 => ?_)
      refine go_goto (tgt := 35) dX6_of_26 (by decide) ?_
      exact go_iret rfl dX6_of_35
def f_X6_isPart (a0 : Int32) (a1 : Int32) (u : Uw) : Option (Bool × Uw) :=
  if a0 = (2 : Int32) then
  (bd (f_X6_in (a1.toInt64) (1 : Int64) (60 : Int64) u) fun r7 u8 =>
  some (r7, u8))
  else
  (if a0 = (4 : Int32) then
  (bd (f_X6_in (a1.toInt64) (0 : Int64) (9999 : Int64) u) fun r5 u6 =>
  some (r5, u6))
  else
  (if a0 = (1 : Int32) then
  (bd (f_X6_in (a1.toInt64) (0 : Int64) (99 : Int64) u) fun r1 u2 =>
  if r1 = true then
  (some (true, u2))
  else
  (some (false, u2)))
  else
  (if a0 = (3 : Int32) then
  (bd (f_X6_in (a1.toInt64) (0 : Int64) (99 : Int64) u) fun r3 u4 =>
  if r3 = true then
  (some (true, u4))
  else
  (some (false, u4)))
  else
  (some (false, u)))))
set_option maxHeartbeats 4000000 in
set_option maxRecDepth 100000 in
theorem g_X6_isPart (a0 : Int32) (a1 : Int32) (u : Uw) : ∀ l, Con l yX6_isPart mi_X6_isPart ivZ (fun ad => [.int a0, .int a1]) u (f_X6_isPart a0 a1 u) := by
  refine con_of (by decide) rfl (fun _ => Nat.le_of_ble_eq_true rfl) (fun X ad => ?_)
  show Go X ad mi_X6_isPart ivZ 0 [(0, .int a0), (1, .int a1)] [] u (f_X6_isPart a0 a1 u)
  unfold f_X6_isPart
  refine go_iload_n 0 rfl dX6_isPart_0 rfl ?_
  refine go_iconst (v := (2 : Int32)) dX6_isPart_1 (by decide) ?_
  refine go_icmp_ne (tgt := 17) dX6_isPart_2 (by decide) ?_ ?_
  · refine go_iload_n 0 rfl dX6_isPart_17 rfl ?_
    refine go_iconst (v := (4 : Int32)) dX6_isPart_18 (by decide) ?_
    refine go_icmp_ne (tgt := 34) dX6_isPart_19 (by decide) ?_ ?_
    · refine go_iload_n 0 rfl dX6_isPart_34 rfl ?_
      refine go_iconst (v := (1 : Int32)) dX6_isPart_35 (by decide) ?_
      refine go_icmp_eq (tgt := 44) dX6_isPart_36 (by decide) ?_ ?_
      · refine go_iload_n 1 rfl dX6_isPart_44 rfl ?_
        refine go_i2l dX6_isPart_45 ?_
        refine go_lconst (v := (0 : Int64)) dX6_isPart_46 (by decide) ?_
        refine go_ldc2 (v := (99 : Int64)) gw222 dX6_isPart_47 ?_
        refine go_callSZ (As := fun ad => [.long (a1.toInt64), .long (0 : Int64), .long (99 : Int64)]) (g_X6_in (a1.toInt64) (0 : Int64) (99 : Int64) u) mo_X6_in gw209 gw210 rfl ⟨Nat.le_of_ble_eq_true rfl, Nat.le_of_ble_eq_true rfl⟩ rfl (Nat.le_of_ble_eq_true rfl) dX6_isPart_50 (fun r1 u2 => ?_)
        refine go_ifz_eq (tgt := 60) dX6_isPart_53 (by decide) ?_ ?_
        · refine go_iconst (v := (0 : Int32)) dX6_isPart_60 (by decide) ?_
          exact go_zret (b := false) rfl dX6_isPart_61
        · refine go_iconst (v := (1 : Int32)) dX6_isPart_56 (by decide) ?_
          refine go_goto (tgt := 61) dX6_isPart_57 (by decide) ?_
          exact go_zret (b := true) rfl dX6_isPart_61
      · refine go_iload_n 0 rfl dX6_isPart_39 rfl ?_
        refine go_iconst (v := (3 : Int32)) dX6_isPart_40 (by decide) ?_
        refine go_icmp_ne (tgt := 60) dX6_isPart_41 (by decide) ?_ ?_
        · refine go_iconst (v := (0 : Int32)) dX6_isPart_60 (by decide) ?_
          exact go_zret (b := false) rfl dX6_isPart_61
        · refine go_iload_n 1 rfl dX6_isPart_44 rfl ?_
          refine go_i2l dX6_isPart_45 ?_
          refine go_lconst (v := (0 : Int64)) dX6_isPart_46 (by decide) ?_
          refine go_ldc2 (v := (99 : Int64)) gw222 dX6_isPart_47 ?_
          refine go_callSZ (As := fun ad => [.long (a1.toInt64), .long (0 : Int64), .long (99 : Int64)]) (g_X6_in (a1.toInt64) (0 : Int64) (99 : Int64) u) mo_X6_in gw209 gw210 rfl ⟨Nat.le_of_ble_eq_true rfl, Nat.le_of_ble_eq_true rfl⟩ rfl (Nat.le_of_ble_eq_true rfl) dX6_isPart_50 (fun r3 u4 => ?_)
          refine go_ifz_eq (tgt := 60) dX6_isPart_53 (by decide) ?_ ?_
          · refine go_iconst (v := (0 : Int32)) dX6_isPart_60 (by decide) ?_
            exact go_zret (b := false) rfl dX6_isPart_61
          · refine go_iconst (v := (1 : Int32)) dX6_isPart_56 (by decide) ?_
            refine go_goto (tgt := 61) dX6_isPart_57 (by decide) ?_
            exact go_zret (b := true) rfl dX6_isPart_61
    · refine go_iload_n 1 rfl dX6_isPart_22 rfl ?_
      refine go_i2l dX6_isPart_23 ?_
      refine go_lconst (v := (0 : Int64)) dX6_isPart_24 (by decide) ?_
      refine go_ldc2 (v := (9999 : Int64)) gw223 dX6_isPart_25 ?_
      refine go_callSZ (As := fun ad => [.long (a1.toInt64), .long (0 : Int64), .long (9999 : Int64)]) (g_X6_in (a1.toInt64) (0 : Int64) (9999 : Int64) u) mo_X6_in gw209 gw210 rfl ⟨Nat.le_of_ble_eq_true rfl, Nat.le_of_ble_eq_true rfl⟩ rfl (Nat.le_of_ble_eq_true rfl) dX6_isPart_28 (fun r5 u6 => ?_)
      refine go_goto (tgt := 61) dX6_isPart_31 (by decide) ?_
      exact go_zret rfl dX6_isPart_61
  · refine go_iload_n 1 rfl dX6_isPart_5 rfl ?_
    refine go_i2l dX6_isPart_6 ?_
    refine go_lconst (v := (1 : Int64)) dX6_isPart_7 (by decide) ?_
    refine go_ldc2 (v := (60 : Int64)) gw224 dX6_isPart_8 ?_
    refine go_callSZ (As := fun ad => [.long (a1.toInt64), .long (1 : Int64), .long (60 : Int64)]) (g_X6_in (a1.toInt64) (1 : Int64) (60 : Int64) u) mo_X6_in gw209 gw210 rfl ⟨Nat.le_of_ble_eq_true rfl, Nat.le_of_ble_eq_true rfl⟩ rfl (Nat.le_of_ble_eq_true rfl) dX6_isPart_11 (fun r7 u8 => ?_)
    refine go_goto (tgt := 61) dX6_isPart_14 (by decide) ?_
    exact go_zret rfl dX6_isPart_61
def f_X6_set (a1 : Int32) (a2 : Int32) (a3 : Int32) (u : Uw) : Option (Int32 × Uw) :=
  bd (f_X6_isCalendar a1 u) fun r1 u2 =>
  if r1 = true then
  (bd (f_X6_isPart a2 a3 u2) fun r5 u6 =>
  if r5 = true then
  (bd (f_X6_becomes (((7 : Int32) + ((5 : Int32) * a1)) + a2) a3 u6) fun r9 u10 =>
  some (r9, u10))
  else
  (bd (f_X6_finds (-1000000001 : Int32) u6) fun r7 u8 =>
  some (r7, u8)))
  else
  (bd (f_X6_finds (-1000000001 : Int32) u2) fun r3 u4 =>
  some (r3, u4))
set_option maxHeartbeats 4000000 in
set_option maxRecDepth 100000 in
theorem g_X6_set (a1 : Int32) (a2 : Int32) (a3 : Int32) (u : Uw) : ∀ l, Con l yX6_set mi_X6_set ivI (fun ad => [.ref (ad 86), .int a1, .int a2, .int a3]) u (f_X6_set a1 a2 a3 u) := by
  refine con_of (by decide) rfl (fun _ => Nat.le_of_ble_eq_true rfl) (fun X ad => ?_)
  show Go X ad mi_X6_set ivI 0 [(0, .ref (ad 86)), (1, .int a1), (2, .int a2), (3, .int a3)] [] u (f_X6_set a1 a2 a3 u)
  unfold f_X6_set
  refine go_aload_n 0 rfl dX6_set_0 rfl ?_
  refine go_iload_n 1 rfl dX6_set_1 rfl ?_
  refine go_callVZ (As := fun ad => [.int a1]) (g_X6_isCalendar a1 u) mv_X6_isCalendar clX6 kt_86 gw211 rfl ⟨Nat.le_of_ble_eq_true rfl, Nat.le_of_ble_eq_true rfl⟩ rfl (Nat.le_of_ble_eq_true rfl) dX6_set_2 (fun r1 u2 => ?_)
  refine go_ifz_eq (tgt := 32) dX6_set_5 (by decide) ?_ ?_
  · refine go_aload_n 0 rfl dX6_set_32 rfl ?_
    refine go_ldc (v := (-1000000001 : Int32)) gw205 dX6_set_33 ?_
    refine go_callVI (As := fun ad => [.int (-1000000001 : Int32)]) (g_X6_finds (-1000000001 : Int32) u2) mv_X6_finds clX6 kt_86 gw219 rfl ⟨Nat.le_of_ble_eq_true rfl, Nat.le_of_ble_eq_true rfl⟩ rfl (Nat.le_of_ble_eq_true rfl) dX6_set_35 (fun r3 u4 => ?_)
    exact go_iret rfl dX6_set_38
  · refine go_iload_n 2 rfl dX6_set_8 rfl ?_
    refine go_iload_n 3 rfl dX6_set_9 rfl ?_
    refine go_callSZ (As := fun ad => [.int a2, .int a3]) (g_X6_isPart a2 a3 u2) mo_X6_isPart gw225 gw226 rfl ⟨Nat.le_of_ble_eq_true rfl, Nat.le_of_ble_eq_true rfl⟩ rfl (Nat.le_of_ble_eq_true rfl) dX6_set_10 (fun r5 u6 => ?_)
    refine go_ifz_eq (tgt := 32) dX6_set_13 (by decide) ?_ ?_
    · refine go_aload_n 0 rfl dX6_set_32 rfl ?_
      refine go_ldc (v := (-1000000001 : Int32)) gw205 dX6_set_33 ?_
      refine go_callVI (As := fun ad => [.int (-1000000001 : Int32)]) (g_X6_finds (-1000000001 : Int32) u6) mv_X6_finds clX6 kt_86 gw219 rfl ⟨Nat.le_of_ble_eq_true rfl, Nat.le_of_ble_eq_true rfl⟩ rfl (Nat.le_of_ble_eq_true rfl) dX6_set_35 (fun r7 u8 => ?_)
      exact go_iret rfl dX6_set_38
    · refine go_aload_n 0 rfl dX6_set_16 rfl ?_
      refine go_bipush (v := (7 : Int32)) dX6_set_17 (by decide) ?_
      refine go_iconst (v := (5 : Int32)) dX6_set_19 (by decide) ?_
      refine go_iload_n 1 rfl dX6_set_20 rfl ?_
      refine go_imul dX6_set_21 ?_
      refine go_iadd dX6_set_22 ?_
      refine go_iload_n 2 rfl dX6_set_23 rfl ?_
      refine go_iadd dX6_set_24 ?_
      refine go_iload_n 3 rfl dX6_set_25 rfl ?_
      refine go_callVI (As := fun ad => [.int (((7 : Int32) + ((5 : Int32) * a1)) + a2), .int a3]) (g_X6_becomes (((7 : Int32) + ((5 : Int32) * a1)) + a2) a3 u6) mv_X6_becomes clX6 kt_86 gw227 rfl ⟨Nat.le_of_ble_eq_true rfl, Nat.le_of_ble_eq_true rfl⟩ rfl (Nat.le_of_ble_eq_true rfl) dX6_set_26 (fun r9 u10 => ?_)
      refine go_goto (tgt := 38) dX6_set_29 (by decide) ?_
      exact go_iret rfl dX6_set_38
def f_X6_turn (a1 : Int32) (a2 : Int32) (u : Uw) : Option (Int32 × Uw) :=
  bd (f_X6_isCalendar a1 u) fun r1 u2 =>
  if r1 = true then
  (bd (f_X6_isKind a2 u2) fun r5 u6 =>
  if r5 = true then
  (bd (f_X6_becomes (((7 : Int32) + ((5 : Int32) * a1)) + (0 : Int32)) a2 u6) fun r9 u10 =>
  some (r9, u10))
  else
  (bd (f_X6_finds (-1000000001 : Int32) u6) fun r7 u8 =>
  some (r7, u8)))
  else
  (bd (f_X6_finds (-1000000001 : Int32) u2) fun r3 u4 =>
  some (r3, u4))
set_option maxHeartbeats 4000000 in
set_option maxRecDepth 100000 in
theorem g_X6_turn (a1 : Int32) (a2 : Int32) (u : Uw) : ∀ l, Con l yX6_turn mi_X6_turn ivI (fun ad => [.ref (ad 86), .int a1, .int a2]) u (f_X6_turn a1 a2 u) := by
  refine con_of (by decide) rfl (fun _ => Nat.le_of_ble_eq_true rfl) (fun X ad => ?_)
  show Go X ad mi_X6_turn ivI 0 [(0, .ref (ad 86)), (1, .int a1), (2, .int a2)] [] u (f_X6_turn a1 a2 u)
  unfold f_X6_turn
  refine go_aload_n 0 rfl dX6_turn_0 rfl ?_
  refine go_iload_n 1 rfl dX6_turn_1 rfl ?_
  refine go_callVZ (As := fun ad => [.int a1]) (g_X6_isCalendar a1 u) mv_X6_isCalendar clX6 kt_86 gw211 rfl ⟨Nat.le_of_ble_eq_true rfl, Nat.le_of_ble_eq_true rfl⟩ rfl (Nat.le_of_ble_eq_true rfl) dX6_turn_2 (fun r1 u2 => ?_)
  refine go_ifz_eq (tgt := 31) dX6_turn_5 (by decide) ?_ ?_
  · refine go_aload_n 0 rfl dX6_turn_31 rfl ?_
    refine go_ldc (v := (-1000000001 : Int32)) gw205 dX6_turn_32 ?_
    refine go_callVI (As := fun ad => [.int (-1000000001 : Int32)]) (g_X6_finds (-1000000001 : Int32) u2) mv_X6_finds clX6 kt_86 gw219 rfl ⟨Nat.le_of_ble_eq_true rfl, Nat.le_of_ble_eq_true rfl⟩ rfl (Nat.le_of_ble_eq_true rfl) dX6_turn_34 (fun r3 u4 => ?_)
    exact go_iret rfl dX6_turn_37
  · refine go_iload_n 2 rfl dX6_turn_8 rfl ?_
    refine go_callSZ (As := fun ad => [.int a2]) (g_X6_isKind a2 u2) mo_X6_isKind gw215 gw216 rfl ⟨Nat.le_of_ble_eq_true rfl, Nat.le_of_ble_eq_true rfl⟩ rfl (Nat.le_of_ble_eq_true rfl) dX6_turn_9 (fun r5 u6 => ?_)
    refine go_ifz_eq (tgt := 31) dX6_turn_12 (by decide) ?_ ?_
    · refine go_aload_n 0 rfl dX6_turn_31 rfl ?_
      refine go_ldc (v := (-1000000001 : Int32)) gw205 dX6_turn_32 ?_
      refine go_callVI (As := fun ad => [.int (-1000000001 : Int32)]) (g_X6_finds (-1000000001 : Int32) u6) mv_X6_finds clX6 kt_86 gw219 rfl ⟨Nat.le_of_ble_eq_true rfl, Nat.le_of_ble_eq_true rfl⟩ rfl (Nat.le_of_ble_eq_true rfl) dX6_turn_34 (fun r7 u8 => ?_)
      exact go_iret rfl dX6_turn_37
    · refine go_aload_n 0 rfl dX6_turn_15 rfl ?_
      refine go_bipush (v := (7 : Int32)) dX6_turn_16 (by decide) ?_
      refine go_iconst (v := (5 : Int32)) dX6_turn_18 (by decide) ?_
      refine go_iload_n 1 rfl dX6_turn_19 rfl ?_
      refine go_imul dX6_turn_20 ?_
      refine go_iadd dX6_turn_21 ?_
      refine go_iconst (v := (0 : Int32)) dX6_turn_22 (by decide) ?_
      refine go_iadd dX6_turn_23 ?_
      refine go_iload_n 2 rfl dX6_turn_24 rfl ?_
      refine go_callVI (As := fun ad => [.int (((7 : Int32) + ((5 : Int32) * a1)) + (0 : Int32)), .int a2]) (g_X6_becomes (((7 : Int32) + ((5 : Int32) * a1)) + (0 : Int32)) a2 u6) mv_X6_becomes clX6 kt_86 gw227 rfl ⟨Nat.le_of_ble_eq_true rfl, Nat.le_of_ble_eq_true rfl⟩ rfl (Nat.le_of_ble_eq_true rfl) dX6_turn_25 (fun r9 u10 => ?_)
      refine go_goto (tgt := 37) dX6_turn_28 (by decide) ?_
      exact go_iret rfl dX6_turn_37
def f_X6_isUnder (a0 : Int32) (a1 : Int32) (u : Uw) : Option (Bool × Uw) :=
  if a1 = 0 then
  (some (true, u))
  else
  (if a0 = a1 then
  (some (true, u))
  else
  (if a0 = (4 : Int32) then
  (if a1 = (2 : Int32) then
  (some (true, u))
  else
  (if a0 = (5 : Int32) then
  (if a1 = (1 : Int32) then
  (some (true, u))
  else
  (some (false, u)))
  else
  (some (false, u))))
  else
  (if a0 = (5 : Int32) then
  (if a1 = (1 : Int32) then
  (some (true, u))
  else
  (some (false, u)))
  else
  (some (false, u)))))
set_option maxHeartbeats 4000000 in
set_option maxRecDepth 100000 in
theorem g_X6_isUnder (a0 : Int32) (a1 : Int32) (u : Uw) : ∀ l, Con l yX6_isUnder mi_X6_isUnder ivZ (fun ad => [.int a0, .int a1]) u (f_X6_isUnder a0 a1 u) := by
  refine con_of (by decide) rfl (fun _ => Nat.le_of_ble_eq_true rfl) (fun X ad => ?_)
  show Go X ad mi_X6_isUnder ivZ 0 [(0, .int a0), (1, .int a1)] [] u (f_X6_isUnder a0 a1 u)
  unfold f_X6_isUnder
  refine go_iload_n 1 rfl dX6_isUnder_0 rfl ?_
  refine go_if_eq (tgt := 29) dX6_isUnder_1 (by decide) ?_ ?_
  · refine go_iconst (v := (1 : Int32)) dX6_isUnder_29 (by decide) ?_
    refine go_goto (tgt := 34) dX6_isUnder_30 (by decide) ?_
    exact go_zret (b := true) rfl dX6_isUnder_34
  · refine go_iload_n 0 rfl dX6_isUnder_4 rfl ?_
    refine go_iload_n 1 rfl dX6_isUnder_5 rfl ?_
    refine go_icmp_eq (tgt := 29) dX6_isUnder_6 (by decide) ?_ ?_
    · refine go_iconst (v := (1 : Int32)) dX6_isUnder_29 (by decide) ?_
      refine go_goto (tgt := 34) dX6_isUnder_30 (by decide) ?_
      exact go_zret (b := true) rfl dX6_isUnder_34
    · refine go_iload_n 0 rfl dX6_isUnder_9 rfl ?_
      refine go_iconst (v := (4 : Int32)) dX6_isUnder_10 (by decide) ?_
      refine go_icmp_ne (tgt := 19) dX6_isUnder_11 (by decide) ?_ ?_
      · refine go_iload_n 0 rfl dX6_isUnder_19 rfl ?_
        refine go_iconst (v := (5 : Int32)) dX6_isUnder_20 (by decide) ?_
        refine go_icmp_ne (tgt := 33) dX6_isUnder_21 (by decide) ?_ ?_
        · refine go_iconst (v := (0 : Int32)) dX6_isUnder_33 (by decide) ?_
          exact go_zret (b := false) rfl dX6_isUnder_34
        · refine go_iload_n 1 rfl dX6_isUnder_24 rfl ?_
          refine go_iconst (v := (1 : Int32)) dX6_isUnder_25 (by decide) ?_
          refine go_icmp_ne (tgt := 33) dX6_isUnder_26 (by decide) ?_ ?_
          · refine go_iconst (v := (0 : Int32)) dX6_isUnder_33 (by decide) ?_
            exact go_zret (b := false) rfl dX6_isUnder_34
          · refine go_iconst (v := (1 : Int32)) dX6_isUnder_29 (by decide) ?_
            refine go_goto (tgt := 34) dX6_isUnder_30 (by decide) ?_
            exact go_zret (b := true) rfl dX6_isUnder_34
      · refine go_iload_n 1 rfl dX6_isUnder_14 rfl ?_
        refine go_iconst (v := (2 : Int32)) dX6_isUnder_15 (by decide) ?_
        refine go_icmp_eq (tgt := 29) dX6_isUnder_16 (by decide) ?_ ?_
        · refine go_iconst (v := (1 : Int32)) dX6_isUnder_29 (by decide) ?_
          refine go_goto (tgt := 34) dX6_isUnder_30 (by decide) ?_
          exact go_zret (b := true) rfl dX6_isUnder_34
        · refine go_iload_n 0 rfl dX6_isUnder_19 rfl ?_
          refine go_iconst (v := (5 : Int32)) dX6_isUnder_20 (by decide) ?_
          refine go_icmp_ne (tgt := 33) dX6_isUnder_21 (by decide) ?_ ?_
          · refine go_iconst (v := (0 : Int32)) dX6_isUnder_33 (by decide) ?_
            exact go_zret (b := false) rfl dX6_isUnder_34
          · refine go_iload_n 1 rfl dX6_isUnder_24 rfl ?_
            refine go_iconst (v := (1 : Int32)) dX6_isUnder_25 (by decide) ?_
            refine go_icmp_ne (tgt := 33) dX6_isUnder_26 (by decide) ?_ ?_
            · refine go_iconst (v := (0 : Int32)) dX6_isUnder_33 (by decide) ?_
              exact go_zret (b := false) rfl dX6_isUnder_34
            · refine go_iconst (v := (1 : Int32)) dX6_isUnder_29 (by decide) ?_
              refine go_goto (tgt := 34) dX6_isUnder_30 (by decide) ?_
              exact go_zret (b := true) rfl dX6_isUnder_34
def f_X6_as (a1 : Int32) (a2 : Int32) (u : Uw) : Option (Int32 × Uw) :=
  bd (f_X6_isCalendar a1 u) fun r1 u2 =>
  if r1 = true then
  (bd (f_X6_isKind a2 u2) fun r5 u6 =>
  if r5 = true then
  (bd (f_X6_its a1 (0 : Int32) u6) fun r7 u8 =>
  bd (f_X6_isUnder r7 a2 u8) fun r9 u10 =>
  if r9 = true then
  (bd (f_X6_its a1 (1 : Int32) u10) fun r13 u14 =>
  some (r13, u14))
  else
  (bd (f_X6_finds (-1000000003 : Int32) u10) fun r11 u12 =>
  some (r11, u12)))
  else
  (bd (f_X6_finds (-1000000001 : Int32) u6) fun r15 u16 =>
  some (r15, u16)))
  else
  (bd (f_X6_finds (-1000000001 : Int32) u2) fun r3 u4 =>
  some (r3, u4))
set_option maxHeartbeats 4000000 in
set_option maxRecDepth 100000 in
theorem g_X6_as (a1 : Int32) (a2 : Int32) (u : Uw) : ∀ l, Con l yX6_as mi_X6_as ivI (fun ad => [.ref (ad 86), .int a1, .int a2]) u (f_X6_as a1 a2 u) := by
  refine con_of (by decide) rfl (fun _ => Nat.le_of_ble_eq_true rfl) (fun X ad => ?_)
  show Go X ad mi_X6_as ivI 0 [(0, .ref (ad 86)), (1, .int a1), (2, .int a2)] [] u (f_X6_as a1 a2 u)
  unfold f_X6_as
  refine go_aload_n 0 rfl dX6_as_0 rfl ?_
  refine go_iload_n 1 rfl dX6_as_1 rfl ?_
  refine go_callVZ (As := fun ad => [.int a1]) (g_X6_isCalendar a1 u) mv_X6_isCalendar clX6 kt_86 gw211 rfl ⟨Nat.le_of_ble_eq_true rfl, Nat.le_of_ble_eq_true rfl⟩ rfl (Nat.le_of_ble_eq_true rfl) dX6_as_2 (fun r1 u2 => ?_)
  refine go_ifz_eq (tgt := 15) dX6_as_5 (by decide) ?_ ?_
  · refine go_aload_n 0 rfl dX6_as_15 rfl ?_
    refine go_ldc (v := (-1000000001 : Int32)) gw205 dX6_as_16 ?_
    refine go_callVI (As := fun ad => [.int (-1000000001 : Int32)]) (g_X6_finds (-1000000001 : Int32) u2) mv_X6_finds clX6 kt_86 gw219 rfl ⟨Nat.le_of_ble_eq_true rfl, Nat.le_of_ble_eq_true rfl⟩ rfl (Nat.le_of_ble_eq_true rfl) dX6_as_18 (fun r3 u4 => ?_)
    exact go_iret rfl dX6_as_21
  · refine go_iload_n 2 rfl dX6_as_8 rfl ?_
    refine go_callSZ (As := fun ad => [.int a2]) (g_X6_isKind a2 u2) mo_X6_isKind gw215 gw216 rfl ⟨Nat.le_of_ble_eq_true rfl, Nat.le_of_ble_eq_true rfl⟩ rfl (Nat.le_of_ble_eq_true rfl) dX6_as_9 (fun r5 u6 => ?_)
    refine go_ifz_ne (tgt := 22) dX6_as_12 (by decide) ?_ ?_
    · refine go_aload_n 0 rfl dX6_as_22 rfl ?_
      refine go_iload_n 1 rfl dX6_as_23 rfl ?_
      refine go_iconst (v := (0 : Int32)) dX6_as_24 (by decide) ?_
      refine go_callVI (As := fun ad => [.int a1, .int (0 : Int32)]) (g_X6_its a1 (0 : Int32) u6) mv_X6_its clX6 kt_86 gw221 rfl ⟨Nat.le_of_ble_eq_true rfl, Nat.le_of_ble_eq_true rfl⟩ rfl (Nat.le_of_ble_eq_true rfl) dX6_as_25 (fun r7 u8 => ?_)
      refine go_iload_n 2 rfl dX6_as_28 rfl ?_
      refine go_callSZ (As := fun ad => [.int r7, .int a2]) (g_X6_isUnder r7 a2 u8) mo_X6_isUnder gw228 gw229 rfl ⟨Nat.le_of_ble_eq_true rfl, Nat.le_of_ble_eq_true rfl⟩ rfl (Nat.le_of_ble_eq_true rfl) dX6_as_29 (fun r9 u10 => ?_)
      refine go_ifz_eq (tgt := 44) dX6_as_32 (by decide) ?_ ?_
      · refine go_aload_n 0 rfl dX6_as_44 rfl ?_
        refine go_ldc (v := (-1000000003 : Int32)) gw230 dX6_as_45 ?_
        refine go_callVI (As := fun ad => [.int (-1000000003 : Int32)]) (g_X6_finds (-1000000003 : Int32) u10) mv_X6_finds clX6 kt_86 gw219 rfl ⟨Nat.le_of_ble_eq_true rfl, Nat.le_of_ble_eq_true rfl⟩ rfl (Nat.le_of_ble_eq_true rfl) dX6_as_47 (fun r11 u12 => ?_)
        exact go_iret rfl dX6_as_50
      · refine go_aload_n 0 rfl dX6_as_35 rfl ?_
        refine go_iload_n 1 rfl dX6_as_36 rfl ?_
        refine go_iconst (v := (1 : Int32)) dX6_as_37 (by decide) ?_
        refine go_callVI (As := fun ad => [.int a1, .int (1 : Int32)]) (g_X6_its a1 (1 : Int32) u10) mv_X6_its clX6 kt_86 gw221 rfl ⟨Nat.le_of_ble_eq_true rfl, Nat.le_of_ble_eq_true rfl⟩ rfl (Nat.le_of_ble_eq_true rfl) dX6_as_38 (fun r13 u14 => ?_)
        refine go_goto (tgt := 50) dX6_as_41 (by decide) ?_
        exact go_iret rfl dX6_as_50
    · refine go_aload_n 0 rfl dX6_as_15 rfl ?_
      refine go_ldc (v := (-1000000001 : Int32)) gw205 dX6_as_16 ?_
      refine go_callVI (As := fun ad => [.int (-1000000001 : Int32)]) (g_X6_finds (-1000000001 : Int32) u6) mv_X6_finds clX6 kt_86 gw219 rfl ⟨Nat.le_of_ble_eq_true rfl, Nat.le_of_ble_eq_true rfl⟩ rfl (Nat.le_of_ble_eq_true rfl) dX6_as_18 (fun r15 u16 => ?_)
      exact go_iret rfl dX6_as_21
def f_X6_runs (a1 : Int32) (a2 : Int32) (u : Uw) : Option (Int32 × Uw) :=
  bd (f_X6_its a1 (1 : Int32) u) fun r1 u2 =>
  nm (a2 + r1) fun x3 =>
  bd (f_X6_its a1 (4 : Int32) u2) fun r4 u5 =>
  if a2 < r4 then
  (nm (x3 + (0 : Int32)) fun x6 =>
  bd (f_X6_its a1 (0 : Int32) u5) fun r7 u8 =>
  nm r7 fun x9 =>
  if x9 = (2 : Int32) then
  (some (x6, u8))
  else
  (if x9 = (3 : Int32) then
  (some ((x3 + (a2 / (7 : Int32))), u8))
  else
  (if x9 = (4 : Int32) then
  (bd (f_X6_its a1 (2 : Int32) u8) fun r12 u13 =>
  ck (decide (¬ r12 = 0)) <|
  some ((x6 + ((x6 / r12) / (4 : Int32))), u13))
  else
  (if x9 = (5 : Int32) then
  (some ((x3 - ((a2 + (5 : Int32)) / (7 : Int32))), u8))
  else
  (some (x3, u8))))))
  else
  (bd (f_X6_its a1 (3 : Int32) u5) fun r17 u18 =>
  nm (x3 + r17) fun x19 =>
  bd (f_X6_its a1 (0 : Int32) u18) fun r20 u21 =>
  nm r20 fun x22 =>
  if x22 = (2 : Int32) then
  (some (x19, u21))
  else
  (if x22 = (3 : Int32) then
  (some ((x3 + (a2 / (7 : Int32))), u21))
  else
  (if x22 = (4 : Int32) then
  (bd (f_X6_its a1 (2 : Int32) u21) fun r25 u26 =>
  ck (decide (¬ r25 = 0)) <|
  some ((x19 + ((x19 / r25) / (4 : Int32))), u26))
  else
  (if x22 = (5 : Int32) then
  (some ((x3 - ((a2 + (5 : Int32)) / (7 : Int32))), u21))
  else
  (some (x3, u21))))))
set_option maxHeartbeats 4000000 in
set_option maxRecDepth 100000 in
theorem g_X6_runs (a1 : Int32) (a2 : Int32) (u : Uw) : ∀ l, Con l yX6_runs mi_X6_runs ivI (fun ad => [.ref (ad 86), .int a1, .int a2]) u (f_X6_runs a1 a2 u) := by
  refine con_of (by decide) rfl (fun _ => Nat.le_of_ble_eq_true rfl) (fun X ad => ?_)
  show Go X ad mi_X6_runs ivI 0 [(0, .ref (ad 86)), (1, .int a1), (2, .int a2)] [] u (f_X6_runs a1 a2 u)
  unfold f_X6_runs
  refine go_iload_n 2 rfl dX6_runs_0 rfl ?_
  refine go_aload_n 0 rfl dX6_runs_1 rfl ?_
  refine go_iload_n 1 rfl dX6_runs_2 rfl ?_
  refine go_iconst (v := (1 : Int32)) dX6_runs_3 (by decide) ?_
  refine go_callVI (As := fun ad => [.int a1, .int (1 : Int32)]) (g_X6_its a1 (1 : Int32) u) mv_X6_its clX6 kt_86 gw221 rfl ⟨Nat.le_of_ble_eq_true rfl, Nat.le_of_ble_eq_true rfl⟩ rfl (Nat.le_of_ble_eq_true rfl) dX6_runs_4 (fun r1 u2 => ?_)
  refine go_iadd dX6_runs_7 ?_
  refine go_nm (fun x3 => ?_)
  refine go_istore_n (lv' := [(3, .int x3), (0, .ref (ad 86)), (1, .int a1), (2, .int a2)]) dX6_runs_8 rfl (Nat.le_of_ble_eq_true rfl) rfl ?_
  refine go_iload_n 0 rfl dX6_runs_9 rfl ?_
  refine go_iload_n 3 rfl dX6_runs_10 rfl ?_
  refine go_aload_n 1 rfl dX6_runs_11 rfl ?_
  refine go_iload_n 2 rfl dX6_runs_12 rfl ?_
  refine go_iconst (v := (4 : Int32)) dX6_runs_13 (by decide) ?_
  refine go_callVI (As := fun ad => [.int a1, .int (4 : Int32)]) (g_X6_its a1 (4 : Int32) u2) mv_X6_its clX6 kt_86 gw221 rfl ⟨Nat.le_of_ble_eq_true rfl, Nat.le_of_ble_eq_true rfl⟩ rfl (Nat.le_of_ble_eq_true rfl) dX6_runs_14 (fun r4 u5 => ?_)
  refine go_icmp_lt (tgt := 29) dX6_runs_17 (by decide) ?_ ?_
  · refine go_iconst (v := (0 : Int32)) dX6_runs_29 (by decide) ?_
    refine go_iadd dX6_runs_30 ?_
    refine go_nm (fun x6 => ?_)
    refine go_istore (lv' := [(4, .int x6), (3, .int x3), (0, .ref (ad 86)), (1, .int a1), (2, .int a2)]) dX6_runs_31 (Nat.le_of_ble_eq_true rfl) rfl ?_
    refine go_aload_n 2 rfl dX6_runs_33 rfl ?_
    refine go_iload_n 3 rfl dX6_runs_34 rfl ?_
    refine go_iconst (v := (0 : Int32)) dX6_runs_35 (by decide) ?_
    refine go_callVI (As := fun ad => [.int a1, .int (0 : Int32)]) (g_X6_its a1 (0 : Int32) u5) mv_X6_its clX6 kt_86 gw221 rfl ⟨Nat.le_of_ble_eq_true rfl, Nat.le_of_ble_eq_true rfl⟩ rfl (Nat.le_of_ble_eq_true rfl) dX6_runs_36 (fun r7 u8 => ?_)
    refine go_nm (fun x9 => ?_)
    refine go_ite (fun hx => ?_) (fun h10 => ?_)
    · subst hx
      refine go_tin (off := 29) (tgt := 68) dX6_runs_39 (by decide) (by decide) (by decide) (by decide) ?_
      refine go_iload 0 rfl dX6_runs_68 ?_
      exact go_iret rfl dX6_runs_70
    · refine go_ite (fun hx => ?_) (fun h11 => ?_)
      · subst hx
        refine go_tin (off := 32) (tgt := 71) dX6_runs_39 (by decide) (by decide) (by decide) (by decide) ?_
        refine go_iload_n 1 rfl dX6_runs_71 rfl ?_
        refine go_iload_n 4 rfl dX6_runs_72 rfl ?_
        refine go_bipush (v := (7 : Int32)) dX6_runs_73 (by decide) ?_
        refine go_idiv (by decide) dX6_runs_75 ?_
        refine go_iadd dX6_runs_76 ?_
        exact go_iret rfl dX6_runs_77
      · refine go_ite (fun hx => ?_) (fun h15 => ?_)
        · subst hx
          refine go_tin (off := 39) (tgt := 78) dX6_runs_39 (by decide) (by decide) (by decide) (by decide) ?_
          refine go_iload 0 rfl dX6_runs_78 ?_
          refine go_iload 0 rfl dX6_runs_80 ?_
          refine go_aload_n 2 rfl dX6_runs_82 rfl ?_
          refine go_iload_n 3 rfl dX6_runs_83 rfl ?_
          refine go_iconst (v := (2 : Int32)) dX6_runs_84 (by decide) ?_
          refine go_callVI (As := fun ad => [.int a1, .int (2 : Int32)]) (g_X6_its a1 (2 : Int32) u8) mv_X6_its clX6 kt_86 gw221 rfl ⟨Nat.le_of_ble_eq_true rfl, Nat.le_of_ble_eq_true rfl⟩ rfl (Nat.le_of_ble_eq_true rfl) dX6_runs_85 (fun r12 u13 => ?_)
          refine go_ck (fun h14 => ?_)
          refine go_idiv h14 dX6_runs_88 ?_
          refine go_iconst (v := (4 : Int32)) dX6_runs_89 (by decide) ?_
          refine go_idiv (by decide) dX6_runs_90 ?_
          refine go_iadd dX6_runs_91 ?_
          exact go_iret rfl dX6_runs_92
        · refine go_ite (fun hx => ?_) (fun h16 => ?_)
          · subst hx
            refine go_tin (off := 54) (tgt := 93) dX6_runs_39 (by decide) (by decide) (by decide) (by decide) ?_
            refine go_iload_n 1 rfl dX6_runs_93 rfl ?_
            refine go_iload_n 4 rfl dX6_runs_94 rfl ?_
            refine go_iconst (v := (5 : Int32)) dX6_runs_95 (by decide) ?_
            refine go_iadd dX6_runs_96 ?_
            refine go_bipush (v := (7 : Int32)) dX6_runs_97 (by decide) ?_
            refine go_idiv (by decide) dX6_runs_99 ?_
            refine go_isub dX6_runs_100 ?_
            exact go_iret rfl dX6_runs_101
          · refine go_tout (tgt := 102) dX6_runs_39 ?_ (by decide) ?_
            · have a0 : x9.toInt ≠ 2 := int_ne h10; have a1 : x9.toInt ≠ 3 := int_ne h11; have a2 : x9.toInt ≠ 4 := int_ne h15; have a3 : x9.toInt ≠ 5 := int_ne h16; omega
            · refine go_iload_n 1 rfl dX6_runs_102 rfl ?_
              exact go_iret rfl dX6_runs_103
  · refine go_aload_n 1 rfl dX6_runs_20 rfl ?_
    refine go_iload_n 2 rfl dX6_runs_21 rfl ?_
    refine go_iconst (v := (3 : Int32)) dX6_runs_22 (by decide) ?_
    refine go_callVI (As := fun ad => [.int a1, .int (3 : Int32)]) (g_X6_its a1 (3 : Int32) u5) mv_X6_its clX6 kt_86 gw221 rfl ⟨Nat.le_of_ble_eq_true rfl, Nat.le_of_ble_eq_true rfl⟩ rfl (Nat.le_of_ble_eq_true rfl) dX6_runs_23 (fun r17 u18 => ?_)
    refine go_goto (tgt := 30) dX6_runs_26 (by decide) ?_
    refine go_iadd dX6_runs_30 ?_
    refine go_nm (fun x19 => ?_)
    refine go_istore (lv' := [(4, .int x19), (3, .int x3), (0, .ref (ad 86)), (1, .int a1), (2, .int a2)]) dX6_runs_31 (Nat.le_of_ble_eq_true rfl) rfl ?_
    refine go_aload_n 2 rfl dX6_runs_33 rfl ?_
    refine go_iload_n 3 rfl dX6_runs_34 rfl ?_
    refine go_iconst (v := (0 : Int32)) dX6_runs_35 (by decide) ?_
    refine go_callVI (As := fun ad => [.int a1, .int (0 : Int32)]) (g_X6_its a1 (0 : Int32) u18) mv_X6_its clX6 kt_86 gw221 rfl ⟨Nat.le_of_ble_eq_true rfl, Nat.le_of_ble_eq_true rfl⟩ rfl (Nat.le_of_ble_eq_true rfl) dX6_runs_36 (fun r20 u21 => ?_)
    refine go_nm (fun x22 => ?_)
    refine go_ite (fun hx => ?_) (fun h23 => ?_)
    · subst hx
      refine go_tin (off := 29) (tgt := 68) dX6_runs_39 (by decide) (by decide) (by decide) (by decide) ?_
      refine go_iload 0 rfl dX6_runs_68 ?_
      exact go_iret rfl dX6_runs_70
    · refine go_ite (fun hx => ?_) (fun h24 => ?_)
      · subst hx
        refine go_tin (off := 32) (tgt := 71) dX6_runs_39 (by decide) (by decide) (by decide) (by decide) ?_
        refine go_iload_n 1 rfl dX6_runs_71 rfl ?_
        refine go_iload_n 4 rfl dX6_runs_72 rfl ?_
        refine go_bipush (v := (7 : Int32)) dX6_runs_73 (by decide) ?_
        refine go_idiv (by decide) dX6_runs_75 ?_
        refine go_iadd dX6_runs_76 ?_
        exact go_iret rfl dX6_runs_77
      · refine go_ite (fun hx => ?_) (fun h28 => ?_)
        · subst hx
          refine go_tin (off := 39) (tgt := 78) dX6_runs_39 (by decide) (by decide) (by decide) (by decide) ?_
          refine go_iload 0 rfl dX6_runs_78 ?_
          refine go_iload 0 rfl dX6_runs_80 ?_
          refine go_aload_n 2 rfl dX6_runs_82 rfl ?_
          refine go_iload_n 3 rfl dX6_runs_83 rfl ?_
          refine go_iconst (v := (2 : Int32)) dX6_runs_84 (by decide) ?_
          refine go_callVI (As := fun ad => [.int a1, .int (2 : Int32)]) (g_X6_its a1 (2 : Int32) u21) mv_X6_its clX6 kt_86 gw221 rfl ⟨Nat.le_of_ble_eq_true rfl, Nat.le_of_ble_eq_true rfl⟩ rfl (Nat.le_of_ble_eq_true rfl) dX6_runs_85 (fun r25 u26 => ?_)
          refine go_ck (fun h27 => ?_)
          refine go_idiv h27 dX6_runs_88 ?_
          refine go_iconst (v := (4 : Int32)) dX6_runs_89 (by decide) ?_
          refine go_idiv (by decide) dX6_runs_90 ?_
          refine go_iadd dX6_runs_91 ?_
          exact go_iret rfl dX6_runs_92
        · refine go_ite (fun hx => ?_) (fun h29 => ?_)
          · subst hx
            refine go_tin (off := 54) (tgt := 93) dX6_runs_39 (by decide) (by decide) (by decide) (by decide) ?_
            refine go_iload_n 1 rfl dX6_runs_93 rfl ?_
            refine go_iload_n 4 rfl dX6_runs_94 rfl ?_
            refine go_iconst (v := (5 : Int32)) dX6_runs_95 (by decide) ?_
            refine go_iadd dX6_runs_96 ?_
            refine go_bipush (v := (7 : Int32)) dX6_runs_97 (by decide) ?_
            refine go_idiv (by decide) dX6_runs_99 ?_
            refine go_isub dX6_runs_100 ?_
            exact go_iret rfl dX6_runs_101
          · refine go_tout (tgt := 102) dX6_runs_39 ?_ (by decide) ?_
            · have a0 : x22.toInt ≠ 2 := int_ne h23; have a1 : x22.toInt ≠ 3 := int_ne h24; have a2 : x22.toInt ≠ 4 := int_ne h28; have a3 : x22.toInt ≠ 5 := int_ne h29; omega
            · refine go_iload_n 1 rfl dX6_runs_102 rfl ?_
              exact go_iret rfl dX6_runs_103
def f_X6_dateOf (a1 : Int32) (a2 : Int32) (u : Uw) : Option (Int32 × Uw) :=
  bd (f_X6_runs a1 a2 u) fun r1 u2 =>
  bd (f_X6_its a1 (2 : Int32) u2) fun r3 u4 =>
  ck (decide (¬ r3 = 0)) <|
  some (((r1 - r1 / r3 * r3) + (1 : Int32)), u4)
set_option maxHeartbeats 4000000 in
set_option maxRecDepth 100000 in
theorem g_X6_dateOf (a1 : Int32) (a2 : Int32) (u : Uw) : ∀ l, Con l yX6_dateOf mi_X6_dateOf ivI (fun ad => [.ref (ad 86), .int a1, .int a2]) u (f_X6_dateOf a1 a2 u) := by
  refine con_of (by decide) rfl (fun _ => Nat.le_of_ble_eq_true rfl) (fun X ad => ?_)
  show Go X ad mi_X6_dateOf ivI 0 [(0, .ref (ad 86)), (1, .int a1), (2, .int a2)] [] u (f_X6_dateOf a1 a2 u)
  unfold f_X6_dateOf
  refine go_aload_n 0 rfl dX6_dateOf_0 rfl ?_
  refine go_iload_n 1 rfl dX6_dateOf_1 rfl ?_
  refine go_iload_n 2 rfl dX6_dateOf_2 rfl ?_
  refine go_callVI (As := fun ad => [.int a1, .int a2]) (g_X6_runs a1 a2 u) mv_X6_runs clX6 kt_86 gw231 rfl ⟨Nat.le_of_ble_eq_true rfl, Nat.le_of_ble_eq_true rfl⟩ rfl (Nat.le_of_ble_eq_true rfl) dX6_dateOf_3 (fun r1 u2 => ?_)
  refine go_aload_n 0 rfl dX6_dateOf_6 rfl ?_
  refine go_iload_n 1 rfl dX6_dateOf_7 rfl ?_
  refine go_iconst (v := (2 : Int32)) dX6_dateOf_8 (by decide) ?_
  refine go_callVI (As := fun ad => [.int a1, .int (2 : Int32)]) (g_X6_its a1 (2 : Int32) u2) mv_X6_its clX6 kt_86 gw221 rfl ⟨Nat.le_of_ble_eq_true rfl, Nat.le_of_ble_eq_true rfl⟩ rfl (Nat.le_of_ble_eq_true rfl) dX6_dateOf_9 (fun r3 u4 => ?_)
  refine go_ck (fun h5 => ?_)
  refine go_irem h5 dX6_dateOf_12 ?_
  refine go_iconst (v := (1 : Int32)) dX6_dateOf_13 (by decide) ?_
  refine go_iadd dX6_dateOf_14 ?_
  exact go_iret rfl dX6_dateOf_15
def f_X6_monthOf (a1 : Int32) (a2 : Int32) (u : Uw) : Option (Int32 × Uw) :=
  bd (f_X6_runs a1 a2 u) fun r1 u2 =>
  bd (f_X6_its a1 (2 : Int32) u2) fun r3 u4 =>
  ck (decide (¬ r3 = 0)) <|
  some ((r1 / r3), u4)
set_option maxHeartbeats 4000000 in
set_option maxRecDepth 100000 in
theorem g_X6_monthOf (a1 : Int32) (a2 : Int32) (u : Uw) : ∀ l, Con l yX6_monthOf mi_X6_monthOf ivI (fun ad => [.ref (ad 86), .int a1, .int a2]) u (f_X6_monthOf a1 a2 u) := by
  refine con_of (by decide) rfl (fun _ => Nat.le_of_ble_eq_true rfl) (fun X ad => ?_)
  show Go X ad mi_X6_monthOf ivI 0 [(0, .ref (ad 86)), (1, .int a1), (2, .int a2)] [] u (f_X6_monthOf a1 a2 u)
  unfold f_X6_monthOf
  refine go_aload_n 0 rfl dX6_monthOf_0 rfl ?_
  refine go_iload_n 1 rfl dX6_monthOf_1 rfl ?_
  refine go_iload_n 2 rfl dX6_monthOf_2 rfl ?_
  refine go_callVI (As := fun ad => [.int a1, .int a2]) (g_X6_runs a1 a2 u) mv_X6_runs clX6 kt_86 gw231 rfl ⟨Nat.le_of_ble_eq_true rfl, Nat.le_of_ble_eq_true rfl⟩ rfl (Nat.le_of_ble_eq_true rfl) dX6_monthOf_3 (fun r1 u2 => ?_)
  refine go_aload_n 0 rfl dX6_monthOf_6 rfl ?_
  refine go_iload_n 1 rfl dX6_monthOf_7 rfl ?_
  refine go_iconst (v := (2 : Int32)) dX6_monthOf_8 (by decide) ?_
  refine go_callVI (As := fun ad => [.int a1, .int (2 : Int32)]) (g_X6_its a1 (2 : Int32) u2) mv_X6_its clX6 kt_86 gw221 rfl ⟨Nat.le_of_ble_eq_true rfl, Nat.le_of_ble_eq_true rfl⟩ rfl (Nat.le_of_ble_eq_true rfl) dX6_monthOf_9 (fun r3 u4 => ?_)
  refine go_ck (fun h5 => ?_)
  refine go_idiv h5 dX6_monthOf_12 ?_
  exact go_iret rfl dX6_monthOf_13
def f_X6_isHoly (a1 : Int32) (a2 : Int32) (u : Uw) : Option (Bool × Uw) :=
  bd (f_X6_isCalendar a1 u) fun r1 u2 =>
  if r1 = true then
  (bd (f_X6_dateOf a1 a2 u2) fun r3 u4 =>
  bd (f_X6_its a1 (0 : Int32) u4) fun r5 u6 =>
  nm r5 fun x7 =>
  if x7 = (3 : Int32) then
  (bd (f_X6_monthOf a1 a2 u6) fun r8 u9 =>
  if ((r3 + r8) - (r3 + r8) / (2 : Int32) * (2 : Int32)) = 0 then
  (some (true, u9))
  else
  (some (false, u9)))
  else
  (if x7 = (4 : Int32) then
  (if (r3 - r3 / (2 : Int32) * (2 : Int32)) = 0 then
  (some (true, u6))
  else
  (if r3 = (1 : Int32) then
  (some (true, u6))
  else
  (some (false, u6))))
  else
  (if x7 = (5 : Int32) then
  (if (r3 - r3 / (2 : Int32) * (2 : Int32)) = 0 then
  (if (a2 - a2 / (7 : Int32) * (7 : Int32)) = (2 : Int32) then
  (some (false, u6))
  else
  (some (true, u6)))
  else
  (some (false, u6)))
  else
  (if (r3 - r3 / (2 : Int32) * (2 : Int32)) = 0 then
  (some (true, u6))
  else
  (some (false, u6))))))
  else
  (some (false, u2))
set_option maxHeartbeats 4000000 in
set_option maxRecDepth 100000 in
theorem g_X6_isHoly (a1 : Int32) (a2 : Int32) (u : Uw) : ∀ l, Con l yX6_isHoly mi_X6_isHoly ivZ (fun ad => [.ref (ad 86), .int a1, .int a2]) u (f_X6_isHoly a1 a2 u) := by
  refine con_of (by decide) rfl (fun _ => Nat.le_of_ble_eq_true rfl) (fun X ad => ?_)
  show Go X ad mi_X6_isHoly ivZ 0 [(0, .ref (ad 86)), (1, .int a1), (2, .int a2)] [] u (f_X6_isHoly a1 a2 u)
  unfold f_X6_isHoly
  refine go_aload_n 0 rfl dX6_isHoly_0 rfl ?_
  refine go_iload_n 1 rfl dX6_isHoly_1 rfl ?_
  refine go_callVZ (As := fun ad => [.int a1]) (g_X6_isCalendar a1 u) mv_X6_isCalendar clX6 kt_86 gw211 rfl ⟨Nat.le_of_ble_eq_true rfl, Nat.le_of_ble_eq_true rfl⟩ rfl (Nat.le_of_ble_eq_true rfl) dX6_isHoly_2 (fun r1 u2 => ?_)
  refine go_ifz_ne (tgt := 10) dX6_isHoly_5 (by decide) ?_ ?_
  · refine go_aload_n 0 rfl dX6_isHoly_10 rfl ?_
    refine go_iload_n 1 rfl dX6_isHoly_11 rfl ?_
    refine go_iload_n 2 rfl dX6_isHoly_12 rfl ?_
    refine go_callVI (As := fun ad => [.int a1, .int a2]) (g_X6_dateOf a1 a2 u2) mv_X6_dateOf clX6 kt_86 gw232 rfl ⟨Nat.le_of_ble_eq_true rfl, Nat.le_of_ble_eq_true rfl⟩ rfl (Nat.le_of_ble_eq_true rfl) dX6_isHoly_13 (fun r3 u4 => ?_)
    refine go_istore_n (lv' := [(3, .int r3), (0, .ref (ad 86)), (1, .int a1), (2, .int a2)]) dX6_isHoly_16 rfl (Nat.le_of_ble_eq_true rfl) rfl ?_
    refine go_aload_n 1 rfl dX6_isHoly_17 rfl ?_
    refine go_iload_n 2 rfl dX6_isHoly_18 rfl ?_
    refine go_iconst (v := (0 : Int32)) dX6_isHoly_19 (by decide) ?_
    refine go_callVI (As := fun ad => [.int a1, .int (0 : Int32)]) (g_X6_its a1 (0 : Int32) u4) mv_X6_its clX6 kt_86 gw221 rfl ⟨Nat.le_of_ble_eq_true rfl, Nat.le_of_ble_eq_true rfl⟩ rfl (Nat.le_of_ble_eq_true rfl) dX6_isHoly_20 (fun r5 u6 => ?_)
    refine go_nm (fun x7 => ?_)
    refine go_ite (fun hx => ?_) (fun h10 => ?_)
    · subst hx
      refine go_tin (off := 25) (tgt := 48) dX6_isHoly_23 (by decide) (by decide) (by decide) (by decide) ?_
      refine go_iload_n 0 rfl dX6_isHoly_48 rfl ?_
      refine go_aload_n 1 rfl dX6_isHoly_49 rfl ?_
      refine go_iload_n 2 rfl dX6_isHoly_50 rfl ?_
      refine go_iload_n 3 rfl dX6_isHoly_51 rfl ?_
      refine go_callVI (As := fun ad => [.int a1, .int a2]) (g_X6_monthOf a1 a2 u6) mv_X6_monthOf clX6 kt_86 gw233 rfl ⟨Nat.le_of_ble_eq_true rfl, Nat.le_of_ble_eq_true rfl⟩ rfl (Nat.le_of_ble_eq_true rfl) dX6_isHoly_52 (fun r8 u9 => ?_)
      refine go_iadd dX6_isHoly_55 ?_
      refine go_iconst (v := (2 : Int32)) dX6_isHoly_56 (by decide) ?_
      refine go_irem (by decide) dX6_isHoly_57 ?_
      refine go_if_ne (tgt := 65) dX6_isHoly_58 (by decide) ?_ ?_
      · refine go_iconst (v := (0 : Int32)) dX6_isHoly_65 (by decide) ?_
        exact go_zret (b := false) rfl dX6_isHoly_66
      · refine go_iconst (v := (1 : Int32)) dX6_isHoly_61 (by decide) ?_
        refine go_goto (tgt := 66) dX6_isHoly_62 (by decide) ?_
        exact go_zret (b := true) rfl dX6_isHoly_66
    · refine go_ite (fun hx => ?_) (fun h11 => ?_)
      · subst hx
        refine go_tin (off := 44) (tgt := 67) dX6_isHoly_23 (by decide) (by decide) (by decide) (by decide) ?_
        refine go_iload_n 0 rfl dX6_isHoly_67 rfl ?_
        refine go_iconst (v := (2 : Int32)) dX6_isHoly_68 (by decide) ?_
        refine go_irem (by decide) dX6_isHoly_69 ?_
        refine go_if_eq (tgt := 78) dX6_isHoly_70 (by decide) ?_ ?_
        · refine go_iconst (v := (1 : Int32)) dX6_isHoly_78 (by decide) ?_
          refine go_goto (tgt := 83) dX6_isHoly_79 (by decide) ?_
          exact go_zret (b := true) rfl dX6_isHoly_83
        · refine go_iload_n 0 rfl dX6_isHoly_73 rfl ?_
          refine go_iconst (v := (1 : Int32)) dX6_isHoly_74 (by decide) ?_
          refine go_icmp_ne (tgt := 82) dX6_isHoly_75 (by decide) ?_ ?_
          · refine go_iconst (v := (0 : Int32)) dX6_isHoly_82 (by decide) ?_
            exact go_zret (b := false) rfl dX6_isHoly_83
          · refine go_iconst (v := (1 : Int32)) dX6_isHoly_78 (by decide) ?_
            refine go_goto (tgt := 83) dX6_isHoly_79 (by decide) ?_
            exact go_zret (b := true) rfl dX6_isHoly_83
      · refine go_ite (fun hx => ?_) (fun h12 => ?_)
        · subst hx
          refine go_tin (off := 61) (tgt := 84) dX6_isHoly_23 (by decide) (by decide) (by decide) (by decide) ?_
          refine go_iload_n 0 rfl dX6_isHoly_84 rfl ?_
          refine go_iconst (v := (2 : Int32)) dX6_isHoly_85 (by decide) ?_
          refine go_irem (by decide) dX6_isHoly_86 ?_
          refine go_if_ne (tgt := 102) dX6_isHoly_87 (by decide) ?_ ?_
          · refine go_iconst (v := (0 : Int32)) dX6_isHoly_102 (by decide) ?_
            exact go_zret (b := false) rfl dX6_isHoly_103
          · refine go_iload_n 3 rfl dX6_isHoly_90 rfl ?_
            refine go_bipush (v := (7 : Int32)) dX6_isHoly_91 (by decide) ?_
            refine go_irem (by decide) dX6_isHoly_93 ?_
            refine go_iconst (v := (2 : Int32)) dX6_isHoly_94 (by decide) ?_
            refine go_icmp_eq (tgt := 102) dX6_isHoly_95 (by decide) ?_ ?_
            · refine go_iconst (v := (0 : Int32)) dX6_isHoly_102 (by decide) ?_
              exact go_zret (b := false) rfl dX6_isHoly_103
            · refine go_iconst (v := (1 : Int32)) dX6_isHoly_98 (by decide) ?_
              refine go_goto (tgt := 103) dX6_isHoly_99 (by decide) ?_
              exact go_zret (b := true) rfl dX6_isHoly_103
        · refine go_tout (tgt := 104) dX6_isHoly_23 ?_ (by decide) ?_
          · have a0 : x7.toInt ≠ 3 := int_ne h10; have a1 : x7.toInt ≠ 4 := int_ne h11; have a2 : x7.toInt ≠ 5 := int_ne h12; omega
          · refine go_iload_n 0 rfl dX6_isHoly_104 rfl ?_
            refine go_iconst (v := (2 : Int32)) dX6_isHoly_105 (by decide) ?_
            refine go_irem (by decide) dX6_isHoly_106 ?_
            refine go_if_ne (tgt := 114) dX6_isHoly_107 (by decide) ?_ ?_
            · refine go_iconst (v := (0 : Int32)) dX6_isHoly_114 (by decide) ?_
              exact go_zret (b := false) rfl dX6_isHoly_115
            · refine go_iconst (v := (1 : Int32)) dX6_isHoly_110 (by decide) ?_
              refine go_goto (tgt := 115) dX6_isHoly_111 (by decide) ?_
              exact go_zret (b := true) rfl dX6_isHoly_115
  · refine go_iconst (v := (0 : Int32)) dX6_isHoly_8 (by decide) ?_
    exact go_zret (b := false) rfl dX6_isHoly_9
def f_X6_date (a1 : Int32) (a2 : Int32) (a3 : Int32) (u : Uw) : Option (Int32 × Uw) :=
  bd (f_X6_isCalendar a1 u) fun r1 u2 =>
  if r1 = true then
  (bd (f_X6_in (a2.toInt64) (0 : Int64) (99999 : Int64) u2) fun r5 u6 =>
  if r5 = true then
  (bd (f_X6_in (a3.toInt64) (0 : Int64) (3 : Int64) u6) fun r9 u10 =>
  if r9 = true then
  (nm a3 fun x11 =>
  if x11 = (0 : Int32) then
  (bd (f_X6_dateOf a1 a2 u10) fun r12 u13 =>
  some (r12, u13))
  else
  (if x11 = (1 : Int32) then
  (bd (f_X6_monthOf a1 a2 u10) fun r15 u16 =>
  some (r15, u16))
  else
  (if x11 = (2 : Int32) then
  (bd (f_X6_isHoly a1 a2 u10) fun r18 u19 =>
  if r18 = true then
  (some ((1 : Int32), u19))
  else
  (some ((0 : Int32), u19)))
  else
  (bd (f_X6_runs a1 a2 u10) fun r21 u22 =>
  some (r21, u22)))))
  else
  (bd (f_X6_finds (-1000000001 : Int32) u10) fun r23 u24 =>
  some (r23, u24)))
  else
  (bd (f_X6_finds (-1000000001 : Int32) u6) fun r7 u8 =>
  some (r7, u8)))
  else
  (bd (f_X6_finds (-1000000001 : Int32) u2) fun r3 u4 =>
  some (r3, u4))
set_option maxHeartbeats 4000000 in
set_option maxRecDepth 100000 in
theorem g_X6_date (a1 : Int32) (a2 : Int32) (a3 : Int32) (u : Uw) : ∀ l, Con l yX6_date mi_X6_date ivI (fun ad => [.ref (ad 86), .int a1, .int a2, .int a3]) u (f_X6_date a1 a2 a3 u) := by
  refine con_of (by decide) rfl (fun _ => Nat.le_of_ble_eq_true rfl) (fun X ad => ?_)
  show Go X ad mi_X6_date ivI 0 [(0, .ref (ad 86)), (1, .int a1), (2, .int a2), (3, .int a3)] [] u (f_X6_date a1 a2 a3 u)
  unfold f_X6_date
  refine go_aload_n 0 rfl dX6_date_0 rfl ?_
  refine go_iload_n 1 rfl dX6_date_1 rfl ?_
  refine go_callVZ (As := fun ad => [.int a1]) (g_X6_isCalendar a1 u) mv_X6_isCalendar clX6 kt_86 gw211 rfl ⟨Nat.le_of_ble_eq_true rfl, Nat.le_of_ble_eq_true rfl⟩ rfl (Nat.le_of_ble_eq_true rfl) dX6_date_2 (fun r1 u2 => ?_)
  refine go_ifz_eq (tgt := 32) dX6_date_5 (by decide) ?_ ?_
  · refine go_aload_n 0 rfl dX6_date_32 rfl ?_
    refine go_ldc (v := (-1000000001 : Int32)) gw205 dX6_date_33 ?_
    refine go_callVI (As := fun ad => [.int (-1000000001 : Int32)]) (g_X6_finds (-1000000001 : Int32) u2) mv_X6_finds clX6 kt_86 gw219 rfl ⟨Nat.le_of_ble_eq_true rfl, Nat.le_of_ble_eq_true rfl⟩ rfl (Nat.le_of_ble_eq_true rfl) dX6_date_35 (fun r3 u4 => ?_)
    exact go_iret rfl dX6_date_38
  · refine go_iload_n 2 rfl dX6_date_8 rfl ?_
    refine go_i2l dX6_date_9 ?_
    refine go_lconst (v := (0 : Int64)) dX6_date_10 (by decide) ?_
    refine go_ldc2 (v := (99999 : Int64)) gw234 dX6_date_11 ?_
    refine go_callSZ (As := fun ad => [.long (a2.toInt64), .long (0 : Int64), .long (99999 : Int64)]) (g_X6_in (a2.toInt64) (0 : Int64) (99999 : Int64) u2) mo_X6_in gw209 gw210 rfl ⟨Nat.le_of_ble_eq_true rfl, Nat.le_of_ble_eq_true rfl⟩ rfl (Nat.le_of_ble_eq_true rfl) dX6_date_14 (fun r5 u6 => ?_)
    refine go_ifz_eq (tgt := 32) dX6_date_17 (by decide) ?_ ?_
    · refine go_aload_n 0 rfl dX6_date_32 rfl ?_
      refine go_ldc (v := (-1000000001 : Int32)) gw205 dX6_date_33 ?_
      refine go_callVI (As := fun ad => [.int (-1000000001 : Int32)]) (g_X6_finds (-1000000001 : Int32) u6) mv_X6_finds clX6 kt_86 gw219 rfl ⟨Nat.le_of_ble_eq_true rfl, Nat.le_of_ble_eq_true rfl⟩ rfl (Nat.le_of_ble_eq_true rfl) dX6_date_35 (fun r7 u8 => ?_)
      exact go_iret rfl dX6_date_38
    · refine go_iload_n 3 rfl dX6_date_20 rfl ?_
      refine go_i2l dX6_date_21 ?_
      refine go_lconst (v := (0 : Int64)) dX6_date_22 (by decide) ?_
      refine go_ldc2 (v := (3 : Int64)) gw235 dX6_date_23 ?_
      refine go_callSZ (As := fun ad => [.long (a3.toInt64), .long (0 : Int64), .long (3 : Int64)]) (g_X6_in (a3.toInt64) (0 : Int64) (3 : Int64) u6) mo_X6_in gw209 gw210 rfl ⟨Nat.le_of_ble_eq_true rfl, Nat.le_of_ble_eq_true rfl⟩ rfl (Nat.le_of_ble_eq_true rfl) dX6_date_26 (fun r9 u10 => ?_)
      refine go_ifz_ne (tgt := 39) dX6_date_29 (by decide) ?_ ?_
      · refine go_iload_n 3 rfl dX6_date_39 rfl ?_
        refine go_nm (fun x11 => ?_)
        refine go_ite (fun hx => ?_) (fun h14 => ?_)
        · subst hx
          refine go_tin (off := 28) (tgt := 68) dX6_date_40 (by decide) (by decide) (by decide) (by decide) ?_
          refine go_aload_n 0 rfl dX6_date_68 rfl ?_
          refine go_iload_n 1 rfl dX6_date_69 rfl ?_
          refine go_iload_n 2 rfl dX6_date_70 rfl ?_
          refine go_callVI (As := fun ad => [.int a1, .int a2]) (g_X6_dateOf a1 a2 u10) mv_X6_dateOf clX6 kt_86 gw232 rfl ⟨Nat.le_of_ble_eq_true rfl, Nat.le_of_ble_eq_true rfl⟩ rfl (Nat.le_of_ble_eq_true rfl) dX6_date_71 (fun r12 u13 => ?_)
          exact go_iret rfl dX6_date_74
        · refine go_ite (fun hx => ?_) (fun h17 => ?_)
          · subst hx
            refine go_tin (off := 35) (tgt := 75) dX6_date_40 (by decide) (by decide) (by decide) (by decide) ?_
            refine go_aload_n 0 rfl dX6_date_75 rfl ?_
            refine go_iload_n 1 rfl dX6_date_76 rfl ?_
            refine go_iload_n 2 rfl dX6_date_77 rfl ?_
            refine go_callVI (As := fun ad => [.int a1, .int a2]) (g_X6_monthOf a1 a2 u10) mv_X6_monthOf clX6 kt_86 gw233 rfl ⟨Nat.le_of_ble_eq_true rfl, Nat.le_of_ble_eq_true rfl⟩ rfl (Nat.le_of_ble_eq_true rfl) dX6_date_78 (fun r15 u16 => ?_)
            exact go_iret rfl dX6_date_81
          · refine go_ite (fun hx => ?_) (fun h20 => ?_)
            · subst hx
              refine go_tin (off := 42) (tgt := 82) dX6_date_40 (by decide) (by decide) (by decide) (by decide) ?_
              refine go_aload_n 0 rfl dX6_date_82 rfl ?_
              refine go_iload_n 1 rfl dX6_date_83 rfl ?_
              refine go_iload_n 2 rfl dX6_date_84 rfl ?_
              refine go_callVZ (As := fun ad => [.int a1, .int a2]) (g_X6_isHoly a1 a2 u10) mv_X6_isHoly clX6 kt_86 gw236 rfl ⟨Nat.le_of_ble_eq_true rfl, Nat.le_of_ble_eq_true rfl⟩ rfl (Nat.le_of_ble_eq_true rfl) dX6_date_85 (fun r18 u19 => ?_)
              refine go_ifz_eq (tgt := 95) dX6_date_88 (by decide) ?_ ?_
              · refine go_iconst (v := (0 : Int32)) dX6_date_95 (by decide) ?_
                exact go_iret rfl dX6_date_96
              · refine go_iconst (v := (1 : Int32)) dX6_date_91 (by decide) ?_
                refine go_goto (tgt := 96) dX6_date_92 (by decide) ?_
                exact go_iret rfl dX6_date_96
            · refine go_tout (tgt := 97) dX6_date_40 ?_ (by decide) ?_
              · have a0 : x11.toInt ≠ 0 := int_ne h14; have a1 : x11.toInt ≠ 1 := int_ne h17; have a2 : x11.toInt ≠ 2 := int_ne h20; omega
              · refine go_aload_n 0 rfl dX6_date_97 rfl ?_
                refine go_iload_n 1 rfl dX6_date_98 rfl ?_
                refine go_iload_n 2 rfl dX6_date_99 rfl ?_
                refine go_callVI (As := fun ad => [.int a1, .int a2]) (g_X6_runs a1 a2 u10) mv_X6_runs clX6 kt_86 gw231 rfl ⟨Nat.le_of_ble_eq_true rfl, Nat.le_of_ble_eq_true rfl⟩ rfl (Nat.le_of_ble_eq_true rfl) dX6_date_100 (fun r21 u22 => ?_)
                exact go_iret rfl dX6_date_103
      · refine go_aload_n 0 rfl dX6_date_32 rfl ?_
        refine go_ldc (v := (-1000000001 : Int32)) gw205 dX6_date_33 ?_
        refine go_callVI (As := fun ad => [.int (-1000000001 : Int32)]) (g_X6_finds (-1000000001 : Int32) u10) mv_X6_finds clX6 kt_86 gw219 rfl ⟨Nat.le_of_ble_eq_true rfl, Nat.le_of_ble_eq_true rfl⟩ rfl (Nat.le_of_ble_eq_true rfl) dX6_date_35 (fun r23 u24 => ?_)
        exact go_iret rfl dX6_date_38
def f_X6_law (a1 : Int32) (a2 : Int32) (u : Uw) : Option (Int32 × Uw) :=
  if a1 = 0 then
  (bd (f_X6_in (a2.toInt64) (1 : Int64) (50 : Int64) u) fun r11 u12 =>
  if (bI r11) = 0 then
  (bd (f_X6_finds (-1000000001 : Int32) u12) fun r13 u14 =>
  some (r13, u14))
  else
  (if a1 = 0 then
  (bd (f_X6_becomes (3 : Int32) a2 u12) fun r17 u18 =>
  some (r17, u18))
  else
  (bd (f_X6_becomes (4 : Int32) a2 u12) fun r15 u16 =>
  some (r15, u16))))
  else
  (if a1 = (1 : Int32) then
  (bd (f_X6_in (a2.toInt64) (0 : Int64) (5 : Int64) u) fun r3 u4 =>
  if r3 = true then
  (if a1 = 0 then
  (bd (f_X6_becomes (3 : Int32) a2 u4) fun r9 u10 =>
  some (r9, u10))
  else
  (bd (f_X6_becomes (4 : Int32) a2 u4) fun r7 u8 =>
  some (r7, u8)))
  else
  (bd (f_X6_finds (-1000000001 : Int32) u4) fun r5 u6 =>
  some (r5, u6)))
  else
  (bd (f_X6_finds (-1000000001 : Int32) u) fun r1 u2 =>
  some (r1, u2)))
set_option maxHeartbeats 4000000 in
set_option maxRecDepth 100000 in
theorem g_X6_law (a1 : Int32) (a2 : Int32) (u : Uw) : ∀ l, Con l yX6_law mi_X6_law ivI (fun ad => [.ref (ad 86), .int a1, .int a2]) u (f_X6_law a1 a2 u) := by
  refine con_of (by decide) rfl (fun _ => Nat.le_of_ble_eq_true rfl) (fun X ad => ?_)
  show Go X ad mi_X6_law ivI 0 [(0, .ref (ad 86)), (1, .int a1), (2, .int a2)] [] u (f_X6_law a1 a2 u)
  unfold f_X6_law
  refine go_iload_n 1 rfl dX6_law_0 rfl ?_
  refine go_if_ne (tgt := 16) dX6_law_1 (by decide) ?_ ?_
  · refine go_iload_n 1 rfl dX6_law_16 rfl ?_
    refine go_iconst (v := (1 : Int32)) dX6_law_17 (by decide) ?_
    refine go_icmp_ne (tgt := 37) dX6_law_18 (by decide) ?_ ?_
    · refine go_iconst (v := (0 : Int32)) dX6_law_37 (by decide) ?_
      refine go_istore_n (lv' := [(3, .int (0 : Int32)), (0, .ref (ad 86)), (1, .int a1), (2, .int a2)]) dX6_law_38 rfl (Nat.le_of_ble_eq_true rfl) rfl ?_
      refine go_iload_n 0 rfl dX6_law_39 rfl ?_
      refine go_if_eq_t (tgt := 60) (by decide) dX6_law_40 (by decide) ?_
      refine go_aload_n 1 rfl dX6_law_60 rfl ?_
      refine go_ldc (v := (-1000000001 : Int32)) gw205 dX6_law_61 ?_
      refine go_callVI (As := fun ad => [.int (-1000000001 : Int32)]) (g_X6_finds (-1000000001 : Int32) u) mv_X6_finds clX6 kt_86 gw219 rfl ⟨Nat.le_of_ble_eq_true rfl, Nat.le_of_ble_eq_true rfl⟩ rfl (Nat.le_of_ble_eq_true rfl) dX6_law_63 (fun r1 u2 => ?_)
      exact go_iret rfl dX6_law_66
    · refine go_iload_n 2 rfl dX6_law_21 rfl ?_
      refine go_i2l dX6_law_22 ?_
      refine go_lconst (v := (0 : Int64)) dX6_law_23 (by decide) ?_
      refine go_ldc2 (v := (5 : Int64)) gw212 dX6_law_24 ?_
      refine go_callSZ (As := fun ad => [.long (a2.toInt64), .long (0 : Int64), .long (5 : Int64)]) (g_X6_in (a2.toInt64) (0 : Int64) (5 : Int64) u) mo_X6_in gw209 gw210 rfl ⟨Nat.le_of_ble_eq_true rfl, Nat.le_of_ble_eq_true rfl⟩ rfl (Nat.le_of_ble_eq_true rfl) dX6_law_27 (fun r3 u4 => ?_)
      refine go_ifz_eq (tgt := 37) dX6_law_30 (by decide) ?_ ?_
      · refine go_iconst (v := (0 : Int32)) dX6_law_37 (by decide) ?_
        refine go_istore_n (lv' := [(3, .int (0 : Int32)), (0, .ref (ad 86)), (1, .int a1), (2, .int a2)]) dX6_law_38 rfl (Nat.le_of_ble_eq_true rfl) rfl ?_
        refine go_iload_n 0 rfl dX6_law_39 rfl ?_
        refine go_if_eq_t (tgt := 60) (by decide) dX6_law_40 (by decide) ?_
        refine go_aload_n 1 rfl dX6_law_60 rfl ?_
        refine go_ldc (v := (-1000000001 : Int32)) gw205 dX6_law_61 ?_
        refine go_callVI (As := fun ad => [.int (-1000000001 : Int32)]) (g_X6_finds (-1000000001 : Int32) u4) mv_X6_finds clX6 kt_86 gw219 rfl ⟨Nat.le_of_ble_eq_true rfl, Nat.le_of_ble_eq_true rfl⟩ rfl (Nat.le_of_ble_eq_true rfl) dX6_law_63 (fun r5 u6 => ?_)
        exact go_iret rfl dX6_law_66
      · refine go_iconst (v := (1 : Int32)) dX6_law_33 (by decide) ?_
        refine go_goto (tgt := 38) dX6_law_34 (by decide) ?_
        refine go_istore_n (lv' := [(3, .int (1 : Int32)), (0, .ref (ad 86)), (1, .int a1), (2, .int a2)]) dX6_law_38 rfl (Nat.le_of_ble_eq_true rfl) rfl ?_
        refine go_iload_n 0 rfl dX6_law_39 rfl ?_
        refine go_if_eq_f (tgt := 60) (by decide) dX6_law_40 (by decide) ?_
        refine go_aload_n 1 rfl dX6_law_43 rfl ?_
        refine go_iload_n 2 rfl dX6_law_44 rfl ?_
        refine go_if_ne (tgt := 52) dX6_law_45 (by decide) ?_ ?_
        · refine go_iconst (v := (4 : Int32)) dX6_law_52 (by decide) ?_
          refine go_iload_n 3 rfl dX6_law_53 rfl ?_
          refine go_callVI (As := fun ad => [.int (4 : Int32), .int a2]) (g_X6_becomes (4 : Int32) a2 u4) mv_X6_becomes clX6 kt_86 gw227 rfl ⟨Nat.le_of_ble_eq_true rfl, Nat.le_of_ble_eq_true rfl⟩ rfl (Nat.le_of_ble_eq_true rfl) dX6_law_54 (fun r7 u8 => ?_)
          refine go_goto (tgt := 66) dX6_law_57 (by decide) ?_
          exact go_iret rfl dX6_law_66
        · refine go_iconst (v := (3 : Int32)) dX6_law_48 (by decide) ?_
          refine go_goto (tgt := 53) dX6_law_49 (by decide) ?_
          refine go_iload_n 3 rfl dX6_law_53 rfl ?_
          refine go_callVI (As := fun ad => [.int (3 : Int32), .int a2]) (g_X6_becomes (3 : Int32) a2 u4) mv_X6_becomes clX6 kt_86 gw227 rfl ⟨Nat.le_of_ble_eq_true rfl, Nat.le_of_ble_eq_true rfl⟩ rfl (Nat.le_of_ble_eq_true rfl) dX6_law_54 (fun r9 u10 => ?_)
          refine go_goto (tgt := 66) dX6_law_57 (by decide) ?_
          exact go_iret rfl dX6_law_66
  · refine go_iload_n 2 rfl dX6_law_4 rfl ?_
    refine go_i2l dX6_law_5 ?_
    refine go_lconst (v := (1 : Int64)) dX6_law_6 (by decide) ?_
    refine go_ldc2 (v := (50 : Int64)) gw237 dX6_law_7 ?_
    refine go_callSZ (As := fun ad => [.long (a2.toInt64), .long (1 : Int64), .long (50 : Int64)]) (g_X6_in (a2.toInt64) (1 : Int64) (50 : Int64) u) mo_X6_in gw209 gw210 rfl ⟨Nat.le_of_ble_eq_true rfl, Nat.le_of_ble_eq_true rfl⟩ rfl (Nat.le_of_ble_eq_true rfl) dX6_law_10 (fun r11 u12 => ?_)
    refine go_goto (tgt := 38) dX6_law_13 (by decide) ?_
    refine go_istore_n (lv' := [(3, .int (bI r11)), (0, .ref (ad 86)), (1, .int a1), (2, .int a2)]) dX6_law_38 rfl (Nat.le_of_ble_eq_true rfl) rfl ?_
    refine go_iload_n 0 rfl dX6_law_39 rfl ?_
    refine go_if_eq (tgt := 60) dX6_law_40 (by decide) ?_ ?_
    · refine go_aload_n 1 rfl dX6_law_60 rfl ?_
      refine go_ldc (v := (-1000000001 : Int32)) gw205 dX6_law_61 ?_
      refine go_callVI (As := fun ad => [.int (-1000000001 : Int32)]) (g_X6_finds (-1000000001 : Int32) u12) mv_X6_finds clX6 kt_86 gw219 rfl ⟨Nat.le_of_ble_eq_true rfl, Nat.le_of_ble_eq_true rfl⟩ rfl (Nat.le_of_ble_eq_true rfl) dX6_law_63 (fun r13 u14 => ?_)
      exact go_iret rfl dX6_law_66
    · refine go_aload_n 1 rfl dX6_law_43 rfl ?_
      refine go_iload_n 2 rfl dX6_law_44 rfl ?_
      refine go_if_ne (tgt := 52) dX6_law_45 (by decide) ?_ ?_
      · refine go_iconst (v := (4 : Int32)) dX6_law_52 (by decide) ?_
        refine go_iload_n 3 rfl dX6_law_53 rfl ?_
        refine go_callVI (As := fun ad => [.int (4 : Int32), .int a2]) (g_X6_becomes (4 : Int32) a2 u12) mv_X6_becomes clX6 kt_86 gw227 rfl ⟨Nat.le_of_ble_eq_true rfl, Nat.le_of_ble_eq_true rfl⟩ rfl (Nat.le_of_ble_eq_true rfl) dX6_law_54 (fun r15 u16 => ?_)
        refine go_goto (tgt := 66) dX6_law_57 (by decide) ?_
        exact go_iret rfl dX6_law_66
      · refine go_iconst (v := (3 : Int32)) dX6_law_48 (by decide) ?_
        refine go_goto (tgt := 53) dX6_law_49 (by decide) ?_
        refine go_iload_n 3 rfl dX6_law_53 rfl ?_
        refine go_callVI (As := fun ad => [.int (3 : Int32), .int a2]) (g_X6_becomes (3 : Int32) a2 u12) mv_X6_becomes clX6 kt_86 gw227 rfl ⟨Nat.le_of_ble_eq_true rfl, Nat.le_of_ble_eq_true rfl⟩ rfl (Nat.le_of_ble_eq_true rfl) dX6_law_54 (fun r17 u18 => ?_)
        refine go_goto (tgt := 66) dX6_law_57 (by decide) ?_
        exact go_iret rfl dX6_law_66
def f_X6_comes (a1 : Int32) (a2 : Int32) (u : Uw) : Option (Int32 × Uw) :=
  nm (u.1 20 (1 : Int32).toNatClampNeg) fun x1 =>
  bd (f_X6_spot x1 (0 : Int32) u) fun r2 u3 =>
  ck (inb r2 61) <|
  nm (w1 u3 20 r2.toNatClampNeg a1) fun u5 =>
  bd (f_X6_spot x1 (1 : Int32) u5) fun r6 u7 =>
  ck (inb r6 61) <|
  nm (w1 u7 20 r6.toNatClampNeg a2) fun u9 =>
  bd (f_X6_spot x1 (2 : Int32) u9) fun r10 u11 =>
  ck (inb r10 61) <|
  nm (w1 u11 20 r10.toNatClampNeg (0 : Int32)) fun u13 =>
  nm (u13.1 20 (1 : Int32).toNatClampNeg) fun x14 =>
  nm (w1 u13 20 (1 : Int32).toNatClampNeg (x14 + (1 : Int32))) fun u15 =>
  some (x1, u15)
set_option maxHeartbeats 4000000 in
set_option maxRecDepth 100000 in
theorem g_X6_comes (a1 : Int32) (a2 : Int32) (u : Uw) : ∀ l, Con l yX6_comes mi_X6_comes ivI (fun ad => [.ref (ad 86), .int a1, .int a2]) u (f_X6_comes a1 a2 u) := by
  refine con_of (by decide) rfl (fun _ => Nat.le_of_ble_eq_true rfl) (fun X ad => ?_)
  show Go X ad mi_X6_comes ivI 0 [(0, .ref (ad 86)), (1, .int a1), (2, .int a2)] [] u (f_X6_comes a1 a2 u)
  unfold f_X6_comes
  refine go_aload_n 0 rfl dX6_comes_0 rfl ?_
  refine go_getR clX6 kt_86 0 (Nat.le_of_ble_eq_true rfl) (f := 87) (fun _ => rfl) gw207 dX6_comes_1 ?_
  refine go_iconst (v := (1 : Int32)) dX6_comes_4 (by decide) ?_
  refine go_ialdL kt_87 kr_87 kl_87 rfl dX6_comes_5 ?_
  refine go_nm (fun x1 => ?_)
  refine go_istore_n (lv' := [(3, .int x1), (0, .ref (ad 86)), (1, .int a1), (2, .int a2)]) dX6_comes_6 rfl (Nat.le_of_ble_eq_true rfl) rfl ?_
  refine go_aload_n 1 rfl dX6_comes_7 rfl ?_
  refine go_getR clX6 kt_86 0 (Nat.le_of_ble_eq_true rfl) (f := 87) (fun _ => rfl) gw207 dX6_comes_8 ?_
  refine go_iload_n 0 rfl dX6_comes_11 rfl ?_
  refine go_iconst (v := (0 : Int32)) dX6_comes_12 (by decide) ?_
  refine go_callSI (As := fun ad => [.int x1, .int (0 : Int32)]) (g_X6_spot x1 (0 : Int32) u) mo_X6_spot gw213 gw214 rfl ⟨Nat.le_of_ble_eq_true rfl, Nat.le_of_ble_eq_true rfl⟩ rfl (Nat.le_of_ble_eq_true rfl) dX6_comes_13 (fun r2 u3 => ?_)
  refine go_iload_n 2 rfl dX6_comes_16 rfl ?_
  refine go_ck (fun h4 => ?_)
  refine go_iastL kt_87 kr_87 kl_87 h4 dX6_comes_17 ?_
  refine go_nmU (fun u5 => ?_)
  refine go_aload_n 1 rfl dX6_comes_18 rfl ?_
  refine go_getR clX6 kt_86 0 (Nat.le_of_ble_eq_true rfl) (f := 87) (fun _ => rfl) gw207 dX6_comes_19 ?_
  refine go_iload_n 0 rfl dX6_comes_22 rfl ?_
  refine go_iconst (v := (1 : Int32)) dX6_comes_23 (by decide) ?_
  refine go_callSI (As := fun ad => [.int x1, .int (1 : Int32)]) (g_X6_spot x1 (1 : Int32) u5) mo_X6_spot gw213 gw214 rfl ⟨Nat.le_of_ble_eq_true rfl, Nat.le_of_ble_eq_true rfl⟩ rfl (Nat.le_of_ble_eq_true rfl) dX6_comes_24 (fun r6 u7 => ?_)
  refine go_iload_n 3 rfl dX6_comes_27 rfl ?_
  refine go_ck (fun h8 => ?_)
  refine go_iastL kt_87 kr_87 kl_87 h8 dX6_comes_28 ?_
  refine go_nmU (fun u9 => ?_)
  refine go_aload_n 1 rfl dX6_comes_29 rfl ?_
  refine go_getR clX6 kt_86 0 (Nat.le_of_ble_eq_true rfl) (f := 87) (fun _ => rfl) gw207 dX6_comes_30 ?_
  refine go_iload_n 0 rfl dX6_comes_33 rfl ?_
  refine go_iconst (v := (2 : Int32)) dX6_comes_34 (by decide) ?_
  refine go_callSI (As := fun ad => [.int x1, .int (2 : Int32)]) (g_X6_spot x1 (2 : Int32) u9) mo_X6_spot gw213 gw214 rfl ⟨Nat.le_of_ble_eq_true rfl, Nat.le_of_ble_eq_true rfl⟩ rfl (Nat.le_of_ble_eq_true rfl) dX6_comes_35 (fun r10 u11 => ?_)
  refine go_iconst (v := (0 : Int32)) dX6_comes_38 (by decide) ?_
  refine go_ck (fun h12 => ?_)
  refine go_iastL kt_87 kr_87 kl_87 h12 dX6_comes_39 ?_
  refine go_nmU (fun u13 => ?_)
  refine go_aload_n 1 rfl dX6_comes_40 rfl ?_
  refine go_getR clX6 kt_86 0 (Nat.le_of_ble_eq_true rfl) (f := 87) (fun _ => rfl) gw207 dX6_comes_41 ?_
  refine go_iconst (v := (1 : Int32)) dX6_comes_44 (by decide) ?_
  refine go_dup2 dX6_comes_45 rfl rfl ?_
  refine go_ialdL kt_87 kr_87 kl_87 rfl dX6_comes_46 ?_
  refine go_nm (fun x14 => ?_)
  refine go_iconst (v := (1 : Int32)) dX6_comes_47 (by decide) ?_
  refine go_iadd dX6_comes_48 ?_
  refine go_iastL kt_87 kr_87 kl_87 rfl dX6_comes_49 ?_
  refine go_nmU (fun u15 => ?_)
  refine go_iload_n 0 rfl dX6_comes_50 rfl ?_
  exact go_iret rfl dX6_comes_51
def f_X6_isTrust (a1 : Int32) (u : Uw) : Option (Bool × Uw) :=
  if a1 = (-1 : Int32) then
  (some (true, u))
  else
  (bd (f_X6_isCalendar a1 u) fun r1 u2 =>
  if r1 = true then
  (some (true, u2))
  else
  (some (false, u2)))
set_option maxHeartbeats 4000000 in
set_option maxRecDepth 100000 in
theorem g_X6_isTrust (a1 : Int32) (u : Uw) : ∀ l, Con l yX6_isTrust mi_X6_isTrust ivZ (fun ad => [.ref (ad 86), .int a1]) u (f_X6_isTrust a1 u) := by
  refine con_of (by decide) rfl (fun _ => Nat.le_of_ble_eq_true rfl) (fun X ad => ?_)
  show Go X ad mi_X6_isTrust ivZ 0 [(0, .ref (ad 86)), (1, .int a1)] [] u (f_X6_isTrust a1 u)
  unfold f_X6_isTrust
  refine go_iload_n 1 rfl dX6_isTrust_0 rfl ?_
  refine go_iconst (v := (-1 : Int32)) dX6_isTrust_1 (by decide) ?_
  refine go_icmp_eq (tgt := 13) dX6_isTrust_2 (by decide) ?_ ?_
  · refine go_iconst (v := (1 : Int32)) dX6_isTrust_13 (by decide) ?_
    refine go_goto (tgt := 18) dX6_isTrust_14 (by decide) ?_
    exact go_zret (b := true) rfl dX6_isTrust_18
  · refine go_aload_n 0 rfl dX6_isTrust_5 rfl ?_
    refine go_iload_n 1 rfl dX6_isTrust_6 rfl ?_
    refine go_callVZ (As := fun ad => [.int a1]) (g_X6_isCalendar a1 u) mv_X6_isCalendar clX6 kt_86 gw211 rfl ⟨Nat.le_of_ble_eq_true rfl, Nat.le_of_ble_eq_true rfl⟩ rfl (Nat.le_of_ble_eq_true rfl) dX6_isTrust_7 (fun r1 u2 => ?_)
    refine go_ifz_eq (tgt := 17) dX6_isTrust_10 (by decide) ?_ ?_
    · refine go_iconst (v := (0 : Int32)) dX6_isTrust_17 (by decide) ?_
      exact go_zret (b := false) rfl dX6_isTrust_18
    · refine go_iconst (v := (1 : Int32)) dX6_isTrust_13 (by decide) ?_
      refine go_goto (tgt := 18) dX6_isTrust_14 (by decide) ?_
      exact go_zret (b := true) rfl dX6_isTrust_18
def f_X6_pilgrim (a1 : Int32) (a2 : Int32) (u : Uw) : Option (Int32 × Uw) :=
  bd (f_X6_in (a1.toInt64) (0 : Int64) (99 : Int64) u) fun r1 u2 =>
  if r1 = true then
  (bd (f_X6_isTrust a2 u2) fun r5 u6 =>
  if r5 = true then
  (nm (u6.1 20 (1 : Int32).toNatClampNeg) fun x7 =>
  if x7 = (8 : Int32) then
  (bd (f_X6_finds (-1000000002 : Int32) u6) fun r10 u11 =>
  some (r10, u11))
  else
  (bd (f_X6_comes a1 a2 u6) fun r8 u9 =>
  some (r8, u9)))
  else
  (bd (f_X6_finds (-1000000001 : Int32) u6) fun r12 u13 =>
  some (r12, u13)))
  else
  (bd (f_X6_finds (-1000000001 : Int32) u2) fun r3 u4 =>
  some (r3, u4))
set_option maxHeartbeats 4000000 in
set_option maxRecDepth 100000 in
theorem g_X6_pilgrim (a1 : Int32) (a2 : Int32) (u : Uw) : ∀ l, Con l yX6_pilgrim mi_X6_pilgrim ivI (fun ad => [.ref (ad 86), .int a1, .int a2]) u (f_X6_pilgrim a1 a2 u) := by
  refine con_of (by decide) rfl (fun _ => Nat.le_of_ble_eq_true rfl) (fun X ad => ?_)
  show Go X ad mi_X6_pilgrim ivI 0 [(0, .ref (ad 86)), (1, .int a1), (2, .int a2)] [] u (f_X6_pilgrim a1 a2 u)
  unfold f_X6_pilgrim
  refine go_iload_n 1 rfl dX6_pilgrim_0 rfl ?_
  refine go_i2l dX6_pilgrim_1 ?_
  refine go_lconst (v := (0 : Int64)) dX6_pilgrim_2 (by decide) ?_
  refine go_ldc2 (v := (99 : Int64)) gw222 dX6_pilgrim_3 ?_
  refine go_callSZ (As := fun ad => [.long (a1.toInt64), .long (0 : Int64), .long (99 : Int64)]) (g_X6_in (a1.toInt64) (0 : Int64) (99 : Int64) u) mo_X6_in gw209 gw210 rfl ⟨Nat.le_of_ble_eq_true rfl, Nat.le_of_ble_eq_true rfl⟩ rfl (Nat.le_of_ble_eq_true rfl) dX6_pilgrim_6 (fun r1 u2 => ?_)
  refine go_ifz_eq (tgt := 20) dX6_pilgrim_9 (by decide) ?_ ?_
  · refine go_aload_n 0 rfl dX6_pilgrim_20 rfl ?_
    refine go_ldc (v := (-1000000001 : Int32)) gw205 dX6_pilgrim_21 ?_
    refine go_callVI (As := fun ad => [.int (-1000000001 : Int32)]) (g_X6_finds (-1000000001 : Int32) u2) mv_X6_finds clX6 kt_86 gw219 rfl ⟨Nat.le_of_ble_eq_true rfl, Nat.le_of_ble_eq_true rfl⟩ rfl (Nat.le_of_ble_eq_true rfl) dX6_pilgrim_23 (fun r3 u4 => ?_)
    exact go_iret rfl dX6_pilgrim_26
  · refine go_aload_n 0 rfl dX6_pilgrim_12 rfl ?_
    refine go_iload_n 2 rfl dX6_pilgrim_13 rfl ?_
    refine go_callVZ (As := fun ad => [.int a2]) (g_X6_isTrust a2 u2) mv_X6_isTrust clX6 kt_86 gw238 rfl ⟨Nat.le_of_ble_eq_true rfl, Nat.le_of_ble_eq_true rfl⟩ rfl (Nat.le_of_ble_eq_true rfl) dX6_pilgrim_14 (fun r5 u6 => ?_)
    refine go_ifz_ne (tgt := 27) dX6_pilgrim_17 (by decide) ?_ ?_
    · refine go_aload_n 0 rfl dX6_pilgrim_27 rfl ?_
      refine go_getR clX6 kt_86 0 (Nat.le_of_ble_eq_true rfl) (f := 87) (fun _ => rfl) gw207 dX6_pilgrim_28 ?_
      refine go_iconst (v := (1 : Int32)) dX6_pilgrim_31 (by decide) ?_
      refine go_ialdL kt_87 kr_87 kl_87 rfl dX6_pilgrim_32 ?_
      refine go_nm (fun x7 => ?_)
      refine go_bipush (v := (8 : Int32)) dX6_pilgrim_33 (by decide) ?_
      refine go_icmp_ne (tgt := 47) dX6_pilgrim_35 (by decide) ?_ ?_
      · refine go_aload_n 0 rfl dX6_pilgrim_47 rfl ?_
        refine go_iload_n 1 rfl dX6_pilgrim_48 rfl ?_
        refine go_iload_n 2 rfl dX6_pilgrim_49 rfl ?_
        refine go_callVI (As := fun ad => [.int a1, .int a2]) (g_X6_comes a1 a2 u6) mv_X6_comes clX6 kt_86 gw239 rfl ⟨Nat.le_of_ble_eq_true rfl, Nat.le_of_ble_eq_true rfl⟩ rfl (Nat.le_of_ble_eq_true rfl) dX6_pilgrim_50 (fun r8 u9 => ?_)
        exact go_iret rfl dX6_pilgrim_53
      · refine go_aload_n 0 rfl dX6_pilgrim_38 rfl ?_
        refine go_ldc (v := (-1000000002 : Int32)) gw218 dX6_pilgrim_39 ?_
        refine go_callVI (As := fun ad => [.int (-1000000002 : Int32)]) (g_X6_finds (-1000000002 : Int32) u6) mv_X6_finds clX6 kt_86 gw219 rfl ⟨Nat.le_of_ble_eq_true rfl, Nat.le_of_ble_eq_true rfl⟩ rfl (Nat.le_of_ble_eq_true rfl) dX6_pilgrim_41 (fun r10 u11 => ?_)
        refine go_goto (tgt := 53) dX6_pilgrim_44 (by decide) ?_
        exact go_iret rfl dX6_pilgrim_53
    · refine go_aload_n 0 rfl dX6_pilgrim_20 rfl ?_
      refine go_ldc (v := (-1000000001 : Int32)) gw205 dX6_pilgrim_21 ?_
      refine go_callVI (As := fun ad => [.int (-1000000001 : Int32)]) (g_X6_finds (-1000000001 : Int32) u6) mv_X6_finds clX6 kt_86 gw219 rfl ⟨Nat.le_of_ble_eq_true rfl, Nat.le_of_ble_eq_true rfl⟩ rfl (Nat.le_of_ble_eq_true rfl) dX6_pilgrim_23 (fun r12 u13 => ?_)
      exact go_iret rfl dX6_pilgrim_26
def f_X6_about (a1 : Int32) (a2 : Int32) (u : Uw) : Option (Int32 × Uw) :=
  bd (f_X6_isPilgrim a1 u) fun r1 u2 =>
  if r1 = true then
  (bd (f_X6_in (a2.toInt64) (0 : Int64) (2 : Int64) u2) fun r5 u6 =>
  if r5 = true then
  (bd (f_X6_isOf a1 a2 u6) fun r9 u10 =>
  some (r9, u10))
  else
  (bd (f_X6_finds (-1000000001 : Int32) u6) fun r7 u8 =>
  some (r7, u8)))
  else
  (bd (f_X6_finds (-1000000001 : Int32) u2) fun r3 u4 =>
  some (r3, u4))
set_option maxHeartbeats 4000000 in
set_option maxRecDepth 100000 in
theorem g_X6_about (a1 : Int32) (a2 : Int32) (u : Uw) : ∀ l, Con l yX6_about mi_X6_about ivI (fun ad => [.ref (ad 86), .int a1, .int a2]) u (f_X6_about a1 a2 u) := by
  refine con_of (by decide) rfl (fun _ => Nat.le_of_ble_eq_true rfl) (fun X ad => ?_)
  show Go X ad mi_X6_about ivI 0 [(0, .ref (ad 86)), (1, .int a1), (2, .int a2)] [] u (f_X6_about a1 a2 u)
  unfold f_X6_about
  refine go_aload_n 0 rfl dX6_about_0 rfl ?_
  refine go_iload_n 1 rfl dX6_about_1 rfl ?_
  refine go_callVZ (As := fun ad => [.int a1]) (g_X6_isPilgrim a1 u) mv_X6_isPilgrim clX6 kt_86 gw240 rfl ⟨Nat.le_of_ble_eq_true rfl, Nat.le_of_ble_eq_true rfl⟩ rfl (Nat.le_of_ble_eq_true rfl) dX6_about_2 (fun r1 u2 => ?_)
  refine go_ifz_eq (tgt := 29) dX6_about_5 (by decide) ?_ ?_
  · refine go_aload_n 0 rfl dX6_about_29 rfl ?_
    refine go_ldc (v := (-1000000001 : Int32)) gw205 dX6_about_30 ?_
    refine go_callVI (As := fun ad => [.int (-1000000001 : Int32)]) (g_X6_finds (-1000000001 : Int32) u2) mv_X6_finds clX6 kt_86 gw219 rfl ⟨Nat.le_of_ble_eq_true rfl, Nat.le_of_ble_eq_true rfl⟩ rfl (Nat.le_of_ble_eq_true rfl) dX6_about_32 (fun r3 u4 => ?_)
    exact go_iret rfl dX6_about_35
  · refine go_iload_n 2 rfl dX6_about_8 rfl ?_
    refine go_i2l dX6_about_9 ?_
    refine go_lconst (v := (0 : Int64)) dX6_about_10 (by decide) ?_
    refine go_ldc2 (v := (2 : Int64)) gw241 dX6_about_11 ?_
    refine go_callSZ (As := fun ad => [.long (a2.toInt64), .long (0 : Int64), .long (2 : Int64)]) (g_X6_in (a2.toInt64) (0 : Int64) (2 : Int64) u2) mo_X6_in gw209 gw210 rfl ⟨Nat.le_of_ble_eq_true rfl, Nat.le_of_ble_eq_true rfl⟩ rfl (Nat.le_of_ble_eq_true rfl) dX6_about_14 (fun r5 u6 => ?_)
    refine go_ifz_eq (tgt := 29) dX6_about_17 (by decide) ?_ ?_
    · refine go_aload_n 0 rfl dX6_about_29 rfl ?_
      refine go_ldc (v := (-1000000001 : Int32)) gw205 dX6_about_30 ?_
      refine go_callVI (As := fun ad => [.int (-1000000001 : Int32)]) (g_X6_finds (-1000000001 : Int32) u6) mv_X6_finds clX6 kt_86 gw219 rfl ⟨Nat.le_of_ble_eq_true rfl, Nat.le_of_ble_eq_true rfl⟩ rfl (Nat.le_of_ble_eq_true rfl) dX6_about_32 (fun r7 u8 => ?_)
      exact go_iret rfl dX6_about_35
    · refine go_aload_n 0 rfl dX6_about_20 rfl ?_
      refine go_iload_n 1 rfl dX6_about_21 rfl ?_
      refine go_iload_n 2 rfl dX6_about_22 rfl ?_
      refine go_callVI (As := fun ad => [.int a1, .int a2]) (g_X6_isOf a1 a2 u6) mv_X6_isOf clX6 kt_86 gw242 rfl ⟨Nat.le_of_ble_eq_true rfl, Nat.le_of_ble_eq_true rfl⟩ rfl (Nat.le_of_ble_eq_true rfl) dX6_about_23 (fun r9 u10 => ?_)
      refine go_goto (tgt := 35) dX6_about_26 (by decide) ?_
      exact go_iret rfl dX6_about_35
def f_X6_mind (a1 : Int32) (a2 : Int32) (a3 : Int32) (u : Uw) : Option (Int32 × Uw) :=
  if a2 = 0 then
  (bd (f_X6_in (a3.toInt64) (0 : Int64) (99 : Int64) u) fun r23 u24 =>
  bd (f_X6_isPilgrim a1 u24) fun r25 u26 =>
  if r25 = true then
  (if (bI r23) = 0 then
  (bd (f_X6_finds (-1000000001 : Int32) u26) fun r29 u30 =>
  some (r29, u30))
  else
  (bd (f_X6_spot a1 a2 u26) fun r31 u32 =>
  bd (f_X6_becomes r31 a3 u32) fun r33 u34 =>
  some (r33, u34)))
  else
  (bd (f_X6_finds (-1000000001 : Int32) u26) fun r27 u28 =>
  some (r27, u28)))
  else
  (if a2 = (1 : Int32) then
  (bd (f_X6_isTrust a3 u) fun r7 u8 =>
  if r7 = true then
  (bd (f_X6_isPilgrim a1 u8) fun r15 u16 =>
  if r15 = true then
  (bd (f_X6_spot a1 a2 u16) fun r19 u20 =>
  bd (f_X6_becomes r19 a3 u20) fun r21 u22 =>
  some (r21, u22))
  else
  (bd (f_X6_finds (-1000000001 : Int32) u16) fun r17 u18 =>
  some (r17, u18)))
  else
  (bd (f_X6_isPilgrim a1 u8) fun r9 u10 =>
  if r9 = true then
  (bd (f_X6_finds (-1000000001 : Int32) u10) fun r13 u14 =>
  some (r13, u14))
  else
  (bd (f_X6_finds (-1000000001 : Int32) u10) fun r11 u12 =>
  some (r11, u12))))
  else
  (bd (f_X6_isPilgrim a1 u) fun r1 u2 =>
  if r1 = true then
  (bd (f_X6_finds (-1000000001 : Int32) u2) fun r5 u6 =>
  some (r5, u6))
  else
  (bd (f_X6_finds (-1000000001 : Int32) u2) fun r3 u4 =>
  some (r3, u4))))
set_option maxHeartbeats 4000000 in
set_option maxRecDepth 100000 in
theorem g_X6_mind (a1 : Int32) (a2 : Int32) (a3 : Int32) (u : Uw) : ∀ l, Con l yX6_mind mi_X6_mind ivI (fun ad => [.ref (ad 86), .int a1, .int a2, .int a3]) u (f_X6_mind a1 a2 a3 u) := by
  refine con_of (by decide) rfl (fun _ => Nat.le_of_ble_eq_true rfl) (fun X ad => ?_)
  show Go X ad mi_X6_mind ivI 0 [(0, .ref (ad 86)), (1, .int a1), (2, .int a2), (3, .int a3)] [] u (f_X6_mind a1 a2 a3 u)
  unfold f_X6_mind
  refine go_iload_n 2 rfl dX6_mind_0 rfl ?_
  refine go_if_ne (tgt := 16) dX6_mind_1 (by decide) ?_ ?_
  · refine go_iload_n 2 rfl dX6_mind_16 rfl ?_
    refine go_iconst (v := (1 : Int32)) dX6_mind_17 (by decide) ?_
    refine go_icmp_ne (tgt := 33) dX6_mind_18 (by decide) ?_ ?_
    · refine go_iconst (v := (0 : Int32)) dX6_mind_33 (by decide) ?_
      refine go_istore (lv' := [(4, .int (0 : Int32)), (0, .ref (ad 86)), (1, .int a1), (2, .int a2), (3, .int a3)]) dX6_mind_34 (Nat.le_of_ble_eq_true rfl) rfl ?_
      refine go_aload_n 1 rfl dX6_mind_36 rfl ?_
      refine go_iload_n 2 rfl dX6_mind_37 rfl ?_
      refine go_callVZ (As := fun ad => [.int a1]) (g_X6_isPilgrim a1 u) mv_X6_isPilgrim clX6 kt_86 gw240 rfl ⟨Nat.le_of_ble_eq_true rfl, Nat.le_of_ble_eq_true rfl⟩ rfl (Nat.le_of_ble_eq_true rfl) dX6_mind_38 (fun r1 u2 => ?_)
      refine go_ifz_eq (tgt := 62) dX6_mind_41 (by decide) ?_ ?_
      · refine go_aload_n 1 rfl dX6_mind_62 rfl ?_
        refine go_ldc (v := (-1000000001 : Int32)) gw205 dX6_mind_63 ?_
        refine go_callVI (As := fun ad => [.int (-1000000001 : Int32)]) (g_X6_finds (-1000000001 : Int32) u2) mv_X6_finds clX6 kt_86 gw219 rfl ⟨Nat.le_of_ble_eq_true rfl, Nat.le_of_ble_eq_true rfl⟩ rfl (Nat.le_of_ble_eq_true rfl) dX6_mind_65 (fun r3 u4 => ?_)
        exact go_iret rfl dX6_mind_68
      · refine go_iload 0 rfl dX6_mind_44 ?_
        refine go_if_eq_t (tgt := 62) (by decide) dX6_mind_46 (by decide) ?_
        refine go_aload_n 1 rfl dX6_mind_62 rfl ?_
        refine go_ldc (v := (-1000000001 : Int32)) gw205 dX6_mind_63 ?_
        refine go_callVI (As := fun ad => [.int (-1000000001 : Int32)]) (g_X6_finds (-1000000001 : Int32) u2) mv_X6_finds clX6 kt_86 gw219 rfl ⟨Nat.le_of_ble_eq_true rfl, Nat.le_of_ble_eq_true rfl⟩ rfl (Nat.le_of_ble_eq_true rfl) dX6_mind_65 (fun r5 u6 => ?_)
        exact go_iret rfl dX6_mind_68
    · refine go_aload_n 0 rfl dX6_mind_21 rfl ?_
      refine go_iload_n 3 rfl dX6_mind_22 rfl ?_
      refine go_callVZ (As := fun ad => [.int a3]) (g_X6_isTrust a3 u) mv_X6_isTrust clX6 kt_86 gw238 rfl ⟨Nat.le_of_ble_eq_true rfl, Nat.le_of_ble_eq_true rfl⟩ rfl (Nat.le_of_ble_eq_true rfl) dX6_mind_23 (fun r7 u8 => ?_)
      refine go_ifz_eq (tgt := 33) dX6_mind_26 (by decide) ?_ ?_
      · refine go_iconst (v := (0 : Int32)) dX6_mind_33 (by decide) ?_
        refine go_istore (lv' := [(4, .int (0 : Int32)), (0, .ref (ad 86)), (1, .int a1), (2, .int a2), (3, .int a3)]) dX6_mind_34 (Nat.le_of_ble_eq_true rfl) rfl ?_
        refine go_aload_n 1 rfl dX6_mind_36 rfl ?_
        refine go_iload_n 2 rfl dX6_mind_37 rfl ?_
        refine go_callVZ (As := fun ad => [.int a1]) (g_X6_isPilgrim a1 u8) mv_X6_isPilgrim clX6 kt_86 gw240 rfl ⟨Nat.le_of_ble_eq_true rfl, Nat.le_of_ble_eq_true rfl⟩ rfl (Nat.le_of_ble_eq_true rfl) dX6_mind_38 (fun r9 u10 => ?_)
        refine go_ifz_eq (tgt := 62) dX6_mind_41 (by decide) ?_ ?_
        · refine go_aload_n 1 rfl dX6_mind_62 rfl ?_
          refine go_ldc (v := (-1000000001 : Int32)) gw205 dX6_mind_63 ?_
          refine go_callVI (As := fun ad => [.int (-1000000001 : Int32)]) (g_X6_finds (-1000000001 : Int32) u10) mv_X6_finds clX6 kt_86 gw219 rfl ⟨Nat.le_of_ble_eq_true rfl, Nat.le_of_ble_eq_true rfl⟩ rfl (Nat.le_of_ble_eq_true rfl) dX6_mind_65 (fun r11 u12 => ?_)
          exact go_iret rfl dX6_mind_68
        · refine go_iload 0 rfl dX6_mind_44 ?_
          refine go_if_eq_t (tgt := 62) (by decide) dX6_mind_46 (by decide) ?_
          refine go_aload_n 1 rfl dX6_mind_62 rfl ?_
          refine go_ldc (v := (-1000000001 : Int32)) gw205 dX6_mind_63 ?_
          refine go_callVI (As := fun ad => [.int (-1000000001 : Int32)]) (g_X6_finds (-1000000001 : Int32) u10) mv_X6_finds clX6 kt_86 gw219 rfl ⟨Nat.le_of_ble_eq_true rfl, Nat.le_of_ble_eq_true rfl⟩ rfl (Nat.le_of_ble_eq_true rfl) dX6_mind_65 (fun r13 u14 => ?_)
          exact go_iret rfl dX6_mind_68
      · refine go_iconst (v := (1 : Int32)) dX6_mind_29 (by decide) ?_
        refine go_goto (tgt := 34) dX6_mind_30 (by decide) ?_
        refine go_istore (lv' := [(4, .int (1 : Int32)), (0, .ref (ad 86)), (1, .int a1), (2, .int a2), (3, .int a3)]) dX6_mind_34 (Nat.le_of_ble_eq_true rfl) rfl ?_
        refine go_aload_n 1 rfl dX6_mind_36 rfl ?_
        refine go_iload_n 2 rfl dX6_mind_37 rfl ?_
        refine go_callVZ (As := fun ad => [.int a1]) (g_X6_isPilgrim a1 u8) mv_X6_isPilgrim clX6 kt_86 gw240 rfl ⟨Nat.le_of_ble_eq_true rfl, Nat.le_of_ble_eq_true rfl⟩ rfl (Nat.le_of_ble_eq_true rfl) dX6_mind_38 (fun r15 u16 => ?_)
        refine go_ifz_eq (tgt := 62) dX6_mind_41 (by decide) ?_ ?_
        · refine go_aload_n 1 rfl dX6_mind_62 rfl ?_
          refine go_ldc (v := (-1000000001 : Int32)) gw205 dX6_mind_63 ?_
          refine go_callVI (As := fun ad => [.int (-1000000001 : Int32)]) (g_X6_finds (-1000000001 : Int32) u16) mv_X6_finds clX6 kt_86 gw219 rfl ⟨Nat.le_of_ble_eq_true rfl, Nat.le_of_ble_eq_true rfl⟩ rfl (Nat.le_of_ble_eq_true rfl) dX6_mind_65 (fun r17 u18 => ?_)
          exact go_iret rfl dX6_mind_68
        · refine go_iload 0 rfl dX6_mind_44 ?_
          refine go_if_eq_f (tgt := 62) (by decide) dX6_mind_46 (by decide) ?_
          refine go_aload_n 1 rfl dX6_mind_49 rfl ?_
          refine go_iload_n 2 rfl dX6_mind_50 rfl ?_
          refine go_iload_n 3 rfl dX6_mind_51 rfl ?_
          refine go_callSI (As := fun ad => [.int a1, .int a2]) (g_X6_spot a1 a2 u16) mo_X6_spot gw213 gw214 rfl ⟨Nat.le_of_ble_eq_true rfl, Nat.le_of_ble_eq_true rfl⟩ rfl (Nat.le_of_ble_eq_true rfl) dX6_mind_52 (fun r19 u20 => ?_)
          refine go_iload_n 4 rfl dX6_mind_55 rfl ?_
          refine go_callVI (As := fun ad => [.int r19, .int a3]) (g_X6_becomes r19 a3 u20) mv_X6_becomes clX6 kt_86 gw227 rfl ⟨Nat.le_of_ble_eq_true rfl, Nat.le_of_ble_eq_true rfl⟩ rfl (Nat.le_of_ble_eq_true rfl) dX6_mind_56 (fun r21 u22 => ?_)
          refine go_goto (tgt := 68) dX6_mind_59 (by decide) ?_
          exact go_iret rfl dX6_mind_68
  · refine go_iload_n 3 rfl dX6_mind_4 rfl ?_
    refine go_i2l dX6_mind_5 ?_
    refine go_lconst (v := (0 : Int64)) dX6_mind_6 (by decide) ?_
    refine go_ldc2 (v := (99 : Int64)) gw222 dX6_mind_7 ?_
    refine go_callSZ (As := fun ad => [.long (a3.toInt64), .long (0 : Int64), .long (99 : Int64)]) (g_X6_in (a3.toInt64) (0 : Int64) (99 : Int64) u) mo_X6_in gw209 gw210 rfl ⟨Nat.le_of_ble_eq_true rfl, Nat.le_of_ble_eq_true rfl⟩ rfl (Nat.le_of_ble_eq_true rfl) dX6_mind_10 (fun r23 u24 => ?_)
    refine go_goto (tgt := 34) dX6_mind_13 (by decide) ?_
    refine go_istore (lv' := [(4, .int (bI r23)), (0, .ref (ad 86)), (1, .int a1), (2, .int a2), (3, .int a3)]) dX6_mind_34 (Nat.le_of_ble_eq_true rfl) rfl ?_
    refine go_aload_n 1 rfl dX6_mind_36 rfl ?_
    refine go_iload_n 2 rfl dX6_mind_37 rfl ?_
    refine go_callVZ (As := fun ad => [.int a1]) (g_X6_isPilgrim a1 u24) mv_X6_isPilgrim clX6 kt_86 gw240 rfl ⟨Nat.le_of_ble_eq_true rfl, Nat.le_of_ble_eq_true rfl⟩ rfl (Nat.le_of_ble_eq_true rfl) dX6_mind_38 (fun r25 u26 => ?_)
    refine go_ifz_eq (tgt := 62) dX6_mind_41 (by decide) ?_ ?_
    · refine go_aload_n 1 rfl dX6_mind_62 rfl ?_
      refine go_ldc (v := (-1000000001 : Int32)) gw205 dX6_mind_63 ?_
      refine go_callVI (As := fun ad => [.int (-1000000001 : Int32)]) (g_X6_finds (-1000000001 : Int32) u26) mv_X6_finds clX6 kt_86 gw219 rfl ⟨Nat.le_of_ble_eq_true rfl, Nat.le_of_ble_eq_true rfl⟩ rfl (Nat.le_of_ble_eq_true rfl) dX6_mind_65 (fun r27 u28 => ?_)
      exact go_iret rfl dX6_mind_68
    · refine go_iload 0 rfl dX6_mind_44 ?_
      refine go_if_eq (tgt := 62) dX6_mind_46 (by decide) ?_ ?_
      · refine go_aload_n 1 rfl dX6_mind_62 rfl ?_
        refine go_ldc (v := (-1000000001 : Int32)) gw205 dX6_mind_63 ?_
        refine go_callVI (As := fun ad => [.int (-1000000001 : Int32)]) (g_X6_finds (-1000000001 : Int32) u26) mv_X6_finds clX6 kt_86 gw219 rfl ⟨Nat.le_of_ble_eq_true rfl, Nat.le_of_ble_eq_true rfl⟩ rfl (Nat.le_of_ble_eq_true rfl) dX6_mind_65 (fun r29 u30 => ?_)
        exact go_iret rfl dX6_mind_68
      · refine go_aload_n 1 rfl dX6_mind_49 rfl ?_
        refine go_iload_n 2 rfl dX6_mind_50 rfl ?_
        refine go_iload_n 3 rfl dX6_mind_51 rfl ?_
        refine go_callSI (As := fun ad => [.int a1, .int a2]) (g_X6_spot a1 a2 u26) mo_X6_spot gw213 gw214 rfl ⟨Nat.le_of_ble_eq_true rfl, Nat.le_of_ble_eq_true rfl⟩ rfl (Nat.le_of_ble_eq_true rfl) dX6_mind_52 (fun r31 u32 => ?_)
        refine go_iload_n 4 rfl dX6_mind_55 rfl ?_
        refine go_callVI (As := fun ad => [.int r31, .int a3]) (g_X6_becomes r31 a3 u32) mv_X6_becomes clX6 kt_86 gw227 rfl ⟨Nat.le_of_ble_eq_true rfl, Nat.le_of_ble_eq_true rfl⟩ rfl (Nat.le_of_ble_eq_true rfl) dX6_mind_56 (fun r33 u34 => ?_)
        refine go_goto (tgt := 68) dX6_mind_59 (by decide) ?_
        exact go_iret rfl dX6_mind_68
def f_X6_helps (a1 : Int32) (a2 : Int32) (u : Uw) : Option (Unit × Uw) :=
  bd (f_X6_isOf a1 (0 : Int32) u) fun r1 u2 =>
  if a2 = 0 then
  (nm (u2.1 20 (3 : Int32).toNatClampNeg) fun x3 =>
  nm (r1 + (x3 / (2 : Int32))) fun x4 =>
  bd (f_X6_spot a1 (0 : Int32) u2) fun r5 u6 =>
  if 0 ≤ x4 then
  (if x4 ≤ (99 : Int32) then
  (ck (inb r5 61) <|
  nm (w1 u6 20 r5.toNatClampNeg x4) fun u8 =>
  some ((), u8))
  else
  (ck (inb r5 61) <|
  nm (w1 u6 20 r5.toNatClampNeg (99 : Int32)) fun u10 =>
  some ((), u10)))
  else
  (ck (inb r5 61) <|
  nm (w1 u6 20 r5.toNatClampNeg (0 : Int32)) fun u12 =>
  some ((), u12)))
  else
  (nm (u2.1 20 (3 : Int32).toNatClampNeg) fun x13 =>
  nm (r1 + (-x13)) fun x14 =>
  bd (f_X6_spot a1 (0 : Int32) u2) fun r15 u16 =>
  if 0 ≤ x14 then
  (if x14 ≤ (99 : Int32) then
  (ck (inb r15 61) <|
  nm (w1 u16 20 r15.toNatClampNeg x14) fun u18 =>
  some ((), u18))
  else
  (ck (inb r15 61) <|
  nm (w1 u16 20 r15.toNatClampNeg (99 : Int32)) fun u20 =>
  some ((), u20)))
  else
  (ck (inb r15 61) <|
  nm (w1 u16 20 r15.toNatClampNeg (0 : Int32)) fun u22 =>
  some ((), u22)))
set_option maxHeartbeats 4000000 in
set_option maxRecDepth 100000 in
theorem g_X6_helps (a1 : Int32) (a2 : Int32) (u : Uw) : ∀ l, Con l yX6_helps mi_X6_helps ivV (fun ad => [.ref (ad 86), .int a1, .int a2]) u (f_X6_helps a1 a2 u) := by
  refine con_of (by decide) rfl (fun _ => Nat.le_of_ble_eq_true rfl) (fun X ad => ?_)
  show Go X ad mi_X6_helps ivV 0 [(0, .ref (ad 86)), (1, .int a1), (2, .int a2)] [] u (f_X6_helps a1 a2 u)
  unfold f_X6_helps
  refine go_aload_n 0 rfl dX6_helps_0 rfl ?_
  refine go_iload_n 1 rfl dX6_helps_1 rfl ?_
  refine go_iconst (v := (0 : Int32)) dX6_helps_2 (by decide) ?_
  refine go_callVI (As := fun ad => [.int a1, .int (0 : Int32)]) (g_X6_isOf a1 (0 : Int32) u) mv_X6_isOf clX6 kt_86 gw242 rfl ⟨Nat.le_of_ble_eq_true rfl, Nat.le_of_ble_eq_true rfl⟩ rfl (Nat.le_of_ble_eq_true rfl) dX6_helps_3 (fun r1 u2 => ?_)
  refine go_iload_n 2 rfl dX6_helps_6 rfl ?_
  refine go_if_eq (tgt := 20) dX6_helps_7 (by decide) ?_ ?_
  · refine go_aload_n 0 rfl dX6_helps_20 rfl ?_
    refine go_getR clX6 kt_86 0 (Nat.le_of_ble_eq_true rfl) (f := 87) (fun _ => rfl) gw207 dX6_helps_21 ?_
    refine go_iconst (v := (3 : Int32)) dX6_helps_24 (by decide) ?_
    refine go_ialdL kt_87 kr_87 kl_87 rfl dX6_helps_25 ?_
    refine go_nm (fun x3 => ?_)
    refine go_iconst (v := (2 : Int32)) dX6_helps_26 (by decide) ?_
    refine go_idiv (by decide) dX6_helps_27 ?_
    refine go_iadd dX6_helps_28 ?_
    refine go_nm (fun x4 => ?_)
    refine go_istore_n (lv' := [(3, .int x4), (0, .ref (ad 86)), (1, .int a1), (2, .int a2)]) dX6_helps_29 rfl (Nat.le_of_ble_eq_true rfl) rfl ?_
    refine go_aload_n 1 rfl dX6_helps_30 rfl ?_
    refine go_getR clX6 kt_86 0 (Nat.le_of_ble_eq_true rfl) (f := 87) (fun _ => rfl) gw207 dX6_helps_31 ?_
    refine go_iload_n 2 rfl dX6_helps_34 rfl ?_
    refine go_iconst (v := (0 : Int32)) dX6_helps_35 (by decide) ?_
    refine go_callSI (As := fun ad => [.int a1, .int (0 : Int32)]) (g_X6_spot a1 (0 : Int32) u2) mo_X6_spot gw213 gw214 rfl ⟨Nat.le_of_ble_eq_true rfl, Nat.le_of_ble_eq_true rfl⟩ rfl (Nat.le_of_ble_eq_true rfl) dX6_helps_36 (fun r5 u6 => ?_)
    refine go_iload_n 0 rfl dX6_helps_39 rfl ?_
    refine go_if_ge (tgt := 47) dX6_helps_40 (by decide) ?_ ?_
    · refine go_iload_n 0 rfl dX6_helps_47 rfl ?_
      refine go_bipush (v := (99 : Int32)) dX6_helps_48 (by decide) ?_
      refine go_icmp_le (tgt := 58) dX6_helps_50 (by decide) ?_ ?_
      · refine go_iload_n 0 rfl dX6_helps_58 rfl ?_
        refine go_ck (fun h7 => ?_)
        refine go_iastL kt_87 kr_87 kl_87 h7 dX6_helps_59 ?_
        refine go_nmU (fun u8 => ?_)
        exact go_vret rfl dX6_helps_60
      · refine go_bipush (v := (99 : Int32)) dX6_helps_53 (by decide) ?_
        refine go_goto (tgt := 59) dX6_helps_55 (by decide) ?_
        refine go_ck (fun h9 => ?_)
        refine go_iastL kt_87 kr_87 kl_87 h9 dX6_helps_59 ?_
        refine go_nmU (fun u10 => ?_)
        exact go_vret rfl dX6_helps_60
    · refine go_iconst (v := (0 : Int32)) dX6_helps_43 (by decide) ?_
      refine go_goto (tgt := 59) dX6_helps_44 (by decide) ?_
      refine go_ck (fun h11 => ?_)
      refine go_iastL kt_87 kr_87 kl_87 h11 dX6_helps_59 ?_
      refine go_nmU (fun u12 => ?_)
      exact go_vret rfl dX6_helps_60
  · refine go_aload_n 0 rfl dX6_helps_10 rfl ?_
    refine go_getR clX6 kt_86 0 (Nat.le_of_ble_eq_true rfl) (f := 87) (fun _ => rfl) gw207 dX6_helps_11 ?_
    refine go_iconst (v := (3 : Int32)) dX6_helps_14 (by decide) ?_
    refine go_ialdL kt_87 kr_87 kl_87 rfl dX6_helps_15 ?_
    refine go_nm (fun x13 => ?_)
    refine go_ineg dX6_helps_16 ?_
    refine go_goto (tgt := 28) dX6_helps_17 (by decide) ?_
    refine go_iadd dX6_helps_28 ?_
    refine go_nm (fun x14 => ?_)
    refine go_istore_n (lv' := [(3, .int x14), (0, .ref (ad 86)), (1, .int a1), (2, .int a2)]) dX6_helps_29 rfl (Nat.le_of_ble_eq_true rfl) rfl ?_
    refine go_aload_n 1 rfl dX6_helps_30 rfl ?_
    refine go_getR clX6 kt_86 0 (Nat.le_of_ble_eq_true rfl) (f := 87) (fun _ => rfl) gw207 dX6_helps_31 ?_
    refine go_iload_n 2 rfl dX6_helps_34 rfl ?_
    refine go_iconst (v := (0 : Int32)) dX6_helps_35 (by decide) ?_
    refine go_callSI (As := fun ad => [.int a1, .int (0 : Int32)]) (g_X6_spot a1 (0 : Int32) u2) mo_X6_spot gw213 gw214 rfl ⟨Nat.le_of_ble_eq_true rfl, Nat.le_of_ble_eq_true rfl⟩ rfl (Nat.le_of_ble_eq_true rfl) dX6_helps_36 (fun r15 u16 => ?_)
    refine go_iload_n 0 rfl dX6_helps_39 rfl ?_
    refine go_if_ge (tgt := 47) dX6_helps_40 (by decide) ?_ ?_
    · refine go_iload_n 0 rfl dX6_helps_47 rfl ?_
      refine go_bipush (v := (99 : Int32)) dX6_helps_48 (by decide) ?_
      refine go_icmp_le (tgt := 58) dX6_helps_50 (by decide) ?_ ?_
      · refine go_iload_n 0 rfl dX6_helps_58 rfl ?_
        refine go_ck (fun h17 => ?_)
        refine go_iastL kt_87 kr_87 kl_87 h17 dX6_helps_59 ?_
        refine go_nmU (fun u18 => ?_)
        exact go_vret rfl dX6_helps_60
      · refine go_bipush (v := (99 : Int32)) dX6_helps_53 (by decide) ?_
        refine go_goto (tgt := 59) dX6_helps_55 (by decide) ?_
        refine go_ck (fun h19 => ?_)
        refine go_iastL kt_87 kr_87 kl_87 h19 dX6_helps_59 ?_
        refine go_nmU (fun u20 => ?_)
        exact go_vret rfl dX6_helps_60
    · refine go_iconst (v := (0 : Int32)) dX6_helps_43 (by decide) ?_
      refine go_goto (tgt := 59) dX6_helps_44 (by decide) ?_
      refine go_ck (fun h21 => ?_)
      refine go_iastL kt_87 kr_87 kl_87 h21 dX6_helps_59 ?_
      refine go_nmU (fun u22 => ?_)
      exact go_vret rfl dX6_helps_60
