/-! methods: what each does to the world, and that its bytecode does so (laid by wip/whole/gen) -/
def f_X3_calendarAt (a0 : Nat) (a1 : Int32) (u : Uw) : Option ((Option Nat) × Uw) :=
  if a1 < 0 then
  (some (none, u))
  else
  (ck (kT a0 == 3) <|
  if (u.1 (kR a0) (kO a0 + 0)) ≤ a1 then
  (some (none, u))
  else
  (ck (kT (a0 + 1) == 13) <|
  if (6 : Int32) ≤ a1 then
  (some (none, u))
  else
  (ck (inb a1 6) <|
  nm ((a0 + 1) + 2 + a1.toNatClampNeg) fun e4 =>
  some (some e4, u))))
set_option maxHeartbeats 4000000 in
set_option maxRecDepth 100000 in
theorem g_X3_calendarAt (a0 : Nat) (a1 : Int32) (u : Uw) : ∀ l, Con l yX3_calendarAt mi_X3_calendarAt ivR (fun ad => [.ref (ad a0), .int a1]) u (f_X3_calendarAt a0 a1 u) := by
  refine con_of (by decide) rfl (fun _ => Nat.le_of_ble_eq_true rfl) (fun X ad => ?_)
  show Go X ad mi_X3_calendarAt ivR 0 [(0, .ref (ad a0)), (1, .int a1)] [] u (f_X3_calendarAt a0 a1 u)
  unfold f_X3_calendarAt
  refine go_iload_n 1 rfl dX3_calendarAt_0 rfl ?_
  refine go_if_lt (tgt := 25) dX3_calendarAt_1 (by decide) ?_ ?_
  · refine go_iconst (v := (0 : Int32)) dX3_calendarAt_25 (by decide) ?_
    refine go_istore_n (lv' := [(2, .int (0 : Int32)), (0, .ref (ad a0)), (1, .int a1)]) dX3_calendarAt_26 rfl (Nat.le_of_ble_eq_true rfl) rfl ?_
    refine go_iload_n 0 rfl dX3_calendarAt_27 rfl ?_
    refine go_if_eq_t (tgt := 40) (by decide) dX3_calendarAt_28 (by decide) ?_
    refine go_null dX3_calendarAt_40 ?_
    exact go_aretN rfl dX3_calendarAt_41
  · refine go_iload_n 1 rfl dX3_calendarAt_4 rfl ?_
    refine go_aload_n 0 rfl dX3_calendarAt_5 rfl ?_
    refine go_ck (fun h1 => ?_)
    refine go_getI clX3 h1 5 (Nat.le_of_ble_eq_true rfl) (c := 0) (fun _ => rfl) gw42 dX3_calendarAt_6 ?_
    refine go_icmp_ge (tgt := 25) dX3_calendarAt_9 (by decide) ?_ ?_
    · refine go_iconst (v := (0 : Int32)) dX3_calendarAt_25 (by decide) ?_
      refine go_istore_n (lv' := [(2, .int (0 : Int32)), (0, .ref (ad a0)), (1, .int a1)]) dX3_calendarAt_26 rfl (Nat.le_of_ble_eq_true rfl) rfl ?_
      refine go_iload_n 0 rfl dX3_calendarAt_27 rfl ?_
      refine go_if_eq_t (tgt := 40) (by decide) dX3_calendarAt_28 (by decide) ?_
      refine go_null dX3_calendarAt_40 ?_
      exact go_aretN rfl dX3_calendarAt_41
    · refine go_iload_n 1 rfl dX3_calendarAt_12 rfl ?_
      refine go_aload_n 0 rfl dX3_calendarAt_13 rfl ?_
      refine go_getR clX3 h1 7 (Nat.le_of_ble_eq_true rfl) (f := (a0 + 1)) (fun _ => rfl) gw44 dX3_calendarAt_14 ?_
      refine go_ck (fun h2 => ?_)
      refine go_alen13 h2 dX3_calendarAt_17 ?_
      refine go_icmp_ge (tgt := 25) dX3_calendarAt_18 (by decide) ?_ ?_
      · refine go_iconst (v := (0 : Int32)) dX3_calendarAt_25 (by decide) ?_
        refine go_istore_n (lv' := [(2, .int (0 : Int32)), (0, .ref (ad a0)), (1, .int a1)]) dX3_calendarAt_26 rfl (Nat.le_of_ble_eq_true rfl) rfl ?_
        refine go_iload_n 0 rfl dX3_calendarAt_27 rfl ?_
        refine go_if_eq_t (tgt := 40) (by decide) dX3_calendarAt_28 (by decide) ?_
        refine go_null dX3_calendarAt_40 ?_
        exact go_aretN rfl dX3_calendarAt_41
      · refine go_iconst (v := (1 : Int32)) dX3_calendarAt_21 (by decide) ?_
        refine go_goto (tgt := 26) dX3_calendarAt_22 (by decide) ?_
        refine go_istore_n (lv' := [(2, .int (1 : Int32)), (0, .ref (ad a0)), (1, .int a1)]) dX3_calendarAt_26 rfl (Nat.le_of_ble_eq_true rfl) rfl ?_
        refine go_iload_n 0 rfl dX3_calendarAt_27 rfl ?_
        refine go_if_eq_f (tgt := 40) (by decide) dX3_calendarAt_28 (by decide) ?_
        refine go_aload_n 1 rfl dX3_calendarAt_31 rfl ?_
        refine go_getR clX3 h1 7 (Nat.le_of_ble_eq_true rfl) (f := (a0 + 1)) (fun _ => rfl) gw44 dX3_calendarAt_32 ?_
        refine go_iload_n 2 rfl dX3_calendarAt_35 rfl ?_
        refine go_ck (fun h3 => ?_)
        refine go_aald13 h2 h3 dX3_calendarAt_36 ?_
        refine go_nmR (fun e4 => ?_)
        refine go_goto (tgt := 41) dX3_calendarAt_37 (by decide) ?_
        exact go_aret rfl dX3_calendarAt_41
def f_X3_pilgrimAt (a0 : Nat) (a1 : Int32) (u : Uw) : Option ((Option Nat) × Uw) :=
  if a1 < 0 then
  (some (none, u))
  else
  (ck (kT a0 == 3) <|
  if (u.1 (kR a0) (kO a0 + 1)) ≤ a1 then
  (some (none, u))
  else
  (ck (kT (a0 + 2) == 14) <|
  if (8 : Int32) ≤ a1 then
  (some (none, u))
  else
  (ck (inb a1 8) <|
  nm ((a0 + 2) + 13 + a1.toNatClampNeg) fun e4 =>
  some (some e4, u))))
set_option maxHeartbeats 4000000 in
set_option maxRecDepth 100000 in
theorem g_X3_pilgrimAt (a0 : Nat) (a1 : Int32) (u : Uw) : ∀ l, Con l yX3_pilgrimAt mi_X3_pilgrimAt ivR (fun ad => [.ref (ad a0), .int a1]) u (f_X3_pilgrimAt a0 a1 u) := by
  refine con_of (by decide) rfl (fun _ => Nat.le_of_ble_eq_true rfl) (fun X ad => ?_)
  show Go X ad mi_X3_pilgrimAt ivR 0 [(0, .ref (ad a0)), (1, .int a1)] [] u (f_X3_pilgrimAt a0 a1 u)
  unfold f_X3_pilgrimAt
  refine go_iload_n 1 rfl dX3_pilgrimAt_0 rfl ?_
  refine go_if_lt (tgt := 25) dX3_pilgrimAt_1 (by decide) ?_ ?_
  · refine go_iconst (v := (0 : Int32)) dX3_pilgrimAt_25 (by decide) ?_
    refine go_istore_n (lv' := [(2, .int (0 : Int32)), (0, .ref (ad a0)), (1, .int a1)]) dX3_pilgrimAt_26 rfl (Nat.le_of_ble_eq_true rfl) rfl ?_
    refine go_iload_n 0 rfl dX3_pilgrimAt_27 rfl ?_
    refine go_if_eq_t (tgt := 40) (by decide) dX3_pilgrimAt_28 (by decide) ?_
    refine go_null dX3_pilgrimAt_40 ?_
    exact go_aretN rfl dX3_pilgrimAt_41
  · refine go_iload_n 1 rfl dX3_pilgrimAt_4 rfl ?_
    refine go_aload_n 0 rfl dX3_pilgrimAt_5 rfl ?_
    refine go_ck (fun h1 => ?_)
    refine go_getI clX3 h1 6 (Nat.le_of_ble_eq_true rfl) (c := 1) (fun _ => rfl) gw43 dX3_pilgrimAt_6 ?_
    refine go_icmp_ge (tgt := 25) dX3_pilgrimAt_9 (by decide) ?_ ?_
    · refine go_iconst (v := (0 : Int32)) dX3_pilgrimAt_25 (by decide) ?_
      refine go_istore_n (lv' := [(2, .int (0 : Int32)), (0, .ref (ad a0)), (1, .int a1)]) dX3_pilgrimAt_26 rfl (Nat.le_of_ble_eq_true rfl) rfl ?_
      refine go_iload_n 0 rfl dX3_pilgrimAt_27 rfl ?_
      refine go_if_eq_t (tgt := 40) (by decide) dX3_pilgrimAt_28 (by decide) ?_
      refine go_null dX3_pilgrimAt_40 ?_
      exact go_aretN rfl dX3_pilgrimAt_41
    · refine go_iload_n 1 rfl dX3_pilgrimAt_12 rfl ?_
      refine go_aload_n 0 rfl dX3_pilgrimAt_13 rfl ?_
      refine go_getR clX3 h1 8 (Nat.le_of_ble_eq_true rfl) (f := (a0 + 2)) (fun _ => rfl) gw45 dX3_pilgrimAt_14 ?_
      refine go_ck (fun h2 => ?_)
      refine go_alen14 h2 dX3_pilgrimAt_17 ?_
      refine go_icmp_ge (tgt := 25) dX3_pilgrimAt_18 (by decide) ?_ ?_
      · refine go_iconst (v := (0 : Int32)) dX3_pilgrimAt_25 (by decide) ?_
        refine go_istore_n (lv' := [(2, .int (0 : Int32)), (0, .ref (ad a0)), (1, .int a1)]) dX3_pilgrimAt_26 rfl (Nat.le_of_ble_eq_true rfl) rfl ?_
        refine go_iload_n 0 rfl dX3_pilgrimAt_27 rfl ?_
        refine go_if_eq_t (tgt := 40) (by decide) dX3_pilgrimAt_28 (by decide) ?_
        refine go_null dX3_pilgrimAt_40 ?_
        exact go_aretN rfl dX3_pilgrimAt_41
      · refine go_iconst (v := (1 : Int32)) dX3_pilgrimAt_21 (by decide) ?_
        refine go_goto (tgt := 26) dX3_pilgrimAt_22 (by decide) ?_
        refine go_istore_n (lv' := [(2, .int (1 : Int32)), (0, .ref (ad a0)), (1, .int a1)]) dX3_pilgrimAt_26 rfl (Nat.le_of_ble_eq_true rfl) rfl ?_
        refine go_iload_n 0 rfl dX3_pilgrimAt_27 rfl ?_
        refine go_if_eq_f (tgt := 40) (by decide) dX3_pilgrimAt_28 (by decide) ?_
        refine go_aload_n 1 rfl dX3_pilgrimAt_31 rfl ?_
        refine go_getR clX3 h1 8 (Nat.le_of_ble_eq_true rfl) (f := (a0 + 2)) (fun _ => rfl) gw45 dX3_pilgrimAt_32 ?_
        refine go_iload_n 2 rfl dX3_pilgrimAt_35 rfl ?_
        refine go_ck (fun h3 => ?_)
        refine go_aald14 h2 h3 dX3_pilgrimAt_36 ?_
        refine go_nmR (fun e4 => ?_)
        refine go_goto (tgt := 41) dX3_pilgrimAt_37 (by decide) ?_
        exact go_aret rfl dX3_pilgrimAt_41
def f_X3_hasBoth (a0 : Nat) (a1 : Int32) (a2 : Int32) (u : Uw) : Option (Bool × Uw) :=
  if a1 = a2 then
  (some (false, u))
  else
  (ck (kT a0 == 3) <|
  bd (f_X3_calendarAt a0 a1 u) fun r2 u3 =>
  ro r2
  (some (false, u3))
  (fun e4 =>
  bd (f_X3_calendarAt a0 a2 u3) fun r5 u6 =>
  ro r5
  (some (false, u6))
  (fun e7 =>
  some (true, u6))))
set_option maxHeartbeats 4000000 in
set_option maxRecDepth 100000 in
theorem g_X3_hasBoth (a0 : Nat) (a1 : Int32) (a2 : Int32) (u : Uw) : ∀ l, Con l yX3_hasBoth mi_X3_hasBoth ivZ (fun ad => [.ref (ad a0), .int a1, .int a2]) u (f_X3_hasBoth a0 a1 a2 u) := by
  refine con_of (by decide) rfl (fun _ => Nat.le_of_ble_eq_true rfl) (fun X ad => ?_)
  show Go X ad mi_X3_hasBoth ivZ 0 [(0, .ref (ad a0)), (1, .int a1), (2, .int a2)] [] u (f_X3_hasBoth a0 a1 a2 u)
  unfold f_X3_hasBoth
  refine go_iload_n 1 rfl dX3_hasBoth_0 rfl ?_
  refine go_iload_n 2 rfl dX3_hasBoth_1 rfl ?_
  refine go_icmp_eq (tgt := 25) dX3_hasBoth_2 (by decide) ?_ ?_
  · refine go_iconst (v := (0 : Int32)) dX3_hasBoth_25 (by decide) ?_
    exact go_zret (b := false) rfl dX3_hasBoth_26
  · refine go_aload_n 0 rfl dX3_hasBoth_5 rfl ?_
    refine go_iload_n 1 rfl dX3_hasBoth_6 rfl ?_
    refine go_ck (fun h1 => ?_)
    refine go_callVR (As := fun ad => [.int a1]) (g_X3_calendarAt a0 a1 u) mv_X3_calendarAt clX3 h1 gw48 rfl ⟨Nat.le_of_ble_eq_true rfl, Nat.le_of_ble_eq_true rfl⟩ rfl (Nat.le_of_ble_eq_true rfl) dX3_hasBoth_7 (fun r2 u3 => ?_)
    refine go_ro ?_ (fun e4 => ?_)
    · refine go_ifnullN (tgt := 25) dX3_hasBoth_10 (by decide) ?_
      refine go_iconst (v := (0 : Int32)) dX3_hasBoth_25 (by decide) ?_
      exact go_zret (b := false) rfl dX3_hasBoth_26
    · refine go_ifnull dX3_hasBoth_10 ?_
      refine go_aload_n 0 rfl dX3_hasBoth_13 rfl ?_
      refine go_iload_n 2 rfl dX3_hasBoth_14 rfl ?_
      refine go_callVR (As := fun ad => [.int a2]) (g_X3_calendarAt a0 a2 u3) mv_X3_calendarAt clX3 h1 gw48 rfl ⟨Nat.le_of_ble_eq_true rfl, Nat.le_of_ble_eq_true rfl⟩ rfl (Nat.le_of_ble_eq_true rfl) dX3_hasBoth_15 (fun r5 u6 => ?_)
      refine go_ro ?_ (fun e7 => ?_)
      · refine go_ifnullN (tgt := 25) dX3_hasBoth_18 (by decide) ?_
        refine go_iconst (v := (0 : Int32)) dX3_hasBoth_25 (by decide) ?_
        exact go_zret (b := false) rfl dX3_hasBoth_26
      · refine go_ifnull dX3_hasBoth_18 ?_
        refine go_iconst (v := (1 : Int32)) dX3_hasBoth_21 (by decide) ?_
        refine go_goto (tgt := 26) dX3_hasBoth_22 (by decide) ?_
        exact go_zret (b := true) rfl dX3_hasBoth_26
def f_X3_canTrust (a0 : Nat) (a1 : Int32) (u : Uw) : Option (Bool × Uw) :=
  if a1 = (-1 : Int32) then
  (some (true, u))
  else
  (ck (kT a0 == 3) <|
  bd (f_X3_calendarAt a0 a1 u) fun r2 u3 =>
  ro r2
  (some (false, u3))
  (fun e4 =>
  some (true, u3)))
set_option maxHeartbeats 4000000 in
set_option maxRecDepth 100000 in
theorem g_X3_canTrust (a0 : Nat) (a1 : Int32) (u : Uw) : ∀ l, Con l yX3_canTrust mi_X3_canTrust ivZ (fun ad => [.ref (ad a0), .int a1]) u (f_X3_canTrust a0 a1 u) := by
  refine con_of (by decide) rfl (fun _ => Nat.le_of_ble_eq_true rfl) (fun X ad => ?_)
  show Go X ad mi_X3_canTrust ivZ 0 [(0, .ref (ad a0)), (1, .int a1)] [] u (f_X3_canTrust a0 a1 u)
  unfold f_X3_canTrust
  refine go_iload_n 1 rfl dX3_canTrust_0 rfl ?_
  refine go_iconst (v := (-1 : Int32)) dX3_canTrust_1 (by decide) ?_
  refine go_icmp_eq (tgt := 13) dX3_canTrust_2 (by decide) ?_ ?_
  · refine go_iconst (v := (1 : Int32)) dX3_canTrust_13 (by decide) ?_
    refine go_goto (tgt := 18) dX3_canTrust_14 (by decide) ?_
    exact go_zret (b := true) rfl dX3_canTrust_18
  · refine go_aload_n 0 rfl dX3_canTrust_5 rfl ?_
    refine go_iload_n 1 rfl dX3_canTrust_6 rfl ?_
    refine go_ck (fun h1 => ?_)
    refine go_callVR (As := fun ad => [.int a1]) (g_X3_calendarAt a0 a1 u) mv_X3_calendarAt clX3 h1 gw48 rfl ⟨Nat.le_of_ble_eq_true rfl, Nat.le_of_ble_eq_true rfl⟩ rfl (Nat.le_of_ble_eq_true rfl) dX3_canTrust_7 (fun r2 u3 => ?_)
    refine go_ro ?_ (fun e4 => ?_)
    · refine go_ifnullN (tgt := 17) dX3_canTrust_10 (by decide) ?_
      refine go_iconst (v := (0 : Int32)) dX3_canTrust_17 (by decide) ?_
      exact go_zret (b := false) rfl dX3_canTrust_18
    · refine go_ifnull dX3_canTrust_10 ?_
      refine go_iconst (v := (1 : Int32)) dX3_canTrust_13 (by decide) ?_
      refine go_goto (tgt := 18) dX3_canTrust_14 (by decide) ?_
      exact go_zret (b := true) rfl dX3_canTrust_18
def f_X3_addCalendar (a0 : Nat) (a1 : Int32) (u : Uw) : Option (Unit × Uw) :=
  ck (kT a0 == 3) <|
  ck (kT (a0 + 1) == 13) <|
  if (6 : Int32) ≤ (u.1 (kR a0) (kO a0 + 0)) then
  (some ((), u))
  else
  (ck (inb (u.1 (kR a0) (kO a0 + 0)) 6) <|
  nm ((a0 + 1) + 2 + (u.1 (kR a0) (kO a0 + 0)).toNatClampNeg) fun e4 =>
  ck (kT e4 == 0) <|
  bd (f_X0_startAs e4 a1 u) fun r6 u7 =>
  nm (w1 u7 (kR a0) (kO a0 + 0) ((u7.1 (kR a0) (kO a0 + 0)) + (1 : Int32))) fun u8 =>
  some ((), u8))
set_option maxHeartbeats 4000000 in
set_option maxRecDepth 100000 in
theorem g_X3_addCalendar (a0 : Nat) (a1 : Int32) (u : Uw) : ∀ l, Con l yX3_addCalendar mi_X3_addCalendar ivV (fun ad => [.ref (ad a0), .int a1]) u (f_X3_addCalendar a0 a1 u) := by
  refine con_of (by decide) rfl (fun _ => Nat.le_of_ble_eq_true rfl) (fun X ad => ?_)
  show Go X ad mi_X3_addCalendar ivV 0 [(0, .ref (ad a0)), (1, .int a1)] [] u (f_X3_addCalendar a0 a1 u)
  unfold f_X3_addCalendar
  refine go_aload_n 0 rfl dX3_addCalendar_0 rfl ?_
  refine go_ck (fun h1 => ?_)
  refine go_getI clX3 h1 5 (Nat.le_of_ble_eq_true rfl) (c := 0) (fun _ => rfl) gw42 dX3_addCalendar_1 ?_
  refine go_aload_n 0 rfl dX3_addCalendar_4 rfl ?_
  refine go_getR clX3 h1 7 (Nat.le_of_ble_eq_true rfl) (f := (a0 + 1)) (fun _ => rfl) gw44 dX3_addCalendar_5 ?_
  refine go_ck (fun h2 => ?_)
  refine go_alen13 h2 dX3_addCalendar_8 ?_
  refine go_icmp_ge (tgt := 35) dX3_addCalendar_9 (by decide) ?_ ?_
  · exact go_vret rfl dX3_addCalendar_35
  · refine go_aload_n 0 rfl dX3_addCalendar_12 rfl ?_
    refine go_getR clX3 h1 7 (Nat.le_of_ble_eq_true rfl) (f := (a0 + 1)) (fun _ => rfl) gw44 dX3_addCalendar_13 ?_
    refine go_aload_n 0 rfl dX3_addCalendar_16 rfl ?_
    refine go_getI clX3 h1 5 (Nat.le_of_ble_eq_true rfl) (c := 0) (fun _ => rfl) gw42 dX3_addCalendar_17 ?_
    refine go_ck (fun h3 => ?_)
    refine go_aald13 h2 h3 dX3_addCalendar_20 ?_
    refine go_nmR (fun e4 => ?_)
    refine go_iload_n 1 rfl dX3_addCalendar_21 rfl ?_
    refine go_ck (fun h5 => ?_)
    refine go_callVV (As := fun ad => [.int a1]) (g_X0_startAs e4 a1 u) mv_X0_startAs clX0 h5 gw49 rfl ⟨Nat.le_of_ble_eq_true rfl, Nat.le_of_ble_eq_true rfl⟩ rfl (Nat.le_of_ble_eq_true rfl) dX3_addCalendar_22 (fun r6 u7 => ?_)
    refine go_aload_n 0 rfl dX3_addCalendar_25 rfl ?_
    refine go_dup dX3_addCalendar_26 rfl ?_
    refine go_getI clX3 h1 5 (Nat.le_of_ble_eq_true rfl) (c := 0) (fun _ => rfl) gw42 dX3_addCalendar_27 ?_
    refine go_iconst (v := (1 : Int32)) dX3_addCalendar_30 (by decide) ?_
    refine go_iadd dX3_addCalendar_31 ?_
    refine go_putI clX3 h1 5 (Nat.le_of_ble_eq_true rfl) (c := 0) (fun _ => rfl) (by decide) (fty := .int) (tyX3_ok 5 (Nat.le_of_ble_eq_true rfl)) rfl rfl rfl (fun _ => Nat.le_of_ble_eq_true rfl) gw42 dX3_addCalendar_32 ?_
    refine go_nmU (fun u8 => ?_)
    exact go_vret rfl dX3_addCalendar_35
def f_X3_addPilgrim (a0 : Nat) (a1 : Int32) (a2 : Int32) (u : Uw) : Option (Unit × Uw) :=
  ck (kT a0 == 3) <|
  ck (kT (a0 + 2) == 14) <|
  if (8 : Int32) ≤ (u.1 (kR a0) (kO a0 + 1)) then
  (some ((), u))
  else
  (ck (inb (u.1 (kR a0) (kO a0 + 1)) 8) <|
  nm ((a0 + 2) + 13 + (u.1 (kR a0) (kO a0 + 1)).toNatClampNeg) fun e4 =>
  ck (kT e4 == 1) <|
  bd (f_X1_startWith e4 a1 a2 u) fun r6 u7 =>
  nm (w1 u7 (kR a0) (kO a0 + 1) ((u7.1 (kR a0) (kO a0 + 1)) + (1 : Int32))) fun u8 =>
  some ((), u8))
set_option maxHeartbeats 4000000 in
set_option maxRecDepth 100000 in
theorem g_X3_addPilgrim (a0 : Nat) (a1 : Int32) (a2 : Int32) (u : Uw) : ∀ l, Con l yX3_addPilgrim mi_X3_addPilgrim ivV (fun ad => [.ref (ad a0), .int a1, .int a2]) u (f_X3_addPilgrim a0 a1 a2 u) := by
  refine con_of (by decide) rfl (fun _ => Nat.le_of_ble_eq_true rfl) (fun X ad => ?_)
  show Go X ad mi_X3_addPilgrim ivV 0 [(0, .ref (ad a0)), (1, .int a1), (2, .int a2)] [] u (f_X3_addPilgrim a0 a1 a2 u)
  unfold f_X3_addPilgrim
  refine go_aload_n 0 rfl dX3_addPilgrim_0 rfl ?_
  refine go_ck (fun h1 => ?_)
  refine go_getI clX3 h1 6 (Nat.le_of_ble_eq_true rfl) (c := 1) (fun _ => rfl) gw43 dX3_addPilgrim_1 ?_
  refine go_aload_n 0 rfl dX3_addPilgrim_4 rfl ?_
  refine go_getR clX3 h1 8 (Nat.le_of_ble_eq_true rfl) (f := (a0 + 2)) (fun _ => rfl) gw45 dX3_addPilgrim_5 ?_
  refine go_ck (fun h2 => ?_)
  refine go_alen14 h2 dX3_addPilgrim_8 ?_
  refine go_icmp_ge (tgt := 36) dX3_addPilgrim_9 (by decide) ?_ ?_
  · exact go_vret rfl dX3_addPilgrim_36
  · refine go_aload_n 0 rfl dX3_addPilgrim_12 rfl ?_
    refine go_getR clX3 h1 8 (Nat.le_of_ble_eq_true rfl) (f := (a0 + 2)) (fun _ => rfl) gw45 dX3_addPilgrim_13 ?_
    refine go_aload_n 0 rfl dX3_addPilgrim_16 rfl ?_
    refine go_getI clX3 h1 6 (Nat.le_of_ble_eq_true rfl) (c := 1) (fun _ => rfl) gw43 dX3_addPilgrim_17 ?_
    refine go_ck (fun h3 => ?_)
    refine go_aald14 h2 h3 dX3_addPilgrim_20 ?_
    refine go_nmR (fun e4 => ?_)
    refine go_iload_n 1 rfl dX3_addPilgrim_21 rfl ?_
    refine go_iload_n 2 rfl dX3_addPilgrim_22 rfl ?_
    refine go_ck (fun h5 => ?_)
    refine go_callVV (As := fun ad => [.int a1, .int a2]) (g_X1_startWith e4 a1 a2 u) mv_X1_startWith clX1 h5 gw50 rfl ⟨Nat.le_of_ble_eq_true rfl, Nat.le_of_ble_eq_true rfl⟩ rfl (Nat.le_of_ble_eq_true rfl) dX3_addPilgrim_23 (fun r6 u7 => ?_)
    refine go_aload_n 0 rfl dX3_addPilgrim_26 rfl ?_
    refine go_dup dX3_addPilgrim_27 rfl ?_
    refine go_getI clX3 h1 6 (Nat.le_of_ble_eq_true rfl) (c := 1) (fun _ => rfl) gw43 dX3_addPilgrim_28 ?_
    refine go_iconst (v := (1 : Int32)) dX3_addPilgrim_31 (by decide) ?_
    refine go_iadd dX3_addPilgrim_32 ?_
    refine go_putI clX3 h1 6 (Nat.le_of_ble_eq_true rfl) (c := 1) (fun _ => rfl) (by decide) (fty := .int) (tyX3_ok 6 (Nat.le_of_ble_eq_true rfl)) rfl rfl rfl (fun _ => Nat.le_of_ble_eq_true rfl) gw43 dX3_addPilgrim_33 ?_
    refine go_nmU (fun u8 => ?_)
    exact go_vret rfl dX3_addPilgrim_36
def f_X3_isHolyBy (a0 : Nat) (a1 : Int32) (a2 : Int32) (u : Uw) : Option (Bool × Uw) :=
  ck (kT a0 == 3) <|
  bd (f_X3_calendarAt a0 a1 u) fun r2 u3 =>
  ro r2
  (some (false, u3))
  (fun e4 =>
  ck (kT e4 == 0) <|
  bd (f_X0_isHoly e4 a2 u3) fun r6 u7 =>
  if r6 = true then
  (some (true, u7))
  else
  (some (false, u7)))
set_option maxHeartbeats 4000000 in
set_option maxRecDepth 100000 in
theorem g_X3_isHolyBy (a0 : Nat) (a1 : Int32) (a2 : Int32) (u : Uw) : ∀ l, Con l yX3_isHolyBy mi_X3_isHolyBy ivZ (fun ad => [.ref (ad a0), .int a1, .int a2]) u (f_X3_isHolyBy a0 a1 a2 u) := by
  refine con_of (by decide) rfl (fun _ => Nat.le_of_ble_eq_true rfl) (fun X ad => ?_)
  show Go X ad mi_X3_isHolyBy ivZ 0 [(0, .ref (ad a0)), (1, .int a1), (2, .int a2)] [] u (f_X3_isHolyBy a0 a1 a2 u)
  unfold f_X3_isHolyBy
  refine go_aload_n 0 rfl dX3_isHolyBy_0 rfl ?_
  refine go_iload_n 1 rfl dX3_isHolyBy_1 rfl ?_
  refine go_ck (fun h1 => ?_)
  refine go_callVR (As := fun ad => [.int a1]) (g_X3_calendarAt a0 a1 u) mv_X3_calendarAt clX3 h1 gw48 rfl ⟨Nat.le_of_ble_eq_true rfl, Nat.le_of_ble_eq_true rfl⟩ rfl (Nat.le_of_ble_eq_true rfl) dX3_isHolyBy_2 (fun r2 u3 => ?_)
  refine go_ro ?_ (fun e4 => ?_)
  · refine go_astore_nN (lv' := [(3, .null), (0, .ref (ad a0)), (1, .int a1), (2, .int a2)]) dX3_isHolyBy_5 rfl (Nat.le_of_ble_eq_true rfl) rfl ?_
    refine go_aload_nN 0 rfl dX3_isHolyBy_6 rfl ?_
    refine go_ifnullN (tgt := 22) dX3_isHolyBy_7 (by decide) ?_
    refine go_iconst (v := (0 : Int32)) dX3_isHolyBy_22 (by decide) ?_
    exact go_zret (b := false) rfl dX3_isHolyBy_23
  · refine go_astore_n (lv' := [(3, .ref (ad e4)), (0, .ref (ad a0)), (1, .int a1), (2, .int a2)]) dX3_isHolyBy_5 rfl (Nat.le_of_ble_eq_true rfl) rfl ?_
    refine go_aload_n 0 rfl dX3_isHolyBy_6 rfl ?_
    refine go_ifnull dX3_isHolyBy_7 ?_
    refine go_aload_n 0 rfl dX3_isHolyBy_10 rfl ?_
    refine go_iload_n 3 rfl dX3_isHolyBy_11 rfl ?_
    refine go_ck (fun h5 => ?_)
    refine go_callVZ (As := fun ad => [.int a2]) (g_X0_isHoly e4 a2 u3) mv_X0_isHoly clX0 h5 gw51 rfl ⟨Nat.le_of_ble_eq_true rfl, Nat.le_of_ble_eq_true rfl⟩ rfl (Nat.le_of_ble_eq_true rfl) dX3_isHolyBy_12 (fun r6 u7 => ?_)
    refine go_ifz_eq (tgt := 22) dX3_isHolyBy_15 (by decide) ?_ ?_
    · refine go_iconst (v := (0 : Int32)) dX3_isHolyBy_22 (by decide) ?_
      exact go_zret (b := false) rfl dX3_isHolyBy_23
    · refine go_iconst (v := (1 : Int32)) dX3_isHolyBy_18 (by decide) ?_
      refine go_goto (tgt := 23) dX3_isHolyBy_19 (by decide) ?_
      exact go_zret (b := true) rfl dX3_isHolyBy_23
def b_X3_holySet_4 (ih4 : Nat × Int32 × Int32 × Int32 × Uw → Option (Int32 × Uw)) (s : Nat × Int32 × Int32 × Int32 × Uw) : Option (Int32 × Uw) :=
  ck (kT s.1 == 3) <|
  if (s.2.2.2.2.1 (kR s.1) (kO s.1 + 0)) ≤ s.2.2.2.1 then
  (some (s.2.2.1, s.2.2.2.2))
  else
  (ck (kT (s.1 + 1) == 13) <|
  if (6 : Int32) ≤ s.2.2.2.1 then
  (some (s.2.2.1, s.2.2.2.2))
  else
  (ck (inb s.2.2.2.1 6) <|
  nm ((s.1 + 1) + 2 + s.2.2.2.1.toNatClampNeg) fun e4 =>
  ck (kT e4 == 0) <|
  bd (f_X0_isHoly e4 s.2.1 s.2.2.2.2) fun r6 u7 =>
  if r6 = true then
  (nm (s.2.2.1 ||| ((1 : Int32) <<< (s.2.2.2.1 &&& 31))) fun x8 =>
  ih4 (s.1, s.2.1, x8, (s.2.2.2.1 + (1 : Int32)), u7))
  else
  (ih4 (s.1, s.2.1, s.2.2.1, (s.2.2.2.1 + (1 : Int32)), u7))))
def f_X3_holySet (a0 : Nat) (a1 : Int32) (u : Uw) : Option (Int32 × Uw) :=
  lp b_X3_holySet_4 2100 (a0, a1, (0 : Int32), (0 : Int32), u)
set_option maxHeartbeats 4000000 in
set_option maxRecDepth 100000 in
theorem gl_X3_holySet_4 (X : Cx) (ad : Nat → Nat) : ∀ (n : Nat) (s : Nat × Int32 × Int32 × Int32 × Uw), Go X ad mi_X3_holySet ivI 4 [(0, .ref (ad s.1)), (1, .int s.2.1), (2, .int s.2.2.1), (3, .int s.2.2.2.1)] [] s.2.2.2.2 (lp b_X3_holySet_4 n s) := by
  refine go_lp (G := fun (s : Nat × Int32 × Int32 × Int32 × Uw) o => Go X ad mi_X3_holySet ivI 4 [(0, .ref (ad s.1)), (1, .int s.2.1), (2, .int s.2.2.1), (3, .int s.2.2.2.1)] [] s.2.2.2.2 o) (fun _ => go_none) (fun ih4 hih4 s => ?_)
  show Go X ad mi_X3_holySet ivI 4 [(0, .ref (ad s.1)), (1, .int s.2.1), (2, .int s.2.2.1), (3, .int s.2.2.2.1)] [] s.2.2.2.2 (b_X3_holySet_4 ih4 s)
  unfold b_X3_holySet_4
  refine go_iload_n 3 rfl dX3_holySet_4 rfl ?_
  refine go_aload_n 0 rfl dX3_holySet_5 rfl ?_
  refine go_ck (fun h1 => ?_)
  refine go_getI clX3 h1 5 (Nat.le_of_ble_eq_true rfl) (c := 0) (fun _ => rfl) gw42 dX3_holySet_6 ?_
  refine go_icmp_ge (tgt := 46) dX3_holySet_9 (by decide) ?_ ?_
  · refine go_iload_n 2 rfl dX3_holySet_46 rfl ?_
    exact go_iret rfl dX3_holySet_47
  · refine go_iload_n 3 rfl dX3_holySet_12 rfl ?_
    refine go_aload_n 0 rfl dX3_holySet_13 rfl ?_
    refine go_getR clX3 h1 7 (Nat.le_of_ble_eq_true rfl) (f := (s.1 + 1)) (fun _ => rfl) gw44 dX3_holySet_14 ?_
    refine go_ck (fun h2 => ?_)
    refine go_alen13 h2 dX3_holySet_17 ?_
    refine go_icmp_ge (tgt := 46) dX3_holySet_18 (by decide) ?_ ?_
    · refine go_iload_n 2 rfl dX3_holySet_46 rfl ?_
      exact go_iret rfl dX3_holySet_47
    · refine go_aload_n 0 rfl dX3_holySet_21 rfl ?_
      refine go_getR clX3 h1 7 (Nat.le_of_ble_eq_true rfl) (f := (s.1 + 1)) (fun _ => rfl) gw44 dX3_holySet_22 ?_
      refine go_iload_n 3 rfl dX3_holySet_25 rfl ?_
      refine go_ck (fun h3 => ?_)
      refine go_aald13 h2 h3 dX3_holySet_26 ?_
      refine go_nmR (fun e4 => ?_)
      refine go_iload_n 1 rfl dX3_holySet_27 rfl ?_
      refine go_ck (fun h5 => ?_)
      refine go_callVZ (As := fun ad => [.int s.2.1]) (g_X0_isHoly e4 s.2.1 s.2.2.2.2) mv_X0_isHoly clX0 h5 gw51 rfl ⟨Nat.le_of_ble_eq_true rfl, Nat.le_of_ble_eq_true rfl⟩ rfl (Nat.le_of_ble_eq_true rfl) dX3_holySet_28 (fun r6 u7 => ?_)
      refine go_ifz_eq (tgt := 40) dX3_holySet_31 (by decide) ?_ ?_
      · refine go_iinc (v := (s.2.2.2.1 + (1 : Int32))) (lv' := [(3, .int (s.2.2.2.1 + (1 : Int32))), (0, .ref (ad s.1)), (1, .int s.2.1), (2, .int s.2.2.1)]) 3 rfl dX3_holySet_40 rfl (Nat.le_of_ble_eq_true rfl) rfl ?_
        refine go_goto (tgt := 4) dX3_holySet_43 (by decide) ?_
        exact go_sub [1, 2, 3, 0] rfl (hih4 (s.1, s.2.1, s.2.2.1, (s.2.2.2.1 + (1 : Int32)), u7))
      · refine go_iload_n 2 rfl dX3_holySet_34 rfl ?_
        refine go_iconst (v := (1 : Int32)) dX3_holySet_35 (by decide) ?_
        refine go_iload_n 3 rfl dX3_holySet_36 rfl ?_
        refine go_ishl dX3_holySet_37 ?_
        refine go_ior dX3_holySet_38 ?_
        refine go_nm (fun x8 => ?_)
        refine go_istore_n (lv' := [(2, .int x8), (0, .ref (ad s.1)), (1, .int s.2.1), (3, .int s.2.2.2.1)]) dX3_holySet_39 rfl (Nat.le_of_ble_eq_true rfl) rfl ?_
        refine go_iinc (v := (s.2.2.2.1 + (1 : Int32))) (lv' := [(3, .int (s.2.2.2.1 + (1 : Int32))), (2, .int x8), (0, .ref (ad s.1)), (1, .int s.2.1)]) 3 rfl dX3_holySet_40 rfl (Nat.le_of_ble_eq_true rfl) rfl ?_
        refine go_goto (tgt := 4) dX3_holySet_43 (by decide) ?_
        exact go_sub [2, 3, 1, 0] rfl (hih4 (s.1, s.2.1, x8, (s.2.2.2.1 + (1 : Int32)), u7))
set_option maxHeartbeats 4000000 in
set_option maxRecDepth 100000 in
theorem g_X3_holySet (a0 : Nat) (a1 : Int32) (u : Uw) : ∀ l, Con l yX3_holySet mi_X3_holySet ivI (fun ad => [.ref (ad a0), .int a1]) u (f_X3_holySet a0 a1 u) := by
  refine con_of (by decide) rfl (fun _ => Nat.le_of_ble_eq_true rfl) (fun X ad => ?_)
  show Go X ad mi_X3_holySet ivI 0 [(0, .ref (ad a0)), (1, .int a1)] [] u (f_X3_holySet a0 a1 u)
  unfold f_X3_holySet
  refine go_iconst (v := (0 : Int32)) dX3_holySet_0 (by decide) ?_
  refine go_istore_n (lv' := [(2, .int (0 : Int32)), (0, .ref (ad a0)), (1, .int a1)]) dX3_holySet_1 rfl (Nat.le_of_ble_eq_true rfl) rfl ?_
  refine go_iconst (v := (0 : Int32)) dX3_holySet_2 (by decide) ?_
  refine go_istore_n (lv' := [(3, .int (0 : Int32)), (2, .int (0 : Int32)), (0, .ref (ad a0)), (1, .int a1)]) dX3_holySet_3 rfl (Nat.le_of_ble_eq_true rfl) rfl ?_
  exact go_sub [2, 3, 1, 0] rfl (gl_X3_holySet_4 X ad  2100 (a0, a1, (0 : Int32), (0 : Int32), u))
def f_X3_takeJug (a0 : Nat) (a1 : Int32) (u : Uw) : Option (Bool × Uw) :=
  if a1 = 0 then
  (if a1 = 0 then
  (ck (kT a0 == 3) <|
  if (u.1 (kR a0) (kO a0 + 6)) ≤ 0 then
  (some (false, u))
  else
  (nm (w1 u (kR a0) (kO a0 + 6) ((u.1 (kR a0) (kO a0 + 6)) - (1 : Int32))) fun u2 =>
  some (true, u2)))
  else
  (some (false, u)))
  else
  (ck (kT a0 == 3) <|
  if (u.1 (kR a0) (kO a0 + 5)) ≤ 0 then
  (if a1 = 0 then
  (if (u.1 (kR a0) (kO a0 + 6)) ≤ 0 then
  (some (false, u))
  else
  (nm (w1 u (kR a0) (kO a0 + 6) ((u.1 (kR a0) (kO a0 + 6)) - (1 : Int32))) fun u4 =>
  some (true, u4)))
  else
  (some (false, u)))
  else
  (nm (w1 u (kR a0) (kO a0 + 5) ((u.1 (kR a0) (kO a0 + 5)) - (1 : Int32))) fun u5 =>
  some (true, u5)))
set_option maxHeartbeats 4000000 in
set_option maxRecDepth 100000 in
theorem g_X3_takeJug (a0 : Nat) (a1 : Int32) (u : Uw) : ∀ l, Con l yX3_takeJug mi_X3_takeJug ivZ (fun ad => [.ref (ad a0), .int a1]) u (f_X3_takeJug a0 a1 u) := by
  refine con_of (by decide) rfl (fun _ => Nat.le_of_ble_eq_true rfl) (fun X ad => ?_)
  show Go X ad mi_X3_takeJug ivZ 0 [(0, .ref (ad a0)), (1, .int a1)] [] u (f_X3_takeJug a0 a1 u)
  unfold f_X3_takeJug
  refine go_iload_n 1 rfl dX3_takeJug_0 rfl ?_
  refine go_if_eq (tgt := 23) dX3_takeJug_1 (by decide) ?_ ?_
  · refine go_iload_n 1 rfl dX3_takeJug_23 rfl ?_
    refine go_if_ne (tgt := 46) dX3_takeJug_24 (by decide) ?_ ?_
    · refine go_iconst (v := (0 : Int32)) dX3_takeJug_46 (by decide) ?_
      exact go_zret (b := false) rfl dX3_takeJug_47
    · refine go_aload_n 0 rfl dX3_takeJug_27 rfl ?_
      refine go_ck (fun h1 => ?_)
      refine go_getI clX3 h1 4 (Nat.le_of_ble_eq_true rfl) (c := 6) (fun _ => rfl) gw41 dX3_takeJug_28 ?_
      refine go_if_le (tgt := 46) dX3_takeJug_31 (by decide) ?_ ?_
      · refine go_iconst (v := (0 : Int32)) dX3_takeJug_46 (by decide) ?_
        exact go_zret (b := false) rfl dX3_takeJug_47
      · refine go_aload_n 0 rfl dX3_takeJug_34 rfl ?_
        refine go_dup dX3_takeJug_35 rfl ?_
        refine go_getI clX3 h1 4 (Nat.le_of_ble_eq_true rfl) (c := 6) (fun _ => rfl) gw41 dX3_takeJug_36 ?_
        refine go_iconst (v := (1 : Int32)) dX3_takeJug_39 (by decide) ?_
        refine go_isub dX3_takeJug_40 ?_
        refine go_putI clX3 h1 4 (Nat.le_of_ble_eq_true rfl) (c := 6) (fun _ => rfl) (by decide) (fty := .int) (tyX3_ok 4 (Nat.le_of_ble_eq_true rfl)) rfl rfl rfl (fun _ => Nat.le_of_ble_eq_true rfl) gw41 dX3_takeJug_41 ?_
        refine go_nmU (fun u2 => ?_)
        refine go_iconst (v := (1 : Int32)) dX3_takeJug_44 (by decide) ?_
        exact go_zret (b := true) rfl dX3_takeJug_45
  · refine go_aload_n 0 rfl dX3_takeJug_4 rfl ?_
    refine go_ck (fun h3 => ?_)
    refine go_getI clX3 h3 3 (Nat.le_of_ble_eq_true rfl) (c := 5) (fun _ => rfl) gw40 dX3_takeJug_5 ?_
    refine go_if_le (tgt := 23) dX3_takeJug_8 (by decide) ?_ ?_
    · refine go_iload_n 1 rfl dX3_takeJug_23 rfl ?_
      refine go_if_ne (tgt := 46) dX3_takeJug_24 (by decide) ?_ ?_
      · refine go_iconst (v := (0 : Int32)) dX3_takeJug_46 (by decide) ?_
        exact go_zret (b := false) rfl dX3_takeJug_47
      · refine go_aload_n 0 rfl dX3_takeJug_27 rfl ?_
        refine go_getI clX3 h3 4 (Nat.le_of_ble_eq_true rfl) (c := 6) (fun _ => rfl) gw41 dX3_takeJug_28 ?_
        refine go_if_le (tgt := 46) dX3_takeJug_31 (by decide) ?_ ?_
        · refine go_iconst (v := (0 : Int32)) dX3_takeJug_46 (by decide) ?_
          exact go_zret (b := false) rfl dX3_takeJug_47
        · refine go_aload_n 0 rfl dX3_takeJug_34 rfl ?_
          refine go_dup dX3_takeJug_35 rfl ?_
          refine go_getI clX3 h3 4 (Nat.le_of_ble_eq_true rfl) (c := 6) (fun _ => rfl) gw41 dX3_takeJug_36 ?_
          refine go_iconst (v := (1 : Int32)) dX3_takeJug_39 (by decide) ?_
          refine go_isub dX3_takeJug_40 ?_
          refine go_putI clX3 h3 4 (Nat.le_of_ble_eq_true rfl) (c := 6) (fun _ => rfl) (by decide) (fty := .int) (tyX3_ok 4 (Nat.le_of_ble_eq_true rfl)) rfl rfl rfl (fun _ => Nat.le_of_ble_eq_true rfl) gw41 dX3_takeJug_41 ?_
          refine go_nmU (fun u4 => ?_)
          refine go_iconst (v := (1 : Int32)) dX3_takeJug_44 (by decide) ?_
          exact go_zret (b := true) rfl dX3_takeJug_45
    · refine go_aload_n 0 rfl dX3_takeJug_11 rfl ?_
      refine go_dup dX3_takeJug_12 rfl ?_
      refine go_getI clX3 h3 3 (Nat.le_of_ble_eq_true rfl) (c := 5) (fun _ => rfl) gw40 dX3_takeJug_13 ?_
      refine go_iconst (v := (1 : Int32)) dX3_takeJug_16 (by decide) ?_
      refine go_isub dX3_takeJug_17 ?_
      refine go_putI clX3 h3 3 (Nat.le_of_ble_eq_true rfl) (c := 5) (fun _ => rfl) (by decide) (fty := .int) (tyX3_ok 3 (Nat.le_of_ble_eq_true rfl)) rfl rfl rfl (fun _ => Nat.le_of_ble_eq_true rfl) gw40 dX3_takeJug_18 ?_
      refine go_nmU (fun u5 => ?_)
      refine go_iconst (v := (1 : Int32)) dX3_takeJug_21 (by decide) ?_
      exact go_zret (b := true) rfl dX3_takeJug_22
def f_X3_drawJug (a0 : Nat) (a1 : Int32) (u : Uw) : Option (Unit × Uw) :=
  if a1 = 0 then
  (ck (kT a0 == 3) <|
  nm (w1 u (kR a0) (kO a0 + 6) (mnI (99 : Int32) ((u.1 (kR a0) (kO a0 + 6)) + (1 : Int32)))) fun u2 =>
  some ((), u2))
  else
  (ck (kT a0 == 3) <|
  nm (w1 u (kR a0) (kO a0 + 5) (mnI (99 : Int32) ((u.1 (kR a0) (kO a0 + 5)) + (1 : Int32)))) fun u4 =>
  some ((), u4))
set_option maxHeartbeats 4000000 in
set_option maxRecDepth 100000 in
theorem g_X3_drawJug (a0 : Nat) (a1 : Int32) (u : Uw) : ∀ l, Con l yX3_drawJug mi_X3_drawJug ivV (fun ad => [.ref (ad a0), .int a1]) u (f_X3_drawJug a0 a1 u) := by
  refine con_of (by decide) rfl (fun _ => Nat.le_of_ble_eq_true rfl) (fun X ad => ?_)
  show Go X ad mi_X3_drawJug ivV 0 [(0, .ref (ad a0)), (1, .int a1)] [] u (f_X3_drawJug a0 a1 u)
  unfold f_X3_drawJug
  refine go_iload_n 1 rfl dX3_drawJug_0 rfl ?_
  refine go_if_eq (tgt := 22) dX3_drawJug_1 (by decide) ?_ ?_
  · refine go_aload_n 0 rfl dX3_drawJug_22 rfl ?_
    refine go_bipush (v := (99 : Int32)) dX3_drawJug_23 (by decide) ?_
    refine go_aload_n 0 rfl dX3_drawJug_25 rfl ?_
    refine go_ck (fun h1 => ?_)
    refine go_getI clX3 h1 4 (Nat.le_of_ble_eq_true rfl) (c := 6) (fun _ => rfl) gw41 dX3_drawJug_26 ?_
    refine go_iconst (v := (1 : Int32)) dX3_drawJug_29 (by decide) ?_
    refine go_iadd dX3_drawJug_30 ?_
    refine go_min gw52 gw21 gw22 gw23 (Nat.le_of_ble_eq_true rfl) (Nat.le_of_ble_eq_true rfl) dX3_drawJug_31 ?_
    refine go_putI clX3 h1 4 (Nat.le_of_ble_eq_true rfl) (c := 6) (fun _ => rfl) (by decide) (fty := .int) (tyX3_ok 4 (Nat.le_of_ble_eq_true rfl)) rfl rfl rfl (fun _ => Nat.le_of_ble_eq_true rfl) gw41 dX3_drawJug_34 ?_
    refine go_nmU (fun u2 => ?_)
    exact go_vret rfl dX3_drawJug_37
  · refine go_aload_n 0 rfl dX3_drawJug_4 rfl ?_
    refine go_bipush (v := (99 : Int32)) dX3_drawJug_5 (by decide) ?_
    refine go_aload_n 0 rfl dX3_drawJug_7 rfl ?_
    refine go_ck (fun h3 => ?_)
    refine go_getI clX3 h3 3 (Nat.le_of_ble_eq_true rfl) (c := 5) (fun _ => rfl) gw40 dX3_drawJug_8 ?_
    refine go_iconst (v := (1 : Int32)) dX3_drawJug_11 (by decide) ?_
    refine go_iadd dX3_drawJug_12 ?_
    refine go_min gw52 gw21 gw22 gw23 (Nat.le_of_ble_eq_true rfl) (Nat.le_of_ble_eq_true rfl) dX3_drawJug_13 ?_
    refine go_putI clX3 h3 3 (Nat.le_of_ble_eq_true rfl) (c := 5) (fun _ => rfl) (by decide) (fty := .int) (tyX3_ok 3 (Nat.le_of_ble_eq_true rfl)) rfl rfl rfl (fun _ => Nat.le_of_ble_eq_true rfl) gw40 dX3_drawJug_16 ?_
    refine go_nmU (fun u4 => ?_)
    refine go_goto (tgt := 37) dX3_drawJug_19 (by decide) ?_
    exact go_vret rfl dX3_drawJug_37
def b_X3_passDay_11 (ih11 : Nat × Int32 × Int32 × Uw → Option (Unit × Uw)) (s : Nat × Int32 × Int32 × Uw) : Option (Unit × Uw) :=
  ck (kT s.1 == 3) <|
  if (s.2.2.2.1 (kR s.1) (kO s.1 + 1)) ≤ s.2.2.1 then
  (if ((s.2.2.2.1 (kR s.1) (kO s.1 + 2)) - (s.2.2.2.1 (kR s.1) (kO s.1 + 2)) / (7 : Int32) * (7 : Int32)) = (2 : Int32) then
  (bd (f_X5_isIn s.2.1 (s.2.2.2.1 (kR s.1) (kO s.1 + 4)) s.2.2.2) fun r6 u7 =>
  bd (f_X3_drawJug s.1 (bI r6) u7) fun r8 u9 =>
  nm (w1 u9 (kR s.1) (kO s.1 + 2) ((u9.1 (kR s.1) (kO s.1 + 2)) + (1 : Int32))) fun u10 =>
  some ((), u10))
  else
  (nm (w1 s.2.2.2 (kR s.1) (kO s.1 + 2) ((s.2.2.2.1 (kR s.1) (kO s.1 + 2)) + (1 : Int32))) fun u5 =>
  some ((), u5)))
  else
  (ck (kT (s.1 + 2) == 14) <|
  if (8 : Int32) ≤ s.2.2.1 then
  (if ((s.2.2.2.1 (kR s.1) (kO s.1 + 2)) - (s.2.2.2.1 (kR s.1) (kO s.1 + 2)) / (7 : Int32) * (7 : Int32)) = (2 : Int32) then
  (bd (f_X5_isIn s.2.1 (s.2.2.2.1 (kR s.1) (kO s.1 + 4)) s.2.2.2) fun r13 u14 =>
  bd (f_X3_drawJug s.1 (bI r13) u14) fun r15 u16 =>
  nm (w1 u16 (kR s.1) (kO s.1 + 2) ((u16.1 (kR s.1) (kO s.1 + 2)) + (1 : Int32))) fun u17 =>
  some ((), u17))
  else
  (nm (w1 s.2.2.2 (kR s.1) (kO s.1 + 2) ((s.2.2.2.1 (kR s.1) (kO s.1 + 2)) + (1 : Int32))) fun u12 =>
  some ((), u12)))
  else
  (ck (inb s.2.2.1 8) <|
  nm ((s.1 + 2) + 13 + s.2.2.1.toNatClampNeg) fun e19 =>
  ck (kT e19 == 1) <|
  bd (f_X1_passDay e19 s.2.1 (s.2.2.2.1 (kR s.1) (kO s.1 + 4)) (s.2.2.2.1 (kR s.1) (kO s.1 + 3)) s.2.2.2) fun r21 u22 =>
  ih11 (s.1, s.2.1, (s.2.2.1 + (1 : Int32)), u22)))
def f_X3_passDay (a0 : Nat) (u : Uw) : Option (Unit × Uw) :=
  ck (kT a0 == 3) <|
  bd (f_X3_holySet a0 (u.1 (kR a0) (kO a0 + 2)) u) fun r2 u3 =>
  lp b_X3_passDay_11 2100 (a0, r2, (0 : Int32), u3)
set_option maxHeartbeats 4000000 in
set_option maxRecDepth 100000 in
theorem gl_X3_passDay_11 (X : Cx) (ad : Nat → Nat) : ∀ (n : Nat) (s : Nat × Int32 × Int32 × Uw), Go X ad mi_X3_passDay ivV 11 [(0, .ref (ad s.1)), (1, .int s.2.1), (2, .int s.2.2.1)] [] s.2.2.2 (lp b_X3_passDay_11 n s) := by
  refine go_lp (G := fun (s : Nat × Int32 × Int32 × Uw) o => Go X ad mi_X3_passDay ivV 11 [(0, .ref (ad s.1)), (1, .int s.2.1), (2, .int s.2.2.1)] [] s.2.2.2 o) (fun _ => go_none) (fun ih11 hih11 s => ?_)
  show Go X ad mi_X3_passDay ivV 11 [(0, .ref (ad s.1)), (1, .int s.2.1), (2, .int s.2.2.1)] [] s.2.2.2 (b_X3_passDay_11 ih11 s)
  unfold b_X3_passDay_11
  refine go_iload_n 2 rfl dX3_passDay_11 rfl ?_
  refine go_aload_n 0 rfl dX3_passDay_12 rfl ?_
  refine go_ck (fun h4 => ?_)
  refine go_getI clX3 h4 6 (Nat.le_of_ble_eq_true rfl) (c := 1) (fun _ => rfl) gw43 dX3_passDay_13 ?_
  refine go_icmp_ge (tgt := 52) dX3_passDay_16 (by decide) ?_ ?_
  · refine go_aload_n 0 rfl dX3_passDay_52 rfl ?_
    refine go_getI clX3 h4 0 (Nat.le_of_ble_eq_true rfl) (c := 2) (fun _ => rfl) gw37 dX3_passDay_53 ?_
    refine go_bipush (v := (7 : Int32)) dX3_passDay_56 (by decide) ?_
    refine go_irem (by decide) dX3_passDay_58 ?_
    refine go_iconst (v := (2 : Int32)) dX3_passDay_59 (by decide) ?_
    refine go_icmp_ne (tgt := 75) dX3_passDay_60 (by decide) ?_ ?_
    · refine go_aload_n 0 rfl dX3_passDay_75 rfl ?_
      refine go_dup dX3_passDay_76 rfl ?_
      refine go_getI clX3 h4 0 (Nat.le_of_ble_eq_true rfl) (c := 2) (fun _ => rfl) gw37 dX3_passDay_77 ?_
      refine go_iconst (v := (1 : Int32)) dX3_passDay_80 (by decide) ?_
      refine go_iadd dX3_passDay_81 ?_
      refine go_putI clX3 h4 0 (Nat.le_of_ble_eq_true rfl) (c := 2) (fun _ => rfl) (by decide) (fty := .int) (tyX3_ok 0 (Nat.le_of_ble_eq_true rfl)) rfl rfl rfl (fun _ => Nat.le_of_ble_eq_true rfl) gw37 dX3_passDay_82 ?_
      refine go_nmU (fun u5 => ?_)
      exact go_vret rfl dX3_passDay_85
    · refine go_aload_n 0 rfl dX3_passDay_63 rfl ?_
      refine go_iload_n 1 rfl dX3_passDay_64 rfl ?_
      refine go_aload_n 0 rfl dX3_passDay_65 rfl ?_
      refine go_getI clX3 h4 2 (Nat.le_of_ble_eq_true rfl) (c := 4) (fun _ => rfl) gw39 dX3_passDay_66 ?_
      refine go_callSNZ (As := fun ad => [.int s.2.1, .int (s.2.2.2.1 (kR s.1) (kO s.1 + 4))]) (g_X5_isIn s.2.1 (s.2.2.2.1 (kR s.1) (kO s.1 + 4)) s.2.2.2) mo_X5_isIn gw28 gn54 rfl ⟨Nat.le_of_ble_eq_true rfl, Nat.le_of_ble_eq_true rfl⟩ rfl (Nat.le_of_ble_eq_true rfl) dX3_passDay_69 (fun r6 u7 => ?_)
      refine go_callVV (As := fun ad => [.int (bI r6)]) (g_X3_drawJug s.1 (bI r6) u7) mv_X3_drawJug clX3 h4 gw55 rfl ⟨Nat.le_of_ble_eq_true rfl, Nat.le_of_ble_eq_true rfl⟩ rfl (Nat.le_of_ble_eq_true rfl) dX3_passDay_72 (fun r8 u9 => ?_)
      refine go_aload_n 0 rfl dX3_passDay_75 rfl ?_
      refine go_dup dX3_passDay_76 rfl ?_
      refine go_getI clX3 h4 0 (Nat.le_of_ble_eq_true rfl) (c := 2) (fun _ => rfl) gw37 dX3_passDay_77 ?_
      refine go_iconst (v := (1 : Int32)) dX3_passDay_80 (by decide) ?_
      refine go_iadd dX3_passDay_81 ?_
      refine go_putI clX3 h4 0 (Nat.le_of_ble_eq_true rfl) (c := 2) (fun _ => rfl) (by decide) (fty := .int) (tyX3_ok 0 (Nat.le_of_ble_eq_true rfl)) rfl rfl rfl (fun _ => Nat.le_of_ble_eq_true rfl) gw37 dX3_passDay_82 ?_
      refine go_nmU (fun u10 => ?_)
      exact go_vret rfl dX3_passDay_85
  · refine go_iload_n 2 rfl dX3_passDay_19 rfl ?_
    refine go_aload_n 0 rfl dX3_passDay_20 rfl ?_
    refine go_getR clX3 h4 8 (Nat.le_of_ble_eq_true rfl) (f := (s.1 + 2)) (fun _ => rfl) gw45 dX3_passDay_21 ?_
    refine go_ck (fun h11 => ?_)
    refine go_alen14 h11 dX3_passDay_24 ?_
    refine go_icmp_ge (tgt := 52) dX3_passDay_25 (by decide) ?_ ?_
    · refine go_aload_n 0 rfl dX3_passDay_52 rfl ?_
      refine go_getI clX3 h4 0 (Nat.le_of_ble_eq_true rfl) (c := 2) (fun _ => rfl) gw37 dX3_passDay_53 ?_
      refine go_bipush (v := (7 : Int32)) dX3_passDay_56 (by decide) ?_
      refine go_irem (by decide) dX3_passDay_58 ?_
      refine go_iconst (v := (2 : Int32)) dX3_passDay_59 (by decide) ?_
      refine go_icmp_ne (tgt := 75) dX3_passDay_60 (by decide) ?_ ?_
      · refine go_aload_n 0 rfl dX3_passDay_75 rfl ?_
        refine go_dup dX3_passDay_76 rfl ?_
        refine go_getI clX3 h4 0 (Nat.le_of_ble_eq_true rfl) (c := 2) (fun _ => rfl) gw37 dX3_passDay_77 ?_
        refine go_iconst (v := (1 : Int32)) dX3_passDay_80 (by decide) ?_
        refine go_iadd dX3_passDay_81 ?_
        refine go_putI clX3 h4 0 (Nat.le_of_ble_eq_true rfl) (c := 2) (fun _ => rfl) (by decide) (fty := .int) (tyX3_ok 0 (Nat.le_of_ble_eq_true rfl)) rfl rfl rfl (fun _ => Nat.le_of_ble_eq_true rfl) gw37 dX3_passDay_82 ?_
        refine go_nmU (fun u12 => ?_)
        exact go_vret rfl dX3_passDay_85
      · refine go_aload_n 0 rfl dX3_passDay_63 rfl ?_
        refine go_iload_n 1 rfl dX3_passDay_64 rfl ?_
        refine go_aload_n 0 rfl dX3_passDay_65 rfl ?_
        refine go_getI clX3 h4 2 (Nat.le_of_ble_eq_true rfl) (c := 4) (fun _ => rfl) gw39 dX3_passDay_66 ?_
        refine go_callSNZ (As := fun ad => [.int s.2.1, .int (s.2.2.2.1 (kR s.1) (kO s.1 + 4))]) (g_X5_isIn s.2.1 (s.2.2.2.1 (kR s.1) (kO s.1 + 4)) s.2.2.2) mo_X5_isIn gw28 gn54 rfl ⟨Nat.le_of_ble_eq_true rfl, Nat.le_of_ble_eq_true rfl⟩ rfl (Nat.le_of_ble_eq_true rfl) dX3_passDay_69 (fun r13 u14 => ?_)
        refine go_callVV (As := fun ad => [.int (bI r13)]) (g_X3_drawJug s.1 (bI r13) u14) mv_X3_drawJug clX3 h4 gw55 rfl ⟨Nat.le_of_ble_eq_true rfl, Nat.le_of_ble_eq_true rfl⟩ rfl (Nat.le_of_ble_eq_true rfl) dX3_passDay_72 (fun r15 u16 => ?_)
        refine go_aload_n 0 rfl dX3_passDay_75 rfl ?_
        refine go_dup dX3_passDay_76 rfl ?_
        refine go_getI clX3 h4 0 (Nat.le_of_ble_eq_true rfl) (c := 2) (fun _ => rfl) gw37 dX3_passDay_77 ?_
        refine go_iconst (v := (1 : Int32)) dX3_passDay_80 (by decide) ?_
        refine go_iadd dX3_passDay_81 ?_
        refine go_putI clX3 h4 0 (Nat.le_of_ble_eq_true rfl) (c := 2) (fun _ => rfl) (by decide) (fty := .int) (tyX3_ok 0 (Nat.le_of_ble_eq_true rfl)) rfl rfl rfl (fun _ => Nat.le_of_ble_eq_true rfl) gw37 dX3_passDay_82 ?_
        refine go_nmU (fun u17 => ?_)
        exact go_vret rfl dX3_passDay_85
    · refine go_aload_n 0 rfl dX3_passDay_28 rfl ?_
      refine go_getR clX3 h4 8 (Nat.le_of_ble_eq_true rfl) (f := (s.1 + 2)) (fun _ => rfl) gw45 dX3_passDay_29 ?_
      refine go_iload_n 2 rfl dX3_passDay_32 rfl ?_
      refine go_ck (fun h18 => ?_)
      refine go_aald14 h11 h18 dX3_passDay_33 ?_
      refine go_nmR (fun e19 => ?_)
      refine go_iload_n 1 rfl dX3_passDay_34 rfl ?_
      refine go_aload_n 0 rfl dX3_passDay_35 rfl ?_
      refine go_getI clX3 h4 2 (Nat.le_of_ble_eq_true rfl) (c := 4) (fun _ => rfl) gw39 dX3_passDay_36 ?_
      refine go_aload_n 0 rfl dX3_passDay_39 rfl ?_
      refine go_getI clX3 h4 1 (Nat.le_of_ble_eq_true rfl) (c := 3) (fun _ => rfl) gw38 dX3_passDay_40 ?_
      refine go_ck (fun h20 => ?_)
      refine go_callVV (As := fun ad => [.int s.2.1, .int (s.2.2.2.1 (kR s.1) (kO s.1 + 4)), .int (s.2.2.2.1 (kR s.1) (kO s.1 + 3))]) (g_X1_passDay e19 s.2.1 (s.2.2.2.1 (kR s.1) (kO s.1 + 4)) (s.2.2.2.1 (kR s.1) (kO s.1 + 3)) s.2.2.2) mv_X1_passDay clX1 h20 gw56 rfl ⟨Nat.le_of_ble_eq_true rfl, Nat.le_of_ble_eq_true rfl⟩ rfl (Nat.le_of_ble_eq_true rfl) dX3_passDay_43 (fun r21 u22 => ?_)
      refine go_iinc (v := (s.2.2.1 + (1 : Int32))) (lv' := [(2, .int (s.2.2.1 + (1 : Int32))), (0, .ref (ad s.1)), (1, .int s.2.1)]) 2 rfl dX3_passDay_46 rfl (Nat.le_of_ble_eq_true rfl) rfl ?_
      refine go_goto (tgt := 11) dX3_passDay_49 (by decide) ?_
      exact go_sub [1, 2, 0] rfl (hih11 (s.1, s.2.1, (s.2.2.1 + (1 : Int32)), u22))
set_option maxHeartbeats 4000000 in
set_option maxRecDepth 100000 in
theorem g_X3_passDay (a0 : Nat) (u : Uw) : ∀ l, Con l yX3_passDay mi_X3_passDay ivV (fun ad => [.ref (ad a0)]) u (f_X3_passDay a0 u) := by
  refine con_of (by decide) rfl (fun _ => Nat.le_of_ble_eq_true rfl) (fun X ad => ?_)
  show Go X ad mi_X3_passDay ivV 0 [(0, .ref (ad a0))] [] u (f_X3_passDay a0 u)
  unfold f_X3_passDay
  refine go_aload_n 0 rfl dX3_passDay_0 rfl ?_
  refine go_aload_n 0 rfl dX3_passDay_1 rfl ?_
  refine go_ck (fun h1 => ?_)
  refine go_getI clX3 h1 0 (Nat.le_of_ble_eq_true rfl) (c := 2) (fun _ => rfl) gw37 dX3_passDay_2 ?_
  refine go_callVI (As := fun ad => [.int (u.1 (kR a0) (kO a0 + 2))]) (g_X3_holySet a0 (u.1 (kR a0) (kO a0 + 2)) u) mv_X3_holySet clX3 h1 gw53 rfl ⟨Nat.le_of_ble_eq_true rfl, Nat.le_of_ble_eq_true rfl⟩ rfl (Nat.le_of_ble_eq_true rfl) dX3_passDay_5 (fun r2 u3 => ?_)
  refine go_istore_n (lv' := [(1, .int r2), (0, .ref (ad a0))]) dX3_passDay_8 rfl (Nat.le_of_ble_eq_true rfl) rfl ?_
  refine go_iconst (v := (0 : Int32)) dX3_passDay_9 (by decide) ?_
  refine go_istore_n (lv' := [(2, .int (0 : Int32)), (1, .int r2), (0, .ref (ad a0))]) dX3_passDay_10 rfl (Nat.le_of_ble_eq_true rfl) rfl ?_
  exact go_sub [2, 1, 0] rfl (gl_X3_passDay_11 X ad  2100 (a0, r2, (0 : Int32), u3))
def b_X3_wellSet_4 (ih4 : Nat × Int32 × Int32 × Uw → Option (Int32 × Uw)) (s : Nat × Int32 × Int32 × Uw) : Option (Int32 × Uw) :=
  ck (kT s.1 == 3) <|
  if (s.2.2.2.1 (kR s.1) (kO s.1 + 1)) ≤ s.2.2.1 then
  (some (s.2.1, s.2.2.2))
  else
  (ck (kT (s.1 + 2) == 14) <|
  if (8 : Int32) ≤ s.2.2.1 then
  (some (s.2.1, s.2.2.2))
  else
  (ck (inb s.2.2.1 8) <|
  nm ((s.1 + 2) + 13 + s.2.2.1.toNatClampNeg) fun e4 =>
  ck (kT e4 == 1) <|
  if (s.2.2.2.1 (kR e4) (kO e4 + 0)) = 0 then
  (nm (s.2.1 ||| ((1 : Int32) <<< (s.2.2.1 &&& 31))) fun x6 =>
  ih4 (s.1, x6, (s.2.2.1 + (1 : Int32)), s.2.2.2))
  else
  (ih4 (s.1, s.2.1, (s.2.2.1 + (1 : Int32)), s.2.2.2))))
def f_X3_wellSet (a0 : Nat) (u : Uw) : Option (Int32 × Uw) :=
  lp b_X3_wellSet_4 2100 (a0, (0 : Int32), (0 : Int32), u)
set_option maxHeartbeats 4000000 in
set_option maxRecDepth 100000 in
theorem gl_X3_wellSet_4 (X : Cx) (ad : Nat → Nat) : ∀ (n : Nat) (s : Nat × Int32 × Int32 × Uw), Go X ad mi_X3_wellSet ivI 4 [(0, .ref (ad s.1)), (1, .int s.2.1), (2, .int s.2.2.1)] [] s.2.2.2 (lp b_X3_wellSet_4 n s) := by
  refine go_lp (G := fun (s : Nat × Int32 × Int32 × Uw) o => Go X ad mi_X3_wellSet ivI 4 [(0, .ref (ad s.1)), (1, .int s.2.1), (2, .int s.2.2.1)] [] s.2.2.2 o) (fun _ => go_none) (fun ih4 hih4 s => ?_)
  show Go X ad mi_X3_wellSet ivI 4 [(0, .ref (ad s.1)), (1, .int s.2.1), (2, .int s.2.2.1)] [] s.2.2.2 (b_X3_wellSet_4 ih4 s)
  unfold b_X3_wellSet_4
  refine go_iload_n 2 rfl dX3_wellSet_4 rfl ?_
  refine go_aload_n 0 rfl dX3_wellSet_5 rfl ?_
  refine go_ck (fun h1 => ?_)
  refine go_getI clX3 h1 6 (Nat.le_of_ble_eq_true rfl) (c := 1) (fun _ => rfl) gw43 dX3_wellSet_6 ?_
  refine go_icmp_ge (tgt := 45) dX3_wellSet_9 (by decide) ?_ ?_
  · refine go_iload_n 1 rfl dX3_wellSet_45 rfl ?_
    exact go_iret rfl dX3_wellSet_46
  · refine go_iload_n 2 rfl dX3_wellSet_12 rfl ?_
    refine go_aload_n 0 rfl dX3_wellSet_13 rfl ?_
    refine go_getR clX3 h1 8 (Nat.le_of_ble_eq_true rfl) (f := (s.1 + 2)) (fun _ => rfl) gw45 dX3_wellSet_14 ?_
    refine go_ck (fun h2 => ?_)
    refine go_alen14 h2 dX3_wellSet_17 ?_
    refine go_icmp_ge (tgt := 45) dX3_wellSet_18 (by decide) ?_ ?_
    · refine go_iload_n 1 rfl dX3_wellSet_45 rfl ?_
      exact go_iret rfl dX3_wellSet_46
    · refine go_aload_n 0 rfl dX3_wellSet_21 rfl ?_
      refine go_getR clX3 h1 8 (Nat.le_of_ble_eq_true rfl) (f := (s.1 + 2)) (fun _ => rfl) gw45 dX3_wellSet_22 ?_
      refine go_iload_n 2 rfl dX3_wellSet_25 rfl ?_
      refine go_ck (fun h3 => ?_)
      refine go_aald14 h2 h3 dX3_wellSet_26 ?_
      refine go_nmR (fun e4 => ?_)
      refine go_ck (fun h5 => ?_)
      refine go_getIN clX1 h5 0 (Nat.le_of_ble_eq_true rfl) (c := 0) (fun _ => rfl) gn57 dX3_wellSet_27 ?_
      refine go_if_ne (tgt := 39) dX3_wellSet_30 (by decide) ?_ ?_
      · refine go_iinc (v := (s.2.2.1 + (1 : Int32))) (lv' := [(2, .int (s.2.2.1 + (1 : Int32))), (0, .ref (ad s.1)), (1, .int s.2.1)]) 2 rfl dX3_wellSet_39 rfl (Nat.le_of_ble_eq_true rfl) rfl ?_
        refine go_goto (tgt := 4) dX3_wellSet_42 (by decide) ?_
        exact go_sub [1, 2, 0] rfl (hih4 (s.1, s.2.1, (s.2.2.1 + (1 : Int32)), s.2.2.2))
      · refine go_iload_n 1 rfl dX3_wellSet_33 rfl ?_
        refine go_iconst (v := (1 : Int32)) dX3_wellSet_34 (by decide) ?_
        refine go_iload_n 2 rfl dX3_wellSet_35 rfl ?_
        refine go_ishl dX3_wellSet_36 ?_
        refine go_ior dX3_wellSet_37 ?_
        refine go_nm (fun x6 => ?_)
        refine go_istore_n (lv' := [(1, .int x6), (0, .ref (ad s.1)), (2, .int s.2.2.1)]) dX3_wellSet_38 rfl (Nat.le_of_ble_eq_true rfl) rfl ?_
        refine go_iinc (v := (s.2.2.1 + (1 : Int32))) (lv' := [(2, .int (s.2.2.1 + (1 : Int32))), (1, .int x6), (0, .ref (ad s.1))]) 2 rfl dX3_wellSet_39 rfl (Nat.le_of_ble_eq_true rfl) rfl ?_
        refine go_goto (tgt := 4) dX3_wellSet_42 (by decide) ?_
        exact go_sub [2, 1, 0] rfl (hih4 (s.1, x6, (s.2.2.1 + (1 : Int32)), s.2.2.2))
set_option maxHeartbeats 4000000 in
set_option maxRecDepth 100000 in
theorem g_X3_wellSet (a0 : Nat) (u : Uw) : ∀ l, Con l yX3_wellSet mi_X3_wellSet ivI (fun ad => [.ref (ad a0)]) u (f_X3_wellSet a0 u) := by
  refine con_of (by decide) rfl (fun _ => Nat.le_of_ble_eq_true rfl) (fun X ad => ?_)
  show Go X ad mi_X3_wellSet ivI 0 [(0, .ref (ad a0))] [] u (f_X3_wellSet a0 u)
  unfold f_X3_wellSet
  refine go_iconst (v := (0 : Int32)) dX3_wellSet_0 (by decide) ?_
  refine go_istore_n (lv' := [(1, .int (0 : Int32)), (0, .ref (ad a0))]) dX3_wellSet_1 rfl (Nat.le_of_ble_eq_true rfl) rfl ?_
  refine go_iconst (v := (0 : Int32)) dX3_wellSet_2 (by decide) ?_
  refine go_istore_n (lv' := [(2, .int (0 : Int32)), (1, .int (0 : Int32)), (0, .ref (ad a0))]) dX3_wellSet_3 rfl (Nat.le_of_ble_eq_true rfl) rfl ?_
  exact go_sub [2, 1, 0] rfl (gl_X3_wellSet_4 X ad  2100 (a0, (0 : Int32), (0 : Int32), u))
def b_X3_illOfAll_4 (ih4 : Nat × Int32 × Int32 × Uw → Option (Int32 × Uw)) (s : Nat × Int32 × Int32 × Uw) : Option (Int32 × Uw) :=
  ck (kT s.1 == 3) <|
  if (s.2.2.2.1 (kR s.1) (kO s.1 + 1)) ≤ s.2.2.1 then
  (some (s.2.1, s.2.2.2))
  else
  (ck (kT (s.1 + 2) == 14) <|
  if (8 : Int32) ≤ s.2.2.1 then
  (some (s.2.1, s.2.2.2))
  else
  (ck (inb s.2.2.1 8) <|
  nm ((s.1 + 2) + 13 + s.2.2.1.toNatClampNeg) fun e4 =>
  ck (kT e4 == 1) <|
  nm (s.2.1 + (s.2.2.2.1 (kR e4) (kO e4 + 0))) fun x6 =>
  ih4 (s.1, x6, (s.2.2.1 + (1 : Int32)), s.2.2.2)))
def f_X3_illOfAll (a0 : Nat) (u : Uw) : Option (Int32 × Uw) :=
  lp b_X3_illOfAll_4 2100 (a0, (0 : Int32), (0 : Int32), u)
set_option maxHeartbeats 4000000 in
set_option maxRecDepth 100000 in
theorem gl_X3_illOfAll_4 (X : Cx) (ad : Nat → Nat) : ∀ (n : Nat) (s : Nat × Int32 × Int32 × Uw), Go X ad mi_X3_illOfAll ivI 4 [(0, .ref (ad s.1)), (1, .int s.2.1), (2, .int s.2.2.1)] [] s.2.2.2 (lp b_X3_illOfAll_4 n s) := by
  refine go_lp (G := fun (s : Nat × Int32 × Int32 × Uw) o => Go X ad mi_X3_illOfAll ivI 4 [(0, .ref (ad s.1)), (1, .int s.2.1), (2, .int s.2.2.1)] [] s.2.2.2 o) (fun _ => go_none) (fun ih4 hih4 s => ?_)
  show Go X ad mi_X3_illOfAll ivI 4 [(0, .ref (ad s.1)), (1, .int s.2.1), (2, .int s.2.2.1)] [] s.2.2.2 (b_X3_illOfAll_4 ih4 s)
  unfold b_X3_illOfAll_4
  refine go_iload_n 2 rfl dX3_illOfAll_4 rfl ?_
  refine go_aload_n 0 rfl dX3_illOfAll_5 rfl ?_
  refine go_ck (fun h1 => ?_)
  refine go_getI clX3 h1 6 (Nat.le_of_ble_eq_true rfl) (c := 1) (fun _ => rfl) gw43 dX3_illOfAll_6 ?_
  refine go_icmp_ge (tgt := 39) dX3_illOfAll_9 (by decide) ?_ ?_
  · refine go_iload_n 1 rfl dX3_illOfAll_39 rfl ?_
    exact go_iret rfl dX3_illOfAll_40
  · refine go_iload_n 2 rfl dX3_illOfAll_12 rfl ?_
    refine go_aload_n 0 rfl dX3_illOfAll_13 rfl ?_
    refine go_getR clX3 h1 8 (Nat.le_of_ble_eq_true rfl) (f := (s.1 + 2)) (fun _ => rfl) gw45 dX3_illOfAll_14 ?_
    refine go_ck (fun h2 => ?_)
    refine go_alen14 h2 dX3_illOfAll_17 ?_
    refine go_icmp_ge (tgt := 39) dX3_illOfAll_18 (by decide) ?_ ?_
    · refine go_iload_n 1 rfl dX3_illOfAll_39 rfl ?_
      exact go_iret rfl dX3_illOfAll_40
    · refine go_iload_n 1 rfl dX3_illOfAll_21 rfl ?_
      refine go_aload_n 0 rfl dX3_illOfAll_22 rfl ?_
      refine go_getR clX3 h1 8 (Nat.le_of_ble_eq_true rfl) (f := (s.1 + 2)) (fun _ => rfl) gw45 dX3_illOfAll_23 ?_
      refine go_iload_n 2 rfl dX3_illOfAll_26 rfl ?_
      refine go_ck (fun h3 => ?_)
      refine go_aald14 h2 h3 dX3_illOfAll_27 ?_
      refine go_nmR (fun e4 => ?_)
      refine go_ck (fun h5 => ?_)
      refine go_getIN clX1 h5 0 (Nat.le_of_ble_eq_true rfl) (c := 0) (fun _ => rfl) gn57 dX3_illOfAll_28 ?_
      refine go_iadd dX3_illOfAll_31 ?_
      refine go_nm (fun x6 => ?_)
      refine go_istore_n (lv' := [(1, .int x6), (0, .ref (ad s.1)), (2, .int s.2.2.1)]) dX3_illOfAll_32 rfl (Nat.le_of_ble_eq_true rfl) rfl ?_
      refine go_iinc (v := (s.2.2.1 + (1 : Int32))) (lv' := [(2, .int (s.2.2.1 + (1 : Int32))), (1, .int x6), (0, .ref (ad s.1))]) 2 rfl dX3_illOfAll_33 rfl (Nat.le_of_ble_eq_true rfl) rfl ?_
      refine go_goto (tgt := 4) dX3_illOfAll_36 (by decide) ?_
      exact go_sub [2, 1, 0] rfl (hih4 (s.1, x6, (s.2.2.1 + (1 : Int32)), s.2.2.2))
set_option maxHeartbeats 4000000 in
set_option maxRecDepth 100000 in
theorem g_X3_illOfAll (a0 : Nat) (u : Uw) : ∀ l, Con l yX3_illOfAll mi_X3_illOfAll ivI (fun ad => [.ref (ad a0)]) u (f_X3_illOfAll a0 u) := by
  refine con_of (by decide) rfl (fun _ => Nat.le_of_ble_eq_true rfl) (fun X ad => ?_)
  show Go X ad mi_X3_illOfAll ivI 0 [(0, .ref (ad a0))] [] u (f_X3_illOfAll a0 u)
  unfold f_X3_illOfAll
  refine go_iconst (v := (0 : Int32)) dX3_illOfAll_0 (by decide) ?_
  refine go_istore_n (lv' := [(1, .int (0 : Int32)), (0, .ref (ad a0))]) dX3_illOfAll_1 rfl (Nat.le_of_ble_eq_true rfl) rfl ?_
  refine go_iconst (v := (0 : Int32)) dX3_illOfAll_2 (by decide) ?_
  refine go_istore_n (lv' := [(2, .int (0 : Int32)), (1, .int (0 : Int32)), (0, .ref (ad a0))]) dX3_illOfAll_3 rfl (Nat.le_of_ble_eq_true rfl) rfl ?_
  exact go_sub [2, 1, 0] rfl (gl_X3_illOfAll_4 X ad  2100 (a0, (0 : Int32), (0 : Int32), u))
def b_X3_bathedOfAll_4 (ih4 : Nat × Int32 × Int32 × Uw → Option (Int32 × Uw)) (s : Nat × Int32 × Int32 × Uw) : Option (Int32 × Uw) :=
  ck (kT s.1 == 3) <|
  if (s.2.2.2.1 (kR s.1) (kO s.1 + 1)) ≤ s.2.2.1 then
  (some (s.2.1, s.2.2.2))
  else
  (ck (kT (s.1 + 2) == 14) <|
  if (8 : Int32) ≤ s.2.2.1 then
  (some (s.2.1, s.2.2.2))
  else
  (ck (inb s.2.2.1 8) <|
  nm ((s.1 + 2) + 13 + s.2.2.1.toNatClampNeg) fun e4 =>
  ck (kT e4 == 1) <|
  nm (s.2.1 + (s.2.2.2.1 (kR e4) (kO e4 + 2))) fun x6 =>
  ih4 (s.1, x6, (s.2.2.1 + (1 : Int32)), s.2.2.2)))
def f_X3_bathedOfAll (a0 : Nat) (u : Uw) : Option (Int32 × Uw) :=
  lp b_X3_bathedOfAll_4 2100 (a0, (0 : Int32), (0 : Int32), u)
set_option maxHeartbeats 4000000 in
set_option maxRecDepth 100000 in
theorem gl_X3_bathedOfAll_4 (X : Cx) (ad : Nat → Nat) : ∀ (n : Nat) (s : Nat × Int32 × Int32 × Uw), Go X ad mi_X3_bathedOfAll ivI 4 [(0, .ref (ad s.1)), (1, .int s.2.1), (2, .int s.2.2.1)] [] s.2.2.2 (lp b_X3_bathedOfAll_4 n s) := by
  refine go_lp (G := fun (s : Nat × Int32 × Int32 × Uw) o => Go X ad mi_X3_bathedOfAll ivI 4 [(0, .ref (ad s.1)), (1, .int s.2.1), (2, .int s.2.2.1)] [] s.2.2.2 o) (fun _ => go_none) (fun ih4 hih4 s => ?_)
  show Go X ad mi_X3_bathedOfAll ivI 4 [(0, .ref (ad s.1)), (1, .int s.2.1), (2, .int s.2.2.1)] [] s.2.2.2 (b_X3_bathedOfAll_4 ih4 s)
  unfold b_X3_bathedOfAll_4
  refine go_iload_n 2 rfl dX3_bathedOfAll_4 rfl ?_
  refine go_aload_n 0 rfl dX3_bathedOfAll_5 rfl ?_
  refine go_ck (fun h1 => ?_)
  refine go_getI clX3 h1 6 (Nat.le_of_ble_eq_true rfl) (c := 1) (fun _ => rfl) gw43 dX3_bathedOfAll_6 ?_
  refine go_icmp_ge (tgt := 39) dX3_bathedOfAll_9 (by decide) ?_ ?_
  · refine go_iload_n 1 rfl dX3_bathedOfAll_39 rfl ?_
    exact go_iret rfl dX3_bathedOfAll_40
  · refine go_iload_n 2 rfl dX3_bathedOfAll_12 rfl ?_
    refine go_aload_n 0 rfl dX3_bathedOfAll_13 rfl ?_
    refine go_getR clX3 h1 8 (Nat.le_of_ble_eq_true rfl) (f := (s.1 + 2)) (fun _ => rfl) gw45 dX3_bathedOfAll_14 ?_
    refine go_ck (fun h2 => ?_)
    refine go_alen14 h2 dX3_bathedOfAll_17 ?_
    refine go_icmp_ge (tgt := 39) dX3_bathedOfAll_18 (by decide) ?_ ?_
    · refine go_iload_n 1 rfl dX3_bathedOfAll_39 rfl ?_
      exact go_iret rfl dX3_bathedOfAll_40
    · refine go_iload_n 1 rfl dX3_bathedOfAll_21 rfl ?_
      refine go_aload_n 0 rfl dX3_bathedOfAll_22 rfl ?_
      refine go_getR clX3 h1 8 (Nat.le_of_ble_eq_true rfl) (f := (s.1 + 2)) (fun _ => rfl) gw45 dX3_bathedOfAll_23 ?_
      refine go_iload_n 2 rfl dX3_bathedOfAll_26 rfl ?_
      refine go_ck (fun h3 => ?_)
      refine go_aald14 h2 h3 dX3_bathedOfAll_27 ?_
      refine go_nmR (fun e4 => ?_)
      refine go_ck (fun h5 => ?_)
      refine go_getIN clX1 h5 2 (Nat.le_of_ble_eq_true rfl) (c := 2) (fun _ => rfl) gn58 dX3_bathedOfAll_28 ?_
      refine go_iadd dX3_bathedOfAll_31 ?_
      refine go_nm (fun x6 => ?_)
      refine go_istore_n (lv' := [(1, .int x6), (0, .ref (ad s.1)), (2, .int s.2.2.1)]) dX3_bathedOfAll_32 rfl (Nat.le_of_ble_eq_true rfl) rfl ?_
      refine go_iinc (v := (s.2.2.1 + (1 : Int32))) (lv' := [(2, .int (s.2.2.1 + (1 : Int32))), (1, .int x6), (0, .ref (ad s.1))]) 2 rfl dX3_bathedOfAll_33 rfl (Nat.le_of_ble_eq_true rfl) rfl ?_
      refine go_goto (tgt := 4) dX3_bathedOfAll_36 (by decide) ?_
      exact go_sub [2, 1, 0] rfl (hih4 (s.1, x6, (s.2.2.1 + (1 : Int32)), s.2.2.2))
set_option maxHeartbeats 4000000 in
set_option maxRecDepth 100000 in
theorem g_X3_bathedOfAll (a0 : Nat) (u : Uw) : ∀ l, Con l yX3_bathedOfAll mi_X3_bathedOfAll ivI (fun ad => [.ref (ad a0)]) u (f_X3_bathedOfAll a0 u) := by
  refine con_of (by decide) rfl (fun _ => Nat.le_of_ble_eq_true rfl) (fun X ad => ?_)
  show Go X ad mi_X3_bathedOfAll ivI 0 [(0, .ref (ad a0))] [] u (f_X3_bathedOfAll a0 u)
  unfold f_X3_bathedOfAll
  refine go_iconst (v := (0 : Int32)) dX3_bathedOfAll_0 (by decide) ?_
  refine go_istore_n (lv' := [(1, .int (0 : Int32)), (0, .ref (ad a0))]) dX3_bathedOfAll_1 rfl (Nat.le_of_ble_eq_true rfl) rfl ?_
  refine go_iconst (v := (0 : Int32)) dX3_bathedOfAll_2 (by decide) ?_
  refine go_istore_n (lv' := [(2, .int (0 : Int32)), (1, .int (0 : Int32)), (0, .ref (ad a0))]) dX3_bathedOfAll_3 rfl (Nat.le_of_ble_eq_true rfl) rfl ?_
  exact go_sub [2, 1, 0] rfl (gl_X3_bathedOfAll_4 X ad  2100 (a0, (0 : Int32), (0 : Int32), u))
def f_X4_add (a1 : Int32) (u : Uw) : Option (Unit × Uw) :=
  if (120 : Int32) ≤ (u.1 7 0) then
  (some ((), u))
  else
  (ck (inb (u.1 7 0) 120) <|
  nm (w1 u 8 (u.1 7 0).toNatClampNeg a1.toInt8.toInt32) fun u2 =>
  nm (w1 u2 7 0 ((u2.1 7 0) + (1 : Int32))) fun u3 =>
  some ((), u3))
set_option maxHeartbeats 4000000 in
set_option maxRecDepth 100000 in
theorem g_X4_add (a1 : Int32) (u : Uw) : ∀ l, Con l yX4_add mi_X4_add ivV (fun ad => [.ref (ad 70), .int a1]) u (f_X4_add a1 u) := by
  refine con_of (by decide) rfl (fun _ => Nat.le_of_ble_eq_true rfl) (fun X ad => ?_)
  show Go X ad mi_X4_add ivV 0 [(0, .ref (ad 70)), (1, .int a1)] [] u (f_X4_add a1 u)
  unfold f_X4_add
  refine go_aload_n 0 rfl dX4_add_0 rfl ?_
  refine go_getIL clX4 kt_70 1 (Nat.le_of_ble_eq_true rfl) (c := 0) (fun _ => rfl) kr_70 gw59 dX4_add_1 ?_
  refine go_aload_n 0 rfl dX4_add_4 rfl ?_
  refine go_getR clX4 kt_70 0 (Nat.le_of_ble_eq_true rfl) (f := 71) (fun _ => rfl) gw60 dX4_add_5 ?_
  refine go_alen12 (v := (120 : Int32)) kt_71 (by rw [kl_71]; decide) dX4_add_8 ?_
  refine go_icmp_ge (tgt := 32) dX4_add_9 (by decide) ?_ ?_
  · exact go_vret rfl dX4_add_32
  · refine go_aload_n 0 rfl dX4_add_12 rfl ?_
    refine go_getR clX4 kt_70 0 (Nat.le_of_ble_eq_true rfl) (f := 71) (fun _ => rfl) gw60 dX4_add_13 ?_
    refine go_aload_n 0 rfl dX4_add_16 rfl ?_
    refine go_getIL clX4 kt_70 1 (Nat.le_of_ble_eq_true rfl) (c := 0) (fun _ => rfl) kr_70 gw59 dX4_add_17 ?_
    refine go_iload_n 1 rfl dX4_add_20 rfl ?_
    refine go_ck (fun h1 => ?_)
    refine go_bastL kt_71 kr_71 kl_71 h1 dX4_add_21 ?_
    refine go_nmU (fun u2 => ?_)
    refine go_aload_n 0 rfl dX4_add_22 rfl ?_
    refine go_dup dX4_add_23 rfl ?_
    refine go_getIL clX4 kt_70 1 (Nat.le_of_ble_eq_true rfl) (c := 0) (fun _ => rfl) kr_70 gw59 dX4_add_24 ?_
    refine go_iconst (v := (1 : Int32)) dX4_add_27 (by decide) ?_
    refine go_iadd dX4_add_28 ?_
    refine go_putIL clX4 kt_70 1 (Nat.le_of_ble_eq_true rfl) (c := 0) (fun _ => rfl) (by decide) kr_70 (fty := .int) (tyX4_ok 1 (Nat.le_of_ble_eq_true rfl)) rfl rfl rfl (fun _ => Nat.le_of_ble_eq_true rfl) gw59 dX4_add_29 ?_
    refine go_nmU (fun u3 => ?_)
    exact go_vret rfl dX4_add_32
def f_X4_byteAt (a1 : Int32) (u : Uw) : Option (Int32 × Uw) :=
  if a1 < 0 then
  (some ((0 : Int32), u))
  else
  (if (u.1 7 0) ≤ a1 then
  (some ((0 : Int32), u))
  else
  (if (120 : Int32) ≤ a1 then
  (some ((0 : Int32), u))
  else
  (ck (inb a1 120) <|
  nm (u.1 8 a1.toNatClampNeg) fun x2 =>
  some (x2, u))))
set_option maxHeartbeats 4000000 in
set_option maxRecDepth 100000 in
theorem g_X4_byteAt (a1 : Int32) (u : Uw) : ∀ l, Con l yX4_byteAt mi_X4_byteAt ivI (fun ad => [.ref (ad 70), .int a1]) u (f_X4_byteAt a1 u) := by
  refine con_of (by decide) rfl (fun _ => Nat.le_of_ble_eq_true rfl) (fun X ad => ?_)
  show Go X ad mi_X4_byteAt ivI 0 [(0, .ref (ad 70)), (1, .int a1)] [] u (f_X4_byteAt a1 u)
  unfold f_X4_byteAt
  refine go_iload_n 1 rfl dX4_byteAt_0 rfl ?_
  refine go_if_lt (tgt := 30) dX4_byteAt_1 (by decide) ?_ ?_
  · refine go_iconst (v := (0 : Int32)) dX4_byteAt_30 (by decide) ?_
    exact go_iret rfl dX4_byteAt_31
  · refine go_iload_n 1 rfl dX4_byteAt_4 rfl ?_
    refine go_aload_n 0 rfl dX4_byteAt_5 rfl ?_
    refine go_getIL clX4 kt_70 1 (Nat.le_of_ble_eq_true rfl) (c := 0) (fun _ => rfl) kr_70 gw59 dX4_byteAt_6 ?_
    refine go_icmp_ge (tgt := 30) dX4_byteAt_9 (by decide) ?_ ?_
    · refine go_iconst (v := (0 : Int32)) dX4_byteAt_30 (by decide) ?_
      exact go_iret rfl dX4_byteAt_31
    · refine go_iload_n 1 rfl dX4_byteAt_12 rfl ?_
      refine go_aload_n 0 rfl dX4_byteAt_13 rfl ?_
      refine go_getR clX4 kt_70 0 (Nat.le_of_ble_eq_true rfl) (f := 71) (fun _ => rfl) gw60 dX4_byteAt_14 ?_
      refine go_alen12 (v := (120 : Int32)) kt_71 (by rw [kl_71]; decide) dX4_byteAt_17 ?_
      refine go_icmp_ge (tgt := 30) dX4_byteAt_18 (by decide) ?_ ?_
      · refine go_iconst (v := (0 : Int32)) dX4_byteAt_30 (by decide) ?_
        exact go_iret rfl dX4_byteAt_31
      · refine go_aload_n 0 rfl dX4_byteAt_21 rfl ?_
        refine go_getR clX4 kt_70 0 (Nat.le_of_ble_eq_true rfl) (f := 71) (fun _ => rfl) gw60 dX4_byteAt_22 ?_
        refine go_iload_n 1 rfl dX4_byteAt_25 rfl ?_
        refine go_ck (fun h1 => ?_)
        refine go_baldL kt_71 kr_71 kl_71 h1 dX4_byteAt_26 ?_
        refine go_nm (fun x2 => ?_)
        refine go_goto (tgt := 31) dX4_byteAt_27 (by decide) ?_
        exact go_iret rfl dX4_byteAt_31
def f_X4_isLetter (a0 : Int32) (u : Uw) : Option (Bool × Uw) :=
  if a0 < (97 : Int32) then
  (some (false, u))
  else
  (if (122 : Int32) < a0 then
  (some (false, u))
  else
  (some (true, u)))
set_option maxHeartbeats 4000000 in
set_option maxRecDepth 100000 in
theorem g_X4_isLetter (a0 : Int32) (u : Uw) : ∀ l, Con l yX4_isLetter mi_X4_isLetter ivZ (fun ad => [.int a0]) u (f_X4_isLetter a0 u) := by
  refine con_of (by decide) rfl (fun _ => Nat.le_of_ble_eq_true rfl) (fun X ad => ?_)
  show Go X ad mi_X4_isLetter ivZ 0 [(0, .int a0)] [] u (f_X4_isLetter a0 u)
  unfold f_X4_isLetter
  refine go_iload_n 0 rfl dX4_isLetter_0 rfl ?_
  refine go_bipush (v := (97 : Int32)) dX4_isLetter_1 (by decide) ?_
  refine go_icmp_lt (tgt := 16) dX4_isLetter_3 (by decide) ?_ ?_
  · refine go_iconst (v := (0 : Int32)) dX4_isLetter_16 (by decide) ?_
    exact go_zret (b := false) rfl dX4_isLetter_17
  · refine go_iload_n 0 rfl dX4_isLetter_6 rfl ?_
    refine go_bipush (v := (122 : Int32)) dX4_isLetter_7 (by decide) ?_
    refine go_icmp_gt (tgt := 16) dX4_isLetter_9 (by decide) ?_ ?_
    · refine go_iconst (v := (0 : Int32)) dX4_isLetter_16 (by decide) ?_
      exact go_zret (b := false) rfl dX4_isLetter_17
    · refine go_iconst (v := (1 : Int32)) dX4_isLetter_12 (by decide) ?_
      refine go_goto (tgt := 17) dX4_isLetter_13 (by decide) ?_
      exact go_zret (b := true) rfl dX4_isLetter_17
def f_X4_isDigit (a0 : Int32) (u : Uw) : Option (Bool × Uw) :=
  if a0 < (48 : Int32) then
  (some (false, u))
  else
  (if (57 : Int32) < a0 then
  (some (false, u))
  else
  (some (true, u)))
set_option maxHeartbeats 4000000 in
set_option maxRecDepth 100000 in
theorem g_X4_isDigit (a0 : Int32) (u : Uw) : ∀ l, Con l yX4_isDigit mi_X4_isDigit ivZ (fun ad => [.int a0]) u (f_X4_isDigit a0 u) := by
  refine con_of (by decide) rfl (fun _ => Nat.le_of_ble_eq_true rfl) (fun X ad => ?_)
  show Go X ad mi_X4_isDigit ivZ 0 [(0, .int a0)] [] u (f_X4_isDigit a0 u)
  unfold f_X4_isDigit
  refine go_iload_n 0 rfl dX4_isDigit_0 rfl ?_
  refine go_bipush (v := (48 : Int32)) dX4_isDigit_1 (by decide) ?_
  refine go_icmp_lt (tgt := 16) dX4_isDigit_3 (by decide) ?_ ?_
  · refine go_iconst (v := (0 : Int32)) dX4_isDigit_16 (by decide) ?_
    exact go_zret (b := false) rfl dX4_isDigit_17
  · refine go_iload_n 0 rfl dX4_isDigit_6 rfl ?_
    refine go_bipush (v := (57 : Int32)) dX4_isDigit_7 (by decide) ?_
    refine go_icmp_gt (tgt := 16) dX4_isDigit_9 (by decide) ?_ ?_
    · refine go_iconst (v := (0 : Int32)) dX4_isDigit_16 (by decide) ?_
      exact go_zret (b := false) rfl dX4_isDigit_17
    · refine go_iconst (v := (1 : Int32)) dX4_isDigit_12 (by decide) ?_
      refine go_goto (tgt := 17) dX4_isDigit_13 (by decide) ?_
      exact go_zret (b := true) rfl dX4_isDigit_17
def b_X4_readToken_153 (ih153 : Uw → Option (Unit × Uw)) (s : Uw) : Option (Unit × Uw) :=
  if (s.1 7 0) ≤ (s.1 7 3) then
  (some ((), s))
  else
  (bd (f_X4_byteAt (s.1 7 3) s) fun r19 u20 =>
  bd (f_X4_isDigit r19 u20) fun r21 u22 =>
  if r21 = true then
  (bd (f_X4_byteAt (u22.1 7 3) u22) fun r23 u24 =>
  nm (w1 u24 7 4 (mnI (10000 : Int32) ((((u22.1 7 4) * (10 : Int32)) + r23) - (48 : Int32)))) fun u25 =>
  nm (w1 u25 7 3 ((u25.1 7 3) + (1 : Int32))) fun u26 =>
  ih153 u26)
  else
  (some ((), u22)))
def b_X4_readToken_91 (ih91 : Uw → Option (Unit × Uw)) (s : Uw) : Option (Unit × Uw) :=
  if (s.1 7 0) ≤ (s.1 7 3) then
  (some ((), s))
  else
  (bd (f_X4_byteAt (s.1 7 3) s) fun r28 u29 =>
  bd (f_X4_isLetter r28 u29) fun r30 u31 =>
  if r30 = true then
  (nm (w1 u31 7 3 ((u31.1 7 3) + (1 : Int32))) fun u32 =>
  ih91 u32)
  else
  (some ((), u31)))
def b_X4_readToken_8 (ih8 : Uw → Option (Unit × Uw)) (s : Uw) : Option (Unit × Uw) :=
  if (s.1 7 0) ≤ (s.1 7 2) then
  (nm (w1 s 7 3 (s.1 7 2)) fun u2 =>
  if (u2.1 7 2) < (u2.1 7 0) then
  (bd (f_X4_byteAt (u2.1 7 2) u2) fun r3 u4 =>
  bd (f_X4_isLetter r3 u4) fun r5 u6 =>
  if r5 = true then
  (nm (w1 u6 7 1 (1 : Int32)) fun u27 =>
  lp b_X4_readToken_91 2100 u27)
  else
  (bd (f_X4_byteAt (u6.1 7 2) u6) fun r7 u8 =>
  bd (f_X4_isDigit r7 u8) fun r9 u10 =>
  if r9 = true then
  (nm (w1 u10 7 1 (2 : Int32)) fun u17 =>
  nm (w1 u17 7 4 (0 : Int32)) fun u18 =>
  lp b_X4_readToken_153 2100 u18)
  else
  (bd (f_X4_byteAt (u10.1 7 2) u10) fun r11 u12 =>
  if r11 = (59 : Int32) then
  (nm (w1 u12 7 1 (3 : Int32)) fun u15 =>
  nm (w1 u15 7 3 ((u15.1 7 2) + (1 : Int32))) fun u16 =>
  some ((), u16))
  else
  (nm (w1 u12 7 1 (4 : Int32)) fun u13 =>
  nm (w1 u13 7 3 ((u13.1 7 2) + (1 : Int32))) fun u14 =>
  some ((), u14)))))
  else
  (nm (w1 u2 7 1 (0 : Int32)) fun u33 =>
  some ((), u33)))
  else
  (bd (f_X4_byteAt (s.1 7 2) s) fun r34 u35 =>
  if r34 = (32 : Int32) then
  (nm (w1 u35 7 2 ((u35.1 7 2) + (1 : Int32))) fun u55 =>
  ih8 u55)
  else
  (nm (w1 u35 7 3 (u35.1 7 2)) fun u36 =>
  if (u36.1 7 2) < (u36.1 7 0) then
  (bd (f_X4_byteAt (u36.1 7 2) u36) fun r37 u38 =>
  bd (f_X4_isLetter r37 u38) fun r39 u40 =>
  if r39 = true then
  (nm (w1 u40 7 1 (1 : Int32)) fun u53 =>
  lp b_X4_readToken_91 2100 u53)
  else
  (bd (f_X4_byteAt (u40.1 7 2) u40) fun r41 u42 =>
  bd (f_X4_isDigit r41 u42) fun r43 u44 =>
  if r43 = true then
  (nm (w1 u44 7 1 (2 : Int32)) fun u51 =>
  nm (w1 u51 7 4 (0 : Int32)) fun u52 =>
  lp b_X4_readToken_153 2100 u52)
  else
  (bd (f_X4_byteAt (u44.1 7 2) u44) fun r45 u46 =>
  if r45 = (59 : Int32) then
  (nm (w1 u46 7 1 (3 : Int32)) fun u49 =>
  nm (w1 u49 7 3 ((u49.1 7 2) + (1 : Int32))) fun u50 =>
  some ((), u50))
  else
  (nm (w1 u46 7 1 (4 : Int32)) fun u47 =>
  nm (w1 u47 7 3 ((u47.1 7 2) + (1 : Int32))) fun u48 =>
  some ((), u48)))))
  else
  (nm (w1 u36 7 1 (0 : Int32)) fun u54 =>
  some ((), u54))))
def f_X4_readToken (u : Uw) : Option (Unit × Uw) :=
  nm (w1 u 7 2 (u.1 7 3)) fun u1 =>
  lp b_X4_readToken_8 2100 u1
set_option maxHeartbeats 4000000 in
set_option maxRecDepth 100000 in
theorem gl_X4_readToken_153 (X : Cx) (ad : Nat → Nat) : ∀ (n : Nat) (s : Uw), Go X ad mi_X4_readToken ivV 153 [(0, .ref (ad 70))] [] s (lp b_X4_readToken_153 n s) := by
  refine go_lp (G := fun (s : Uw) o => Go X ad mi_X4_readToken ivV 153 [(0, .ref (ad 70))] [] s o) (fun _ => go_none) (fun ih153 hih153 s => ?_)
  show Go X ad mi_X4_readToken ivV 153 [(0, .ref (ad 70))] [] s (b_X4_readToken_153 ih153 s)
  unfold b_X4_readToken_153
  refine go_aload_n 0 rfl dX4_readToken_153 rfl ?_
  refine go_getIL clX4 kt_70 5 (Nat.le_of_ble_eq_true rfl) (c := 3) (fun _ => rfl) kr_70 gw61 dX4_readToken_154 ?_
  refine go_aload_n 0 rfl dX4_readToken_157 rfl ?_
  refine go_getIL clX4 kt_70 1 (Nat.le_of_ble_eq_true rfl) (c := 0) (fun _ => rfl) kr_70 gw59 dX4_readToken_158 ?_
  refine go_icmp_ge (tgt := 252) dX4_readToken_161 (by decide) ?_ ?_
  · exact go_vret rfl dX4_readToken_252
  · refine go_aload_n 0 rfl dX4_readToken_164 rfl ?_
    refine go_aload_n 0 rfl dX4_readToken_165 rfl ?_
    refine go_getIL clX4 kt_70 5 (Nat.le_of_ble_eq_true rfl) (c := 3) (fun _ => rfl) kr_70 gw61 dX4_readToken_166 ?_
    refine go_callVI (As := fun ad => [.int (s.1 7 3)]) (g_X4_byteAt (s.1 7 3) s) mv_X4_byteAt clX4 kt_70 gw63 rfl ⟨Nat.le_of_ble_eq_true rfl, Nat.le_of_ble_eq_true rfl⟩ rfl (Nat.le_of_ble_eq_true rfl) dX4_readToken_169 (fun r19 u20 => ?_)
    refine go_callSZ (As := fun ad => [.int r19]) (g_X4_isDigit r19 u20) mo_X4_isDigit gw66 gw67 rfl ⟨Nat.le_of_ble_eq_true rfl, Nat.le_of_ble_eq_true rfl⟩ rfl (Nat.le_of_ble_eq_true rfl) dX4_readToken_172 (fun r21 u22 => ?_)
    refine go_ifz_eq (tgt := 252) dX4_readToken_175 (by decide) ?_ ?_
    · exact go_vret rfl dX4_readToken_252
    · refine go_aload_n 0 rfl dX4_readToken_178 rfl ?_
      refine go_sipush (v := (10000 : Int32)) dX4_readToken_179 (by decide) ?_
      refine go_aload_n 0 rfl dX4_readToken_182 rfl ?_
      refine go_getIL clX4 kt_70 6 (Nat.le_of_ble_eq_true rfl) (c := 4) (fun _ => rfl) kr_70 gw69 dX4_readToken_183 ?_
      refine go_bipush (v := (10 : Int32)) dX4_readToken_186 (by decide) ?_
      refine go_imul dX4_readToken_188 ?_
      refine go_aload_n 0 rfl dX4_readToken_189 rfl ?_
      refine go_aload_n 0 rfl dX4_readToken_190 rfl ?_
      refine go_getIL clX4 kt_70 5 (Nat.le_of_ble_eq_true rfl) (c := 3) (fun _ => rfl) kr_70 gw61 dX4_readToken_191 ?_
      refine go_callVI (As := fun ad => [.int (u22.1 7 3)]) (g_X4_byteAt (u22.1 7 3) u22) mv_X4_byteAt clX4 kt_70 gw63 rfl ⟨Nat.le_of_ble_eq_true rfl, Nat.le_of_ble_eq_true rfl⟩ rfl (Nat.le_of_ble_eq_true rfl) dX4_readToken_194 (fun r23 u24 => ?_)
      refine go_iadd dX4_readToken_197 ?_
      refine go_bipush (v := (48 : Int32)) dX4_readToken_198 (by decide) ?_
      refine go_isub dX4_readToken_200 ?_
      refine go_min gw70 gw21 gw22 gw23 (Nat.le_of_ble_eq_true rfl) (Nat.le_of_ble_eq_true rfl) dX4_readToken_201 ?_
      refine go_putIL clX4 kt_70 6 (Nat.le_of_ble_eq_true rfl) (c := 4) (fun _ => rfl) (by decide) kr_70 (fty := .int) (tyX4_ok 6 (Nat.le_of_ble_eq_true rfl)) rfl rfl rfl (fun _ => Nat.le_of_ble_eq_true rfl) gw69 dX4_readToken_204 ?_
      refine go_nmU (fun u25 => ?_)
      refine go_aload_n 0 rfl dX4_readToken_207 rfl ?_
      refine go_dup dX4_readToken_208 rfl ?_
      refine go_getIL clX4 kt_70 5 (Nat.le_of_ble_eq_true rfl) (c := 3) (fun _ => rfl) kr_70 gw61 dX4_readToken_209 ?_
      refine go_iconst (v := (1 : Int32)) dX4_readToken_212 (by decide) ?_
      refine go_iadd dX4_readToken_213 ?_
      refine go_putIL clX4 kt_70 5 (Nat.le_of_ble_eq_true rfl) (c := 3) (fun _ => rfl) (by decide) kr_70 (fty := .int) (tyX4_ok 5 (Nat.le_of_ble_eq_true rfl)) rfl rfl rfl (fun _ => Nat.le_of_ble_eq_true rfl) gw61 dX4_readToken_214 ?_
      refine go_nmU (fun u26 => ?_)
      refine go_goto (tgt := 153) dX4_readToken_217 (by decide) ?_
      exact go_sub [0] rfl (hih153 u26)
set_option maxHeartbeats 4000000 in
set_option maxRecDepth 100000 in
theorem gl_X4_readToken_91 (X : Cx) (ad : Nat → Nat) : ∀ (n : Nat) (s : Uw), Go X ad mi_X4_readToken ivV 91 [(0, .ref (ad 70))] [] s (lp b_X4_readToken_91 n s) := by
  refine go_lp (G := fun (s : Uw) o => Go X ad mi_X4_readToken ivV 91 [(0, .ref (ad 70))] [] s o) (fun _ => go_none) (fun ih91 hih91 s => ?_)
  show Go X ad mi_X4_readToken ivV 91 [(0, .ref (ad 70))] [] s (b_X4_readToken_91 ih91 s)
  unfold b_X4_readToken_91
  refine go_aload_n 0 rfl dX4_readToken_91 rfl ?_
  refine go_getIL clX4 kt_70 5 (Nat.le_of_ble_eq_true rfl) (c := 3) (fun _ => rfl) kr_70 gw61 dX4_readToken_92 ?_
  refine go_aload_n 0 rfl dX4_readToken_95 rfl ?_
  refine go_getIL clX4 kt_70 1 (Nat.le_of_ble_eq_true rfl) (c := 0) (fun _ => rfl) kr_70 gw59 dX4_readToken_96 ?_
  refine go_icmp_ge (tgt := 252) dX4_readToken_99 (by decide) ?_ ?_
  · exact go_vret rfl dX4_readToken_252
  · refine go_aload_n 0 rfl dX4_readToken_102 rfl ?_
    refine go_aload_n 0 rfl dX4_readToken_103 rfl ?_
    refine go_getIL clX4 kt_70 5 (Nat.le_of_ble_eq_true rfl) (c := 3) (fun _ => rfl) kr_70 gw61 dX4_readToken_104 ?_
    refine go_callVI (As := fun ad => [.int (s.1 7 3)]) (g_X4_byteAt (s.1 7 3) s) mv_X4_byteAt clX4 kt_70 gw63 rfl ⟨Nat.le_of_ble_eq_true rfl, Nat.le_of_ble_eq_true rfl⟩ rfl (Nat.le_of_ble_eq_true rfl) dX4_readToken_107 (fun r28 u29 => ?_)
    refine go_callSZ (As := fun ad => [.int r28]) (g_X4_isLetter r28 u29) mo_X4_isLetter gw64 gw65 rfl ⟨Nat.le_of_ble_eq_true rfl, Nat.le_of_ble_eq_true rfl⟩ rfl (Nat.le_of_ble_eq_true rfl) dX4_readToken_110 (fun r30 u31 => ?_)
    refine go_ifz_eq (tgt := 252) dX4_readToken_113 (by decide) ?_ ?_
    · exact go_vret rfl dX4_readToken_252
    · refine go_aload_n 0 rfl dX4_readToken_116 rfl ?_
      refine go_dup dX4_readToken_117 rfl ?_
      refine go_getIL clX4 kt_70 5 (Nat.le_of_ble_eq_true rfl) (c := 3) (fun _ => rfl) kr_70 gw61 dX4_readToken_118 ?_
      refine go_iconst (v := (1 : Int32)) dX4_readToken_121 (by decide) ?_
      refine go_iadd dX4_readToken_122 ?_
      refine go_putIL clX4 kt_70 5 (Nat.le_of_ble_eq_true rfl) (c := 3) (fun _ => rfl) (by decide) kr_70 (fty := .int) (tyX4_ok 5 (Nat.le_of_ble_eq_true rfl)) rfl rfl rfl (fun _ => Nat.le_of_ble_eq_true rfl) gw61 dX4_readToken_123 ?_
      refine go_nmU (fun u32 => ?_)
      refine go_goto (tgt := 91) dX4_readToken_126 (by decide) ?_
      exact go_sub [0] rfl (hih91 u32)
set_option maxHeartbeats 4000000 in
set_option maxRecDepth 100000 in
theorem gl_X4_readToken_8 (X : Cx) (ad : Nat → Nat) : ∀ (n : Nat) (s : Uw), Go X ad mi_X4_readToken ivV 8 [(0, .ref (ad 70))] [] s (lp b_X4_readToken_8 n s) := by
  refine go_lp (G := fun (s : Uw) o => Go X ad mi_X4_readToken ivV 8 [(0, .ref (ad 70))] [] s o) (fun _ => go_none) (fun ih8 hih8 s => ?_)
  show Go X ad mi_X4_readToken ivV 8 [(0, .ref (ad 70))] [] s (b_X4_readToken_8 ih8 s)
  unfold b_X4_readToken_8
  refine go_aload_n 0 rfl dX4_readToken_8 rfl ?_
  refine go_getIL clX4 kt_70 4 (Nat.le_of_ble_eq_true rfl) (c := 2) (fun _ => rfl) kr_70 gw62 dX4_readToken_9 ?_
  refine go_aload_n 0 rfl dX4_readToken_12 rfl ?_
  refine go_getIL clX4 kt_70 1 (Nat.le_of_ble_eq_true rfl) (c := 0) (fun _ => rfl) kr_70 gw59 dX4_readToken_13 ?_
  refine go_icmp_ge (tgt := 45) dX4_readToken_16 (by decide) ?_ ?_
  · refine go_aload_n 0 rfl dX4_readToken_45 rfl ?_
    refine go_aload_n 0 rfl dX4_readToken_46 rfl ?_
    refine go_getIL clX4 kt_70 4 (Nat.le_of_ble_eq_true rfl) (c := 2) (fun _ => rfl) kr_70 gw62 dX4_readToken_47 ?_
    refine go_putIL clX4 kt_70 5 (Nat.le_of_ble_eq_true rfl) (c := 3) (fun _ => rfl) (by decide) kr_70 (fty := .int) (tyX4_ok 5 (Nat.le_of_ble_eq_true rfl)) rfl rfl rfl (fun _ => Nat.le_of_ble_eq_true rfl) gw61 dX4_readToken_50 ?_
    refine go_nmU (fun u2 => ?_)
    refine go_aload_n 0 rfl dX4_readToken_53 rfl ?_
    refine go_getIL clX4 kt_70 4 (Nat.le_of_ble_eq_true rfl) (c := 2) (fun _ => rfl) kr_70 gw62 dX4_readToken_54 ?_
    refine go_aload_n 0 rfl dX4_readToken_57 rfl ?_
    refine go_getIL clX4 kt_70 1 (Nat.le_of_ble_eq_true rfl) (c := 0) (fun _ => rfl) kr_70 gw59 dX4_readToken_58 ?_
    refine go_icmp_lt (tgt := 72) dX4_readToken_61 (by decide) ?_ ?_
    · refine go_aload_n 0 rfl dX4_readToken_72 rfl ?_
      refine go_aload_n 0 rfl dX4_readToken_73 rfl ?_
      refine go_getIL clX4 kt_70 4 (Nat.le_of_ble_eq_true rfl) (c := 2) (fun _ => rfl) kr_70 gw62 dX4_readToken_74 ?_
      refine go_callVI (As := fun ad => [.int (u2.1 7 2)]) (g_X4_byteAt (u2.1 7 2) u2) mv_X4_byteAt clX4 kt_70 gw63 rfl ⟨Nat.le_of_ble_eq_true rfl, Nat.le_of_ble_eq_true rfl⟩ rfl (Nat.le_of_ble_eq_true rfl) dX4_readToken_77 (fun r3 u4 => ?_)
      refine go_callSZ (As := fun ad => [.int r3]) (g_X4_isLetter r3 u4) mo_X4_isLetter gw64 gw65 rfl ⟨Nat.le_of_ble_eq_true rfl, Nat.le_of_ble_eq_true rfl⟩ rfl (Nat.le_of_ble_eq_true rfl) dX4_readToken_80 (fun r5 u6 => ?_)
      refine go_ifz_eq (tgt := 129) dX4_readToken_83 (by decide) ?_ ?_
      · refine go_aload_n 0 rfl dX4_readToken_129 rfl ?_
        refine go_aload_n 0 rfl dX4_readToken_130 rfl ?_
        refine go_getIL clX4 kt_70 4 (Nat.le_of_ble_eq_true rfl) (c := 2) (fun _ => rfl) kr_70 gw62 dX4_readToken_131 ?_
        refine go_callVI (As := fun ad => [.int (u6.1 7 2)]) (g_X4_byteAt (u6.1 7 2) u6) mv_X4_byteAt clX4 kt_70 gw63 rfl ⟨Nat.le_of_ble_eq_true rfl, Nat.le_of_ble_eq_true rfl⟩ rfl (Nat.le_of_ble_eq_true rfl) dX4_readToken_134 (fun r7 u8 => ?_)
        refine go_callSZ (As := fun ad => [.int r7]) (g_X4_isDigit r7 u8) mo_X4_isDigit gw66 gw67 rfl ⟨Nat.le_of_ble_eq_true rfl, Nat.le_of_ble_eq_true rfl⟩ rfl (Nat.le_of_ble_eq_true rfl) dX4_readToken_137 (fun r9 u10 => ?_)
        refine go_ifz_eq (tgt := 220) dX4_readToken_140 (by decide) ?_ ?_
        · refine go_aload_n 0 rfl dX4_readToken_220 rfl ?_
          refine go_aload_n 0 rfl dX4_readToken_221 rfl ?_
          refine go_aload_n 0 rfl dX4_readToken_222 rfl ?_
          refine go_getIL clX4 kt_70 4 (Nat.le_of_ble_eq_true rfl) (c := 2) (fun _ => rfl) kr_70 gw62 dX4_readToken_223 ?_
          refine go_callVI (As := fun ad => [.int (u10.1 7 2)]) (g_X4_byteAt (u10.1 7 2) u10) mv_X4_byteAt clX4 kt_70 gw63 rfl ⟨Nat.le_of_ble_eq_true rfl, Nat.le_of_ble_eq_true rfl⟩ rfl (Nat.le_of_ble_eq_true rfl) dX4_readToken_226 (fun r11 u12 => ?_)
          refine go_bipush (v := (59 : Int32)) dX4_readToken_229 (by decide) ?_
          refine go_icmp_ne (tgt := 238) dX4_readToken_231 (by decide) ?_ ?_
          · refine go_iconst (v := (4 : Int32)) dX4_readToken_238 (by decide) ?_
            refine go_putIL clX4 kt_70 3 (Nat.le_of_ble_eq_true rfl) (c := 1) (fun _ => rfl) (by decide) kr_70 (fty := .int) (tyX4_ok 3 (Nat.le_of_ble_eq_true rfl)) rfl rfl rfl (fun _ => Nat.le_of_ble_eq_true rfl) gw68 dX4_readToken_239 ?_
            refine go_nmU (fun u13 => ?_)
            refine go_aload_n 0 rfl dX4_readToken_242 rfl ?_
            refine go_aload_n 0 rfl dX4_readToken_243 rfl ?_
            refine go_getIL clX4 kt_70 4 (Nat.le_of_ble_eq_true rfl) (c := 2) (fun _ => rfl) kr_70 gw62 dX4_readToken_244 ?_
            refine go_iconst (v := (1 : Int32)) dX4_readToken_247 (by decide) ?_
            refine go_iadd dX4_readToken_248 ?_
            refine go_putIL clX4 kt_70 5 (Nat.le_of_ble_eq_true rfl) (c := 3) (fun _ => rfl) (by decide) kr_70 (fty := .int) (tyX4_ok 5 (Nat.le_of_ble_eq_true rfl)) rfl rfl rfl (fun _ => Nat.le_of_ble_eq_true rfl) gw61 dX4_readToken_249 ?_
            refine go_nmU (fun u14 => ?_)
            exact go_vret rfl dX4_readToken_252
          · refine go_iconst (v := (3 : Int32)) dX4_readToken_234 (by decide) ?_
            refine go_goto (tgt := 239) dX4_readToken_235 (by decide) ?_
            refine go_putIL clX4 kt_70 3 (Nat.le_of_ble_eq_true rfl) (c := 1) (fun _ => rfl) (by decide) kr_70 (fty := .int) (tyX4_ok 3 (Nat.le_of_ble_eq_true rfl)) rfl rfl rfl (fun _ => Nat.le_of_ble_eq_true rfl) gw68 dX4_readToken_239 ?_
            refine go_nmU (fun u15 => ?_)
            refine go_aload_n 0 rfl dX4_readToken_242 rfl ?_
            refine go_aload_n 0 rfl dX4_readToken_243 rfl ?_
            refine go_getIL clX4 kt_70 4 (Nat.le_of_ble_eq_true rfl) (c := 2) (fun _ => rfl) kr_70 gw62 dX4_readToken_244 ?_
            refine go_iconst (v := (1 : Int32)) dX4_readToken_247 (by decide) ?_
            refine go_iadd dX4_readToken_248 ?_
            refine go_putIL clX4 kt_70 5 (Nat.le_of_ble_eq_true rfl) (c := 3) (fun _ => rfl) (by decide) kr_70 (fty := .int) (tyX4_ok 5 (Nat.le_of_ble_eq_true rfl)) rfl rfl rfl (fun _ => Nat.le_of_ble_eq_true rfl) gw61 dX4_readToken_249 ?_
            refine go_nmU (fun u16 => ?_)
            exact go_vret rfl dX4_readToken_252
        · refine go_aload_n 0 rfl dX4_readToken_143 rfl ?_
          refine go_iconst (v := (2 : Int32)) dX4_readToken_144 (by decide) ?_
          refine go_putIL clX4 kt_70 3 (Nat.le_of_ble_eq_true rfl) (c := 1) (fun _ => rfl) (by decide) kr_70 (fty := .int) (tyX4_ok 3 (Nat.le_of_ble_eq_true rfl)) rfl rfl rfl (fun _ => Nat.le_of_ble_eq_true rfl) gw68 dX4_readToken_145 ?_
          refine go_nmU (fun u17 => ?_)
          refine go_aload_n 0 rfl dX4_readToken_148 rfl ?_
          refine go_iconst (v := (0 : Int32)) dX4_readToken_149 (by decide) ?_
          refine go_putIL clX4 kt_70 6 (Nat.le_of_ble_eq_true rfl) (c := 4) (fun _ => rfl) (by decide) kr_70 (fty := .int) (tyX4_ok 6 (Nat.le_of_ble_eq_true rfl)) rfl rfl rfl (fun _ => Nat.le_of_ble_eq_true rfl) gw69 dX4_readToken_150 ?_
          refine go_nmU (fun u18 => ?_)
          exact go_sub [0] rfl (gl_X4_readToken_153 X ad  2100 u18)
      · refine go_aload_n 0 rfl dX4_readToken_86 rfl ?_
        refine go_iconst (v := (1 : Int32)) dX4_readToken_87 (by decide) ?_
        refine go_putIL clX4 kt_70 3 (Nat.le_of_ble_eq_true rfl) (c := 1) (fun _ => rfl) (by decide) kr_70 (fty := .int) (tyX4_ok 3 (Nat.le_of_ble_eq_true rfl)) rfl rfl rfl (fun _ => Nat.le_of_ble_eq_true rfl) gw68 dX4_readToken_88 ?_
        refine go_nmU (fun u27 => ?_)
        exact go_sub [0] rfl (gl_X4_readToken_91 X ad  2100 u27)
    · refine go_aload_n 0 rfl dX4_readToken_64 rfl ?_
      refine go_iconst (v := (0 : Int32)) dX4_readToken_65 (by decide) ?_
      refine go_putIL clX4 kt_70 3 (Nat.le_of_ble_eq_true rfl) (c := 1) (fun _ => rfl) (by decide) kr_70 (fty := .int) (tyX4_ok 3 (Nat.le_of_ble_eq_true rfl)) rfl rfl rfl (fun _ => Nat.le_of_ble_eq_true rfl) gw68 dX4_readToken_66 ?_
      refine go_nmU (fun u33 => ?_)
      refine go_goto (tgt := 252) dX4_readToken_69 (by decide) ?_
      exact go_vret rfl dX4_readToken_252
  · refine go_aload_n 0 rfl dX4_readToken_19 rfl ?_
    refine go_aload_n 0 rfl dX4_readToken_20 rfl ?_
    refine go_getIL clX4 kt_70 4 (Nat.le_of_ble_eq_true rfl) (c := 2) (fun _ => rfl) kr_70 gw62 dX4_readToken_21 ?_
    refine go_callVI (As := fun ad => [.int (s.1 7 2)]) (g_X4_byteAt (s.1 7 2) s) mv_X4_byteAt clX4 kt_70 gw63 rfl ⟨Nat.le_of_ble_eq_true rfl, Nat.le_of_ble_eq_true rfl⟩ rfl (Nat.le_of_ble_eq_true rfl) dX4_readToken_24 (fun r34 u35 => ?_)
    refine go_bipush (v := (32 : Int32)) dX4_readToken_27 (by decide) ?_
    refine go_icmp_ne (tgt := 45) dX4_readToken_29 (by decide) ?_ ?_
    · refine go_aload_n 0 rfl dX4_readToken_45 rfl ?_
      refine go_aload_n 0 rfl dX4_readToken_46 rfl ?_
      refine go_getIL clX4 kt_70 4 (Nat.le_of_ble_eq_true rfl) (c := 2) (fun _ => rfl) kr_70 gw62 dX4_readToken_47 ?_
      refine go_putIL clX4 kt_70 5 (Nat.le_of_ble_eq_true rfl) (c := 3) (fun _ => rfl) (by decide) kr_70 (fty := .int) (tyX4_ok 5 (Nat.le_of_ble_eq_true rfl)) rfl rfl rfl (fun _ => Nat.le_of_ble_eq_true rfl) gw61 dX4_readToken_50 ?_
      refine go_nmU (fun u36 => ?_)
      refine go_aload_n 0 rfl dX4_readToken_53 rfl ?_
      refine go_getIL clX4 kt_70 4 (Nat.le_of_ble_eq_true rfl) (c := 2) (fun _ => rfl) kr_70 gw62 dX4_readToken_54 ?_
      refine go_aload_n 0 rfl dX4_readToken_57 rfl ?_
      refine go_getIL clX4 kt_70 1 (Nat.le_of_ble_eq_true rfl) (c := 0) (fun _ => rfl) kr_70 gw59 dX4_readToken_58 ?_
      refine go_icmp_lt (tgt := 72) dX4_readToken_61 (by decide) ?_ ?_
      · refine go_aload_n 0 rfl dX4_readToken_72 rfl ?_
        refine go_aload_n 0 rfl dX4_readToken_73 rfl ?_
        refine go_getIL clX4 kt_70 4 (Nat.le_of_ble_eq_true rfl) (c := 2) (fun _ => rfl) kr_70 gw62 dX4_readToken_74 ?_
        refine go_callVI (As := fun ad => [.int (u36.1 7 2)]) (g_X4_byteAt (u36.1 7 2) u36) mv_X4_byteAt clX4 kt_70 gw63 rfl ⟨Nat.le_of_ble_eq_true rfl, Nat.le_of_ble_eq_true rfl⟩ rfl (Nat.le_of_ble_eq_true rfl) dX4_readToken_77 (fun r37 u38 => ?_)
        refine go_callSZ (As := fun ad => [.int r37]) (g_X4_isLetter r37 u38) mo_X4_isLetter gw64 gw65 rfl ⟨Nat.le_of_ble_eq_true rfl, Nat.le_of_ble_eq_true rfl⟩ rfl (Nat.le_of_ble_eq_true rfl) dX4_readToken_80 (fun r39 u40 => ?_)
        refine go_ifz_eq (tgt := 129) dX4_readToken_83 (by decide) ?_ ?_
        · refine go_aload_n 0 rfl dX4_readToken_129 rfl ?_
          refine go_aload_n 0 rfl dX4_readToken_130 rfl ?_
          refine go_getIL clX4 kt_70 4 (Nat.le_of_ble_eq_true rfl) (c := 2) (fun _ => rfl) kr_70 gw62 dX4_readToken_131 ?_
          refine go_callVI (As := fun ad => [.int (u40.1 7 2)]) (g_X4_byteAt (u40.1 7 2) u40) mv_X4_byteAt clX4 kt_70 gw63 rfl ⟨Nat.le_of_ble_eq_true rfl, Nat.le_of_ble_eq_true rfl⟩ rfl (Nat.le_of_ble_eq_true rfl) dX4_readToken_134 (fun r41 u42 => ?_)
          refine go_callSZ (As := fun ad => [.int r41]) (g_X4_isDigit r41 u42) mo_X4_isDigit gw66 gw67 rfl ⟨Nat.le_of_ble_eq_true rfl, Nat.le_of_ble_eq_true rfl⟩ rfl (Nat.le_of_ble_eq_true rfl) dX4_readToken_137 (fun r43 u44 => ?_)
          refine go_ifz_eq (tgt := 220) dX4_readToken_140 (by decide) ?_ ?_
          · refine go_aload_n 0 rfl dX4_readToken_220 rfl ?_
            refine go_aload_n 0 rfl dX4_readToken_221 rfl ?_
            refine go_aload_n 0 rfl dX4_readToken_222 rfl ?_
            refine go_getIL clX4 kt_70 4 (Nat.le_of_ble_eq_true rfl) (c := 2) (fun _ => rfl) kr_70 gw62 dX4_readToken_223 ?_
            refine go_callVI (As := fun ad => [.int (u44.1 7 2)]) (g_X4_byteAt (u44.1 7 2) u44) mv_X4_byteAt clX4 kt_70 gw63 rfl ⟨Nat.le_of_ble_eq_true rfl, Nat.le_of_ble_eq_true rfl⟩ rfl (Nat.le_of_ble_eq_true rfl) dX4_readToken_226 (fun r45 u46 => ?_)
            refine go_bipush (v := (59 : Int32)) dX4_readToken_229 (by decide) ?_
            refine go_icmp_ne (tgt := 238) dX4_readToken_231 (by decide) ?_ ?_
            · refine go_iconst (v := (4 : Int32)) dX4_readToken_238 (by decide) ?_
              refine go_putIL clX4 kt_70 3 (Nat.le_of_ble_eq_true rfl) (c := 1) (fun _ => rfl) (by decide) kr_70 (fty := .int) (tyX4_ok 3 (Nat.le_of_ble_eq_true rfl)) rfl rfl rfl (fun _ => Nat.le_of_ble_eq_true rfl) gw68 dX4_readToken_239 ?_
              refine go_nmU (fun u47 => ?_)
              refine go_aload_n 0 rfl dX4_readToken_242 rfl ?_
              refine go_aload_n 0 rfl dX4_readToken_243 rfl ?_
              refine go_getIL clX4 kt_70 4 (Nat.le_of_ble_eq_true rfl) (c := 2) (fun _ => rfl) kr_70 gw62 dX4_readToken_244 ?_
              refine go_iconst (v := (1 : Int32)) dX4_readToken_247 (by decide) ?_
              refine go_iadd dX4_readToken_248 ?_
              refine go_putIL clX4 kt_70 5 (Nat.le_of_ble_eq_true rfl) (c := 3) (fun _ => rfl) (by decide) kr_70 (fty := .int) (tyX4_ok 5 (Nat.le_of_ble_eq_true rfl)) rfl rfl rfl (fun _ => Nat.le_of_ble_eq_true rfl) gw61 dX4_readToken_249 ?_
              refine go_nmU (fun u48 => ?_)
              exact go_vret rfl dX4_readToken_252
            · refine go_iconst (v := (3 : Int32)) dX4_readToken_234 (by decide) ?_
              refine go_goto (tgt := 239) dX4_readToken_235 (by decide) ?_
              refine go_putIL clX4 kt_70 3 (Nat.le_of_ble_eq_true rfl) (c := 1) (fun _ => rfl) (by decide) kr_70 (fty := .int) (tyX4_ok 3 (Nat.le_of_ble_eq_true rfl)) rfl rfl rfl (fun _ => Nat.le_of_ble_eq_true rfl) gw68 dX4_readToken_239 ?_
              refine go_nmU (fun u49 => ?_)
              refine go_aload_n 0 rfl dX4_readToken_242 rfl ?_
              refine go_aload_n 0 rfl dX4_readToken_243 rfl ?_
              refine go_getIL clX4 kt_70 4 (Nat.le_of_ble_eq_true rfl) (c := 2) (fun _ => rfl) kr_70 gw62 dX4_readToken_244 ?_
              refine go_iconst (v := (1 : Int32)) dX4_readToken_247 (by decide) ?_
              refine go_iadd dX4_readToken_248 ?_
              refine go_putIL clX4 kt_70 5 (Nat.le_of_ble_eq_true rfl) (c := 3) (fun _ => rfl) (by decide) kr_70 (fty := .int) (tyX4_ok 5 (Nat.le_of_ble_eq_true rfl)) rfl rfl rfl (fun _ => Nat.le_of_ble_eq_true rfl) gw61 dX4_readToken_249 ?_
              refine go_nmU (fun u50 => ?_)
              exact go_vret rfl dX4_readToken_252
          · refine go_aload_n 0 rfl dX4_readToken_143 rfl ?_
            refine go_iconst (v := (2 : Int32)) dX4_readToken_144 (by decide) ?_
            refine go_putIL clX4 kt_70 3 (Nat.le_of_ble_eq_true rfl) (c := 1) (fun _ => rfl) (by decide) kr_70 (fty := .int) (tyX4_ok 3 (Nat.le_of_ble_eq_true rfl)) rfl rfl rfl (fun _ => Nat.le_of_ble_eq_true rfl) gw68 dX4_readToken_145 ?_
            refine go_nmU (fun u51 => ?_)
            refine go_aload_n 0 rfl dX4_readToken_148 rfl ?_
            refine go_iconst (v := (0 : Int32)) dX4_readToken_149 (by decide) ?_
            refine go_putIL clX4 kt_70 6 (Nat.le_of_ble_eq_true rfl) (c := 4) (fun _ => rfl) (by decide) kr_70 (fty := .int) (tyX4_ok 6 (Nat.le_of_ble_eq_true rfl)) rfl rfl rfl (fun _ => Nat.le_of_ble_eq_true rfl) gw69 dX4_readToken_150 ?_
            refine go_nmU (fun u52 => ?_)
            exact go_sub [0] rfl (gl_X4_readToken_153 X ad  2100 u52)
        · refine go_aload_n 0 rfl dX4_readToken_86 rfl ?_
          refine go_iconst (v := (1 : Int32)) dX4_readToken_87 (by decide) ?_
          refine go_putIL clX4 kt_70 3 (Nat.le_of_ble_eq_true rfl) (c := 1) (fun _ => rfl) (by decide) kr_70 (fty := .int) (tyX4_ok 3 (Nat.le_of_ble_eq_true rfl)) rfl rfl rfl (fun _ => Nat.le_of_ble_eq_true rfl) gw68 dX4_readToken_88 ?_
          refine go_nmU (fun u53 => ?_)
          exact go_sub [0] rfl (gl_X4_readToken_91 X ad  2100 u53)
      · refine go_aload_n 0 rfl dX4_readToken_64 rfl ?_
        refine go_iconst (v := (0 : Int32)) dX4_readToken_65 (by decide) ?_
        refine go_putIL clX4 kt_70 3 (Nat.le_of_ble_eq_true rfl) (c := 1) (fun _ => rfl) (by decide) kr_70 (fty := .int) (tyX4_ok 3 (Nat.le_of_ble_eq_true rfl)) rfl rfl rfl (fun _ => Nat.le_of_ble_eq_true rfl) gw68 dX4_readToken_66 ?_
        refine go_nmU (fun u54 => ?_)
        refine go_goto (tgt := 252) dX4_readToken_69 (by decide) ?_
        exact go_vret rfl dX4_readToken_252
    · refine go_aload_n 0 rfl dX4_readToken_32 rfl ?_
      refine go_dup dX4_readToken_33 rfl ?_
      refine go_getIL clX4 kt_70 4 (Nat.le_of_ble_eq_true rfl) (c := 2) (fun _ => rfl) kr_70 gw62 dX4_readToken_34 ?_
      refine go_iconst (v := (1 : Int32)) dX4_readToken_37 (by decide) ?_
      refine go_iadd dX4_readToken_38 ?_
      refine go_putIL clX4 kt_70 4 (Nat.le_of_ble_eq_true rfl) (c := 2) (fun _ => rfl) (by decide) kr_70 (fty := .int) (tyX4_ok 4 (Nat.le_of_ble_eq_true rfl)) rfl rfl rfl (fun _ => Nat.le_of_ble_eq_true rfl) gw62 dX4_readToken_39 ?_
      refine go_nmU (fun u55 => ?_)
      refine go_goto (tgt := 8) dX4_readToken_42 (by decide) ?_
      exact go_sub [0] rfl (hih8 u55)
set_option maxHeartbeats 4000000 in
set_option maxRecDepth 100000 in
theorem g_X4_readToken (u : Uw) : ∀ l, Con l yX4_readToken mi_X4_readToken ivV (fun ad => [.ref (ad 70)]) u (f_X4_readToken u) := by
  refine con_of (by decide) rfl (fun _ => Nat.le_of_ble_eq_true rfl) (fun X ad => ?_)
  show Go X ad mi_X4_readToken ivV 0 [(0, .ref (ad 70))] [] u (f_X4_readToken u)
  unfold f_X4_readToken
  refine go_aload_n 0 rfl dX4_readToken_0 rfl ?_
  refine go_aload_n 0 rfl dX4_readToken_1 rfl ?_
  refine go_getIL clX4 kt_70 5 (Nat.le_of_ble_eq_true rfl) (c := 3) (fun _ => rfl) kr_70 gw61 dX4_readToken_2 ?_
  refine go_putIL clX4 kt_70 4 (Nat.le_of_ble_eq_true rfl) (c := 2) (fun _ => rfl) (by decide) kr_70 (fty := .int) (tyX4_ok 4 (Nat.le_of_ble_eq_true rfl)) rfl rfl rfl (fun _ => Nat.le_of_ble_eq_true rfl) gw62 dX4_readToken_5 ?_
  refine go_nmU (fun u1 => ?_)
  exact go_sub [0] rfl (gl_X4_readToken_8 X ad  2100 u1)
def f_J0_coder_7d493 (a0 : Nat) (u : Uw) : Option (Int32 × Uw) :=
  ck (isS a0) <|
  some ((0 : Int32), u)
set_option maxHeartbeats 4000000 in
set_option maxRecDepth 100000 in
theorem g_J0_coder_7d493 (a0 : Nat) (u : Uw) : ∀ l, Con l yJ0_coder_7d493 mi_J0_coder_7d493 ivI (fun ad => [.ref (ad a0)]) u (f_J0_coder_7d493 a0 u) := by
  refine con_of (by decide) rfl (fun _ => Nat.le_of_ble_eq_true rfl) (fun X ad => ?_)
  show Go X ad mi_J0_coder_7d493 ivI 0 [(0, .ref (ad a0))] [] u (f_J0_coder_7d493 a0 u)
  unfold f_J0_coder_7d493
  refine go_getcs gw71 dJ0_coder_7d493_0 ?_
  refine go_if_eq_f (tgt := 13) (by decide) dJ0_coder_7d493_3 (by decide) ?_
  refine go_aload_n 0 rfl dJ0_coder_7d493_6 rfl ?_
  refine go_ck (fun h1 => ?_)
  refine go_getsc h1 gw72 dJ0_coder_7d493_7 ?_
  refine go_goto (tgt := 14) dJ0_coder_7d493_10 (by decide) ?_
  exact go_bret0 rfl dJ0_coder_7d493_14
def f_J0_length_8abf5 (a0 : Nat) (u : Uw) : Option (Int32 × Uw) :=
  ck (isS a0) <|
  ck (isV (a0 + 20)) <|
  bd (f_J0_coder_7d493 a0 u) fun r3 u4 =>
  some (((Int32.ofNat (stL.getD ((a0 + 20) - 130) 0)) >>> (r3 &&& 31)), u4)
set_option maxHeartbeats 4000000 in
set_option maxRecDepth 100000 in
theorem g_J0_length_8abf5 (a0 : Nat) (u : Uw) : ∀ l, Con l yJ0_length_8abf5 mi_J0_length_8abf5 ivI (fun ad => [.ref (ad a0)]) u (f_J0_length_8abf5 a0 u) := by
  refine con_of (by decide) rfl (fun _ => Nat.le_of_ble_eq_true rfl) (fun X ad => ?_)
  show Go X ad mi_J0_length_8abf5 ivI 0 [(0, .ref (ad a0))] [] u (f_J0_length_8abf5 a0 u)
  unfold f_J0_length_8abf5
  refine go_aload_n 0 rfl dJ0_length_8abf5_0 rfl ?_
  refine go_ck (fun h1 => ?_)
  refine go_getsv h1 gw73 dJ0_length_8abf5_1 ?_
  refine go_ck (fun h2 => ?_)
  refine go_alenV h2 dJ0_length_8abf5_4 ?_
  refine go_aload_n 0 rfl dJ0_length_8abf5_5 rfl ?_
  refine go_callTI (As := fun ad => []) (g_J0_coder_7d493 a0 u) mv_J0_coder_7d493 h1 gw74 rfl ⟨Nat.le_of_ble_eq_true rfl, Nat.le_of_ble_eq_true rfl⟩ rfl (Nat.le_of_ble_eq_true rfl) dJ0_length_8abf5_6 (fun r3 u4 => ?_)
  refine go_ishr dJ0_length_8abf5_9 ?_
  exact go_iret rfl dJ0_length_8abf5_10
