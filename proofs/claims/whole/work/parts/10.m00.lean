/-! methods: what each does to the world, and that its bytecode does so (laid by wip/whole/gen) -/
def f_X0_isField (a0 : Int32) (u : Uw) : Option (Bool × Uw) :=
  if a0 < 0 then
  (some (false, u))
  else
  (if (5 : Int32) ≤ a0 then
  (some (false, u))
  else
  (some (true, u)))
set_option maxHeartbeats 4000000 in
set_option maxRecDepth 100000 in
theorem g_X0_isField (a0 : Int32) (u : Uw) : ∀ l, Con l yX0_isField mi_X0_isField ivZ (fun ad => [.int a0]) u (f_X0_isField a0 u) := by
  refine con_of (by decide) rfl (fun _ => Nat.le_of_ble_eq_true rfl) (fun X ad => ?_)
  show Go X ad mi_X0_isField ivZ 0 [(0, .int a0)] [] u (f_X0_isField a0 u)
  unfold f_X0_isField
  refine go_iload_n 0 rfl dX0_isField_0 rfl ?_
  refine go_if_lt (tgt := 13) dX0_isField_1 (by decide) ?_ ?_
  · refine go_iconst (v := (0 : Int32)) dX0_isField_13 (by decide) ?_
    exact go_zret (b := false) rfl dX0_isField_14
  · refine go_iload_n 0 rfl dX0_isField_4 rfl ?_
    refine go_iconst (v := (5 : Int32)) dX0_isField_5 (by decide) ?_
    refine go_icmp_ge (tgt := 13) dX0_isField_6 (by decide) ?_ ?_
    · refine go_iconst (v := (0 : Int32)) dX0_isField_13 (by decide) ?_
      exact go_zret (b := false) rfl dX0_isField_14
    · refine go_iconst (v := (1 : Int32)) dX0_isField_9 (by decide) ?_
      refine go_goto (tgt := 14) dX0_isField_10 (by decide) ?_
      exact go_zret (b := true) rfl dX0_isField_14
def f_X0_allows (a0 : Int32) (a1 : Int32) (u : Uw) : Option (Bool × Uw) :=
  bd (f_X0_isField a0 u) fun r1 u2 =>
  if r1 = true then
  (ck (inb a0 5) <|
  nm (tbv 0 a0.toNatClampNeg) fun x4 =>
  if a1 < x4 then
  (some (false, u2))
  else
  (nm (tbv 1 a0.toNatClampNeg) fun x5 =>
  if x5 < a1 then
  (some (false, u2))
  else
  (some (true, u2))))
  else
  (some (false, u2))
set_option maxHeartbeats 4000000 in
set_option maxRecDepth 100000 in
theorem g_X0_allows (a0 : Int32) (a1 : Int32) (u : Uw) : ∀ l, Con l yX0_allows mi_X0_allows ivZ (fun ad => [.int a0, .int a1]) u (f_X0_allows a0 a1 u) := by
  refine con_of (by decide) rfl (fun _ => Nat.le_of_ble_eq_true rfl) (fun X ad => ?_)
  show Go X ad mi_X0_allows ivZ 0 [(0, .int a0), (1, .int a1)] [] u (f_X0_allows a0 a1 u)
  unfold f_X0_allows
  refine go_iload_n 0 rfl dX0_allows_0 rfl ?_
  refine go_callSZ (As := fun ad => [.int a0]) (g_X0_isField a0 u) mo_X0_isField gw0 gw1 rfl ⟨Nat.le_of_ble_eq_true rfl, Nat.le_of_ble_eq_true rfl⟩ rfl (Nat.le_of_ble_eq_true rfl) dX0_allows_1 (fun r1 u2 => ?_)
  refine go_ifz_eq (tgt := 29) dX0_allows_4 (by decide) ?_ ?_
  · refine go_iconst (v := (0 : Int32)) dX0_allows_29 (by decide) ?_
    exact go_zret (b := false) rfl dX0_allows_30
  · refine go_iload_n 1 rfl dX0_allows_7 rfl ?_
    refine go_gett 0 (by decide) gw2 dX0_allows_8 ?_
    refine go_iload_n 0 rfl dX0_allows_11 rfl ?_
    refine go_ck (fun h3 => ?_)
    refine go_tald 0 (by decide) h3 dX0_allows_12 ?_
    refine go_nm (fun x4 => ?_)
    refine go_icmp_lt (tgt := 29) dX0_allows_13 (by decide) ?_ ?_
    · refine go_iconst (v := (0 : Int32)) dX0_allows_29 (by decide) ?_
      exact go_zret (b := false) rfl dX0_allows_30
    · refine go_iload_n 1 rfl dX0_allows_16 rfl ?_
      refine go_gett 1 (by decide) gw3 dX0_allows_17 ?_
      refine go_iload_n 0 rfl dX0_allows_20 rfl ?_
      refine go_tald 1 (by decide) h3 dX0_allows_21 ?_
      refine go_nm (fun x5 => ?_)
      refine go_icmp_gt (tgt := 29) dX0_allows_22 (by decide) ?_ ?_
      · refine go_iconst (v := (0 : Int32)) dX0_allows_29 (by decide) ?_
        exact go_zret (b := false) rfl dX0_allows_30
      · refine go_iconst (v := (1 : Int32)) dX0_allows_25 (by decide) ?_
        refine go_goto (tgt := 30) dX0_allows_26 (by decide) ?_
        exact go_zret (b := true) rfl dX0_allows_30
def f_X0_least (a0 : Int32) (u : Uw) : Option (Int32 × Uw) :=
  bd (f_X0_isField a0 u) fun r1 u2 =>
  if r1 = true then
  (ck (inb a0 5) <|
  nm (tbv 0 a0.toNatClampNeg) fun x4 =>
  some (x4, u2))
  else
  (some ((0 : Int32), u2))
set_option maxHeartbeats 4000000 in
set_option maxRecDepth 100000 in
theorem g_X0_least (a0 : Int32) (u : Uw) : ∀ l, Con l yX0_least mi_X0_least ivI (fun ad => [.int a0]) u (f_X0_least a0 u) := by
  refine con_of (by decide) rfl (fun _ => Nat.le_of_ble_eq_true rfl) (fun X ad => ?_)
  show Go X ad mi_X0_least ivI 0 [(0, .int a0)] [] u (f_X0_least a0 u)
  unfold f_X0_least
  refine go_iload_n 0 rfl dX0_least_0 rfl ?_
  refine go_callSZ (As := fun ad => [.int a0]) (g_X0_isField a0 u) mo_X0_isField gw0 gw1 rfl ⟨Nat.le_of_ble_eq_true rfl, Nat.le_of_ble_eq_true rfl⟩ rfl (Nat.le_of_ble_eq_true rfl) dX0_least_1 (fun r1 u2 => ?_)
  refine go_ifz_eq (tgt := 15) dX0_least_4 (by decide) ?_ ?_
  · refine go_iconst (v := (0 : Int32)) dX0_least_15 (by decide) ?_
    exact go_iret rfl dX0_least_16
  · refine go_gett 0 (by decide) gw2 dX0_least_7 ?_
    refine go_iload_n 0 rfl dX0_least_10 rfl ?_
    refine go_ck (fun h3 => ?_)
    refine go_tald 0 (by decide) h3 dX0_least_11 ?_
    refine go_nm (fun x4 => ?_)
    refine go_goto (tgt := 16) dX0_least_12 (by decide) ?_
    exact go_iret rfl dX0_least_16
def f_X0_greatest (a0 : Int32) (u : Uw) : Option (Int32 × Uw) :=
  bd (f_X0_isField a0 u) fun r1 u2 =>
  if r1 = true then
  (ck (inb a0 5) <|
  nm (tbv 1 a0.toNatClampNeg) fun x4 =>
  some (x4, u2))
  else
  (some ((0 : Int32), u2))
set_option maxHeartbeats 4000000 in
set_option maxRecDepth 100000 in
theorem g_X0_greatest (a0 : Int32) (u : Uw) : ∀ l, Con l yX0_greatest mi_X0_greatest ivI (fun ad => [.int a0]) u (f_X0_greatest a0 u) := by
  refine con_of (by decide) rfl (fun _ => Nat.le_of_ble_eq_true rfl) (fun X ad => ?_)
  show Go X ad mi_X0_greatest ivI 0 [(0, .int a0)] [] u (f_X0_greatest a0 u)
  unfold f_X0_greatest
  refine go_iload_n 0 rfl dX0_greatest_0 rfl ?_
  refine go_callSZ (As := fun ad => [.int a0]) (g_X0_isField a0 u) mo_X0_isField gw0 gw1 rfl ⟨Nat.le_of_ble_eq_true rfl, Nat.le_of_ble_eq_true rfl⟩ rfl (Nat.le_of_ble_eq_true rfl) dX0_greatest_1 (fun r1 u2 => ?_)
  refine go_ifz_eq (tgt := 15) dX0_greatest_4 (by decide) ?_ ?_
  · refine go_iconst (v := (0 : Int32)) dX0_greatest_15 (by decide) ?_
    exact go_iret rfl dX0_greatest_16
  · refine go_gett 1 (by decide) gw3 dX0_greatest_7 ?_
    refine go_iload_n 0 rfl dX0_greatest_10 rfl ?_
    refine go_ck (fun h3 => ?_)
    refine go_tald 1 (by decide) h3 dX0_greatest_11 ?_
    refine go_nm (fun x4 => ?_)
    refine go_goto (tgt := 16) dX0_greatest_12 (by decide) ?_
    exact go_iret rfl dX0_greatest_16
def f_X0_startAs (a0 : Nat) (a1 : Int32) (u : Uw) : Option (Unit × Uw) :=
  ck (kT a0 == 0) <|
  ck (kT (kN a0) == 10) <|
  ck (decide (5 ≤ kL (kN a0))) <|
  nm (cp1 u (tbv 2) (kR (kN a0)) (kO (kN a0)) 5) fun u4 =>
  ck (inb (0 : Int32) (kL (kN a0))) <|
  nm (w1 u4 (kR (kN a0)) (kO (kN a0) + (0 : Int32).toNatClampNeg) a1) fun u6 =>
  some ((), u6)
set_option maxHeartbeats 4000000 in
set_option maxRecDepth 100000 in
theorem g_X0_startAs (a0 : Nat) (a1 : Int32) (u : Uw) : ∀ l, Con l yX0_startAs mi_X0_startAs ivV (fun ad => [.ref (ad a0), .int a1]) u (f_X0_startAs a0 a1 u) := by
  refine con_of (by decide) rfl (fun _ => Nat.le_of_ble_eq_true rfl) (fun X ad => ?_)
  show Go X ad mi_X0_startAs ivV 0 [(0, .ref (ad a0)), (1, .int a1)] [] u (f_X0_startAs a0 a1 u)
  unfold f_X0_startAs
  refine go_gett 2 (by decide) gw4 dX0_startAs_0 ?_
  refine go_iconst (v := (0 : Int32)) dX0_startAs_3 (by decide) ?_
  refine go_aload_n 0 rfl dX0_startAs_4 rfl ?_
  refine go_ck (fun h1 => ?_)
  refine go_getR clX0 h1 0 (Nat.le_of_ble_eq_true rfl) (f := (kN a0)) (fun _ => rfl) gw5 dX0_startAs_5 ?_
  refine go_iconst (v := (0 : Int32)) dX0_startAs_8 (by decide) ?_
  refine go_iconst (v := (5 : Int32)) dX0_startAs_9 (by decide) ?_
  refine go_ck (fun h2 => ?_)
  refine go_ck (fun h3 => ?_)
  refine go_copyt 2 (by decide) h2 h3 gw6 gw7 gw8 gw9 (Nat.le_of_ble_eq_true rfl) (Nat.le_of_ble_eq_true rfl) dX0_startAs_10 ?_
  refine go_nmU (fun u4 => ?_)
  refine go_aload_n 0 rfl dX0_startAs_13 rfl ?_
  refine go_getR clX0 h1 0 (Nat.le_of_ble_eq_true rfl) (f := (kN a0)) (fun _ => rfl) gw5 dX0_startAs_14 ?_
  refine go_iconst (v := (0 : Int32)) dX0_startAs_17 (by decide) ?_
  refine go_iload_n 1 rfl dX0_startAs_18 rfl ?_
  refine go_ck (fun h5 => ?_)
  refine go_iast h2 h5 dX0_startAs_19 ?_
  refine go_nmU (fun u6 => ?_)
  exact go_vret rfl dX0_startAs_20
def f_X0_become (a0 : Nat) (a1 : Nat) (u : Uw) : Option (Unit × Uw) :=
  ck (kT a1 == 0) <|
  ck (kT a0 == 0) <|
  ck (kT (kN a0) == 10) <|
  ck (kT (kN a1) == 10) <|
  ck (cpok (0 : Int32) (0 : Int32) (5 : Int32) (kL (kN a1)) (kL (kN a0))) <|
  nm (cp1 u (fun i => u.1 (kR (kN a1)) (kO (kN a1) + ((0 : Int32).toNatClampNeg + i))) (kR (kN a0)) (kO (kN a0) + (0 : Int32).toNatClampNeg) (5 : Int32).toNatClampNeg) fun u6 =>
  some ((), u6)
set_option maxHeartbeats 4000000 in
set_option maxRecDepth 100000 in
theorem g_X0_become (a0 : Nat) (a1 : Nat) (u : Uw) : ∀ l, Con l yX0_become mi_X0_become ivV (fun ad => [.ref (ad a0), .ref (ad a1)]) u (f_X0_become a0 a1 u) := by
  refine con_of (by decide) rfl (fun _ => Nat.le_of_ble_eq_true rfl) (fun X ad => ?_)
  show Go X ad mi_X0_become ivV 0 [(0, .ref (ad a0)), (1, .ref (ad a1))] [] u (f_X0_become a0 a1 u)
  unfold f_X0_become
  refine go_aload_n 1 rfl dX0_become_0 rfl ?_
  refine go_ck (fun h1 => ?_)
  refine go_getR clX0 h1 0 (Nat.le_of_ble_eq_true rfl) (f := (kN a1)) (fun _ => rfl) gw5 dX0_become_1 ?_
  refine go_iconst (v := (0 : Int32)) dX0_become_4 (by decide) ?_
  refine go_aload_n 0 rfl dX0_become_5 rfl ?_
  refine go_ck (fun h2 => ?_)
  refine go_getR clX0 h2 0 (Nat.le_of_ble_eq_true rfl) (f := (kN a0)) (fun _ => rfl) gw5 dX0_become_6 ?_
  refine go_iconst (v := (0 : Int32)) dX0_become_9 (by decide) ?_
  refine go_iconst (v := (5 : Int32)) dX0_become_10 (by decide) ?_
  refine go_ck (fun h3 => ?_)
  refine go_ck (fun h4 => ?_)
  refine go_ck (fun h5 => ?_)
  refine go_copyi h4 h3 h5 gw6 gw7 gw8 gw9 (Nat.le_of_ble_eq_true rfl) (Nat.le_of_ble_eq_true rfl) dX0_become_11 ?_
  refine go_nmU (fun u6 => ?_)
  exact go_vret rfl dX0_become_14
def f_X0_value (a0 : Nat) (a1 : Int32) (u : Uw) : Option (Int32 × Uw) :=
  bd (f_X0_isField a1 u) fun r1 u2 =>
  if r1 = true then
  (ck (kT a0 == 0) <|
  ck (kT (kN a0) == 10) <|
  ck (inb a1 (kL (kN a0))) <|
  nm (u2.1 (kR (kN a0)) (kO (kN a0) + a1.toNatClampNeg)) fun x6 =>
  some (x6, u2))
  else
  (some ((0 : Int32), u2))
set_option maxHeartbeats 4000000 in
set_option maxRecDepth 100000 in
theorem g_X0_value (a0 : Nat) (a1 : Int32) (u : Uw) : ∀ l, Con l yX0_value mi_X0_value ivI (fun ad => [.ref (ad a0), .int a1]) u (f_X0_value a0 a1 u) := by
  refine con_of (by decide) rfl (fun _ => Nat.le_of_ble_eq_true rfl) (fun X ad => ?_)
  show Go X ad mi_X0_value ivI 0 [(0, .ref (ad a0)), (1, .int a1)] [] u (f_X0_value a0 a1 u)
  unfold f_X0_value
  refine go_iload_n 1 rfl dX0_value_0 rfl ?_
  refine go_callSZ (As := fun ad => [.int a1]) (g_X0_isField a1 u) mo_X0_isField gw0 gw1 rfl ⟨Nat.le_of_ble_eq_true rfl, Nat.le_of_ble_eq_true rfl⟩ rfl (Nat.le_of_ble_eq_true rfl) dX0_value_1 (fun r1 u2 => ?_)
  refine go_ifz_eq (tgt := 16) dX0_value_4 (by decide) ?_ ?_
  · refine go_iconst (v := (0 : Int32)) dX0_value_16 (by decide) ?_
    exact go_iret rfl dX0_value_17
  · refine go_aload_n 0 rfl dX0_value_7 rfl ?_
    refine go_ck (fun h3 => ?_)
    refine go_getR clX0 h3 0 (Nat.le_of_ble_eq_true rfl) (f := (kN a0)) (fun _ => rfl) gw5 dX0_value_8 ?_
    refine go_iload_n 1 rfl dX0_value_11 rfl ?_
    refine go_ck (fun h4 => ?_)
    refine go_ck (fun h5 => ?_)
    refine go_iald h4 h5 dX0_value_12 ?_
    refine go_nm (fun x6 => ?_)
    refine go_goto (tgt := 17) dX0_value_13 (by decide) ?_
    exact go_iret rfl dX0_value_17
def f_X0_change (a0 : Nat) (a1 : Int32) (a2 : Int32) (u : Uw) : Option (Int32 × Uw) :=
  bd (f_X0_allows a1 a2 u) fun r1 u2 =>
  if r1 = true then
  (ck (kT a0 == 0) <|
  ck (kT (kN a0) == 10) <|
  ck (inb a1 (kL (kN a0))) <|
  nm (u2.1 (kR (kN a0)) (kO (kN a0) + a1.toNatClampNeg)) fun x6 =>
  nm (w1 u2 (kR (kN a0)) (kO (kN a0) + a1.toNatClampNeg) a2) fun u7 =>
  some (x6, u7))
  else
  (some ((0 : Int32), u2))
set_option maxHeartbeats 4000000 in
set_option maxRecDepth 100000 in
theorem g_X0_change (a0 : Nat) (a1 : Int32) (a2 : Int32) (u : Uw) : ∀ l, Con l yX0_change mi_X0_change ivI (fun ad => [.ref (ad a0), .int a1, .int a2]) u (f_X0_change a0 a1 a2 u) := by
  refine con_of (by decide) rfl (fun _ => Nat.le_of_ble_eq_true rfl) (fun X ad => ?_)
  show Go X ad mi_X0_change ivI 0 [(0, .ref (ad a0)), (1, .int a1), (2, .int a2)] [] u (f_X0_change a0 a1 a2 u)
  unfold f_X0_change
  refine go_iload_n 1 rfl dX0_change_0 rfl ?_
  refine go_iload_n 2 rfl dX0_change_1 rfl ?_
  refine go_callSZ (As := fun ad => [.int a1, .int a2]) (g_X0_allows a1 a2 u) mo_X0_allows gw10 gw11 rfl ⟨Nat.le_of_ble_eq_true rfl, Nat.le_of_ble_eq_true rfl⟩ rfl (Nat.le_of_ble_eq_true rfl) dX0_change_2 (fun r1 u2 => ?_)
  refine go_ifz_ne (tgt := 10) dX0_change_5 (by decide) ?_ ?_
  · refine go_aload_n 0 rfl dX0_change_10 rfl ?_
    refine go_ck (fun h3 => ?_)
    refine go_getR clX0 h3 0 (Nat.le_of_ble_eq_true rfl) (f := (kN a0)) (fun _ => rfl) gw5 dX0_change_11 ?_
    refine go_iload_n 1 rfl dX0_change_14 rfl ?_
    refine go_ck (fun h4 => ?_)
    refine go_ck (fun h5 => ?_)
    refine go_iald h4 h5 dX0_change_15 ?_
    refine go_nm (fun x6 => ?_)
    refine go_istore_n (lv' := [(3, .int x6), (0, .ref (ad a0)), (1, .int a1), (2, .int a2)]) dX0_change_16 rfl (Nat.le_of_ble_eq_true rfl) rfl ?_
    refine go_aload_n 1 rfl dX0_change_17 rfl ?_
    refine go_getR clX0 h3 0 (Nat.le_of_ble_eq_true rfl) (f := (kN a0)) (fun _ => rfl) gw5 dX0_change_18 ?_
    refine go_iload_n 2 rfl dX0_change_21 rfl ?_
    refine go_iload_n 3 rfl dX0_change_22 rfl ?_
    refine go_iast h4 h5 dX0_change_23 ?_
    refine go_nmU (fun u7 => ?_)
    refine go_iload_n 0 rfl dX0_change_24 rfl ?_
    exact go_iret rfl dX0_change_25
  · refine go_iconst (v := (0 : Int32)) dX0_change_8 (by decide) ?_
    exact go_iret rfl dX0_change_9
def f_X0_isOfKind (a0 : Nat) (a1 : Int32) (u : Uw) : Option (Bool × Uw) :=
  ck (kT a0 == 0) <|
  ck (kT (kN a0) == 10) <|
  ck (inb (0 : Int32) (kL (kN a0))) <|
  nm (u.1 (kR (kN a0)) (kO (kN a0) + (0 : Int32).toNatClampNeg)) fun x4 =>
  if x4 = a1 then
  (some (true, u))
  else
  (if a1 = 0 then
  (some (true, u))
  else
  (if x4 = (4 : Int32) then
  (if a1 = (2 : Int32) then
  (some (true, u))
  else
  (if x4 = (5 : Int32) then
  (if a1 = (1 : Int32) then
  (some (true, u))
  else
  (some (false, u)))
  else
  (some (false, u))))
  else
  (if x4 = (5 : Int32) then
  (if a1 = (1 : Int32) then
  (some (true, u))
  else
  (some (false, u)))
  else
  (some (false, u)))))
set_option maxHeartbeats 4000000 in
set_option maxRecDepth 100000 in
theorem g_X0_isOfKind (a0 : Nat) (a1 : Int32) (u : Uw) : ∀ l, Con l yX0_isOfKind mi_X0_isOfKind ivZ (fun ad => [.ref (ad a0), .int a1]) u (f_X0_isOfKind a0 a1 u) := by
  refine con_of (by decide) rfl (fun _ => Nat.le_of_ble_eq_true rfl) (fun X ad => ?_)
  show Go X ad mi_X0_isOfKind ivZ 0 [(0, .ref (ad a0)), (1, .int a1)] [] u (f_X0_isOfKind a0 a1 u)
  unfold f_X0_isOfKind
  refine go_aload_n 0 rfl dX0_isOfKind_0 rfl ?_
  refine go_ck (fun h1 => ?_)
  refine go_getR clX0 h1 0 (Nat.le_of_ble_eq_true rfl) (f := (kN a0)) (fun _ => rfl) gw5 dX0_isOfKind_1 ?_
  refine go_iconst (v := (0 : Int32)) dX0_isOfKind_4 (by decide) ?_
  refine go_ck (fun h2 => ?_)
  refine go_ck (fun h3 => ?_)
  refine go_iald h2 h3 dX0_isOfKind_5 ?_
  refine go_nm (fun x4 => ?_)
  refine go_istore_n (lv' := [(2, .int x4), (0, .ref (ad a0)), (1, .int a1)]) dX0_isOfKind_6 rfl (Nat.le_of_ble_eq_true rfl) rfl ?_
  refine go_iload_n 0 rfl dX0_isOfKind_7 rfl ?_
  refine go_iload_n 2 rfl dX0_isOfKind_8 rfl ?_
  refine go_icmp_eq (tgt := 16) dX0_isOfKind_9 (by decide) ?_ ?_
  · refine go_iconst (v := (1 : Int32)) dX0_isOfKind_16 (by decide) ?_
    exact go_zret (b := true) rfl dX0_isOfKind_17
  · refine go_iload_n 2 rfl dX0_isOfKind_12 rfl ?_
    refine go_if_ne (tgt := 18) dX0_isOfKind_13 (by decide) ?_ ?_
    · refine go_iload_n 0 rfl dX0_isOfKind_18 rfl ?_
      refine go_iconst (v := (4 : Int32)) dX0_isOfKind_19 (by decide) ?_
      refine go_icmp_ne (tgt := 28) dX0_isOfKind_20 (by decide) ?_ ?_
      · refine go_iload_n 0 rfl dX0_isOfKind_28 rfl ?_
        refine go_iconst (v := (5 : Int32)) dX0_isOfKind_29 (by decide) ?_
        refine go_icmp_ne (tgt := 42) dX0_isOfKind_30 (by decide) ?_ ?_
        · refine go_iconst (v := (0 : Int32)) dX0_isOfKind_42 (by decide) ?_
          exact go_zret (b := false) rfl dX0_isOfKind_43
        · refine go_iload_n 2 rfl dX0_isOfKind_33 rfl ?_
          refine go_iconst (v := (1 : Int32)) dX0_isOfKind_34 (by decide) ?_
          refine go_icmp_ne (tgt := 42) dX0_isOfKind_35 (by decide) ?_ ?_
          · refine go_iconst (v := (0 : Int32)) dX0_isOfKind_42 (by decide) ?_
            exact go_zret (b := false) rfl dX0_isOfKind_43
          · refine go_iconst (v := (1 : Int32)) dX0_isOfKind_38 (by decide) ?_
            refine go_goto (tgt := 43) dX0_isOfKind_39 (by decide) ?_
            exact go_zret (b := true) rfl dX0_isOfKind_43
      · refine go_iload_n 2 rfl dX0_isOfKind_23 rfl ?_
        refine go_iconst (v := (2 : Int32)) dX0_isOfKind_24 (by decide) ?_
        refine go_icmp_eq (tgt := 38) dX0_isOfKind_25 (by decide) ?_ ?_
        · refine go_iconst (v := (1 : Int32)) dX0_isOfKind_38 (by decide) ?_
          refine go_goto (tgt := 43) dX0_isOfKind_39 (by decide) ?_
          exact go_zret (b := true) rfl dX0_isOfKind_43
        · refine go_iload_n 0 rfl dX0_isOfKind_28 rfl ?_
          refine go_iconst (v := (5 : Int32)) dX0_isOfKind_29 (by decide) ?_
          refine go_icmp_ne (tgt := 42) dX0_isOfKind_30 (by decide) ?_ ?_
          · refine go_iconst (v := (0 : Int32)) dX0_isOfKind_42 (by decide) ?_
            exact go_zret (b := false) rfl dX0_isOfKind_43
          · refine go_iload_n 2 rfl dX0_isOfKind_33 rfl ?_
            refine go_iconst (v := (1 : Int32)) dX0_isOfKind_34 (by decide) ?_
            refine go_icmp_ne (tgt := 42) dX0_isOfKind_35 (by decide) ?_ ?_
            · refine go_iconst (v := (0 : Int32)) dX0_isOfKind_42 (by decide) ?_
              exact go_zret (b := false) rfl dX0_isOfKind_43
            · refine go_iconst (v := (1 : Int32)) dX0_isOfKind_38 (by decide) ?_
              refine go_goto (tgt := 43) dX0_isOfKind_39 (by decide) ?_
              exact go_zret (b := true) rfl dX0_isOfKind_43
    · refine go_iconst (v := (1 : Int32)) dX0_isOfKind_16 (by decide) ?_
      exact go_zret (b := true) rfl dX0_isOfKind_17
def f_X0_length (a0 : Nat) (u : Uw) : Option (Int32 × Uw) :=
  ck (kT a0 == 0) <|
  ck (kT (kN a0) == 10) <|
  ck (inb (2 : Int32) (kL (kN a0))) <|
  nm (u.1 (kR (kN a0)) (kO (kN a0) + (2 : Int32).toNatClampNeg)) fun x4 =>
  if (1 : Int32) ≤ x4 then
  (nm (u.1 (kR (kN a0)) (kO (kN a0) + (2 : Int32).toNatClampNeg)) fun x5 =>
  some (x5, u))
  else
  (some ((1 : Int32), u))
set_option maxHeartbeats 4000000 in
set_option maxRecDepth 100000 in
theorem g_X0_length (a0 : Nat) (u : Uw) : ∀ l, Con l yX0_length mi_X0_length ivI (fun ad => [.ref (ad a0)]) u (f_X0_length a0 u) := by
  refine con_of (by decide) rfl (fun _ => Nat.le_of_ble_eq_true rfl) (fun X ad => ?_)
  show Go X ad mi_X0_length ivI 0 [(0, .ref (ad a0))] [] u (f_X0_length a0 u)
  unfold f_X0_length
  refine go_aload_n 0 rfl dX0_length_0 rfl ?_
  refine go_ck (fun h1 => ?_)
  refine go_getR clX0 h1 0 (Nat.le_of_ble_eq_true rfl) (f := (kN a0)) (fun _ => rfl) gw5 dX0_length_1 ?_
  refine go_iconst (v := (2 : Int32)) dX0_length_4 (by decide) ?_
  refine go_ck (fun h2 => ?_)
  refine go_ck (fun h3 => ?_)
  refine go_iald h2 h3 dX0_length_5 ?_
  refine go_nm (fun x4 => ?_)
  refine go_iconst (v := (1 : Int32)) dX0_length_6 (by decide) ?_
  refine go_icmp_ge (tgt := 14) dX0_length_7 (by decide) ?_ ?_
  · refine go_aload_n 0 rfl dX0_length_14 rfl ?_
    refine go_getR clX0 h1 0 (Nat.le_of_ble_eq_true rfl) (f := (kN a0)) (fun _ => rfl) gw5 dX0_length_15 ?_
    refine go_iconst (v := (2 : Int32)) dX0_length_18 (by decide) ?_
    refine go_iald h2 h3 dX0_length_19 ?_
    refine go_nm (fun x5 => ?_)
    exact go_iret rfl dX0_length_20
  · refine go_iconst (v := (1 : Int32)) dX0_length_10 (by decide) ?_
    refine go_goto (tgt := 20) dX0_length_11 (by decide) ?_
    exact go_iret rfl dX0_length_20
def f_X0_runsAsNew (a0 : Nat) (a1 : Int32) (u : Uw) : Option (Int32 × Uw) :=
  ck (kT a0 == 0) <|
  ck (kT (kN a0) == 10) <|
  ck (inb (1 : Int32) (kL (kN a0))) <|
  nm (u.1 (kR (kN a0)) (kO (kN a0) + (1 : Int32).toNatClampNeg)) fun x4 =>
  ck (inb (4 : Int32) (kL (kN a0))) <|
  nm (u.1 (kR (kN a0)) (kO (kN a0) + (4 : Int32).toNatClampNeg)) fun x6 =>
  if a1 < x6 then
  (some (((a1 + x4) + (0 : Int32)), u))
  else
  (ck (inb (3 : Int32) (kL (kN a0))) <|
  nm (u.1 (kR (kN a0)) (kO (kN a0) + (3 : Int32).toNatClampNeg)) fun x8 =>
  some (((a1 + x4) + x8), u))
set_option maxHeartbeats 4000000 in
set_option maxRecDepth 100000 in
theorem g_X0_runsAsNew (a0 : Nat) (a1 : Int32) (u : Uw) : ∀ l, Con l yX0_runsAsNew mi_X0_runsAsNew ivI (fun ad => [.ref (ad a0), .int a1]) u (f_X0_runsAsNew a0 a1 u) := by
  refine con_of (by decide) rfl (fun _ => Nat.le_of_ble_eq_true rfl) (fun X ad => ?_)
  show Go X ad mi_X0_runsAsNew ivI 0 [(0, .ref (ad a0)), (1, .int a1)] [] u (f_X0_runsAsNew a0 a1 u)
  unfold f_X0_runsAsNew
  refine go_iload_n 1 rfl dX0_runsAsNew_0 rfl ?_
  refine go_aload_n 0 rfl dX0_runsAsNew_1 rfl ?_
  refine go_ck (fun h1 => ?_)
  refine go_getR clX0 h1 0 (Nat.le_of_ble_eq_true rfl) (f := (kN a0)) (fun _ => rfl) gw5 dX0_runsAsNew_2 ?_
  refine go_iconst (v := (1 : Int32)) dX0_runsAsNew_5 (by decide) ?_
  refine go_ck (fun h2 => ?_)
  refine go_ck (fun h3 => ?_)
  refine go_iald h2 h3 dX0_runsAsNew_6 ?_
  refine go_nm (fun x4 => ?_)
  refine go_iadd dX0_runsAsNew_7 ?_
  refine go_iload_n 1 rfl dX0_runsAsNew_8 rfl ?_
  refine go_aload_n 0 rfl dX0_runsAsNew_9 rfl ?_
  refine go_getR clX0 h1 0 (Nat.le_of_ble_eq_true rfl) (f := (kN a0)) (fun _ => rfl) gw5 dX0_runsAsNew_10 ?_
  refine go_iconst (v := (4 : Int32)) dX0_runsAsNew_13 (by decide) ?_
  refine go_ck (fun h5 => ?_)
  refine go_iald h2 h5 dX0_runsAsNew_14 ?_
  refine go_nm (fun x6 => ?_)
  refine go_icmp_lt (tgt := 27) dX0_runsAsNew_15 (by decide) ?_ ?_
  · refine go_iconst (v := (0 : Int32)) dX0_runsAsNew_27 (by decide) ?_
    refine go_iadd dX0_runsAsNew_28 ?_
    exact go_iret rfl dX0_runsAsNew_29
  · refine go_aload_n 0 rfl dX0_runsAsNew_18 rfl ?_
    refine go_getR clX0 h1 0 (Nat.le_of_ble_eq_true rfl) (f := (kN a0)) (fun _ => rfl) gw5 dX0_runsAsNew_19 ?_
    refine go_iconst (v := (3 : Int32)) dX0_runsAsNew_22 (by decide) ?_
    refine go_ck (fun h7 => ?_)
    refine go_iald h2 h7 dX0_runsAsNew_23 ?_
    refine go_nm (fun x8 => ?_)
    refine go_goto (tgt := 28) dX0_runsAsNew_24 (by decide) ?_
    refine go_iadd dX0_runsAsNew_28 ?_
    exact go_iret rfl dX0_runsAsNew_29
def f_X0_jugDaysUpTo (a0 : Int32) (u : Uw) : Option (Int32 × Uw) :=
  some ((((a0 + (7 : Int32)) - (2 : Int32)) / (7 : Int32)), u)
set_option maxHeartbeats 4000000 in
set_option maxRecDepth 100000 in
theorem g_X0_jugDaysUpTo (a0 : Int32) (u : Uw) : ∀ l, Con l yX0_jugDaysUpTo mi_X0_jugDaysUpTo ivI (fun ad => [.int a0]) u (f_X0_jugDaysUpTo a0 u) := by
  refine con_of (by decide) rfl (fun _ => Nat.le_of_ble_eq_true rfl) (fun X ad => ?_)
  show Go X ad mi_X0_jugDaysUpTo ivI 0 [(0, .int a0)] [] u (f_X0_jugDaysUpTo a0 u)
  unfold f_X0_jugDaysUpTo
  refine go_iload_n 0 rfl dX0_jugDaysUpTo_0 rfl ?_
  refine go_bipush (v := (7 : Int32)) dX0_jugDaysUpTo_1 (by decide) ?_
  refine go_iadd dX0_jugDaysUpTo_3 ?_
  refine go_iconst (v := (2 : Int32)) dX0_jugDaysUpTo_4 (by decide) ?_
  refine go_isub dX0_jugDaysUpTo_5 ?_
  refine go_bipush (v := (7 : Int32)) dX0_jugDaysUpTo_6 (by decide) ?_
  refine go_idiv (by decide) dX0_jugDaysUpTo_8 ?_
  exact go_iret rfl dX0_jugDaysUpTo_9
def f_X0_runsAt (a0 : Nat) (a1 : Int32) (u : Uw) : Option (Int32 × Uw) :=
  ck (kT a0 == 0) <|
  ck (kT (kN a0) == 10) <|
  ck (inb (1 : Int32) (kL (kN a0))) <|
  nm (u.1 (kR (kN a0)) (kO (kN a0) + (1 : Int32).toNatClampNeg)) fun x4 =>
  nm (a1 + x4) fun x5 =>
  ck (inb (0 : Int32) (kL (kN a0))) <|
  nm (u.1 (kR (kN a0)) (kO (kN a0) + (0 : Int32).toNatClampNeg)) fun x7 =>
  if x7 = (2 : Int32) then
  (bd (f_X0_runsAsNew a0 a1 u) fun r8 u9 =>
  some (r8, u9))
  else
  (if x7 = (3 : Int32) then
  (some ((x5 + (a1 / (7 : Int32))), u))
  else
  (if x7 = (4 : Int32) then
  (bd (f_X0_runsAsNew a0 a1 u) fun r12 u13 =>
  bd (f_X0_runsAsNew a0 a1 u13) fun r14 u15 =>
  bd (f_X0_length a0 u15) fun r16 u17 =>
  ck (decide (¬ r16 = 0)) <|
  some ((r12 + ((r14 / r16) / (4 : Int32))), u17))
  else
  (if x7 = (5 : Int32) then
  (bd (f_X0_jugDaysUpTo a1 u) fun r20 u21 =>
  some ((x5 - r20), u21))
  else
  (some (x5, u)))))
set_option maxHeartbeats 4000000 in
set_option maxRecDepth 100000 in
theorem g_X0_runsAt (a0 : Nat) (a1 : Int32) (u : Uw) : ∀ l, Con l yX0_runsAt mi_X0_runsAt ivI (fun ad => [.ref (ad a0), .int a1]) u (f_X0_runsAt a0 a1 u) := by
  refine con_of (by decide) rfl (fun _ => Nat.le_of_ble_eq_true rfl) (fun X ad => ?_)
  show Go X ad mi_X0_runsAt ivI 0 [(0, .ref (ad a0)), (1, .int a1)] [] u (f_X0_runsAt a0 a1 u)
  unfold f_X0_runsAt
  refine go_iload_n 1 rfl dX0_runsAt_0 rfl ?_
  refine go_aload_n 0 rfl dX0_runsAt_1 rfl ?_
  refine go_ck (fun h1 => ?_)
  refine go_getR clX0 h1 0 (Nat.le_of_ble_eq_true rfl) (f := (kN a0)) (fun _ => rfl) gw5 dX0_runsAt_2 ?_
  refine go_iconst (v := (1 : Int32)) dX0_runsAt_5 (by decide) ?_
  refine go_ck (fun h2 => ?_)
  refine go_ck (fun h3 => ?_)
  refine go_iald h2 h3 dX0_runsAt_6 ?_
  refine go_nm (fun x4 => ?_)
  refine go_iadd dX0_runsAt_7 ?_
  refine go_nm (fun x5 => ?_)
  refine go_istore_n (lv' := [(2, .int x5), (0, .ref (ad a0)), (1, .int a1)]) dX0_runsAt_8 rfl (Nat.le_of_ble_eq_true rfl) rfl ?_
  refine go_aload_n 1 rfl dX0_runsAt_9 rfl ?_
  refine go_getR clX0 h1 0 (Nat.le_of_ble_eq_true rfl) (f := (kN a0)) (fun _ => rfl) gw5 dX0_runsAt_10 ?_
  refine go_iconst (v := (0 : Int32)) dX0_runsAt_13 (by decide) ?_
  refine go_ck (fun h6 => ?_)
  refine go_iald h2 h6 dX0_runsAt_14 ?_
  refine go_nm (fun x7 => ?_)
  refine go_ite (fun hx => ?_) (fun h10 => ?_)
  · subst hx
    refine go_tin (off := 29) (tgt := 44) dX0_runsAt_15 (by decide) (by decide) (by decide) (by decide) ?_
    refine go_aload_n 1 rfl dX0_runsAt_44 rfl ?_
    refine go_iload_n 2 rfl dX0_runsAt_45 rfl ?_
    refine go_callVI (As := fun ad => [.int a1]) (g_X0_runsAsNew a0 a1 u) mv_X0_runsAsNew clX0 h1 gw12 rfl ⟨Nat.le_of_ble_eq_true rfl, Nat.le_of_ble_eq_true rfl⟩ rfl (Nat.le_of_ble_eq_true rfl) dX0_runsAt_46 (fun r8 u9 => ?_)
    exact go_iret rfl dX0_runsAt_49
  · refine go_ite (fun hx => ?_) (fun h11 => ?_)
    · subst hx
      refine go_tin (off := 35) (tgt := 50) dX0_runsAt_15 (by decide) (by decide) (by decide) (by decide) ?_
      refine go_iload_n 0 rfl dX0_runsAt_50 rfl ?_
      refine go_iload_n 2 rfl dX0_runsAt_51 rfl ?_
      refine go_bipush (v := (7 : Int32)) dX0_runsAt_52 (by decide) ?_
      refine go_idiv (by decide) dX0_runsAt_54 ?_
      refine go_iadd dX0_runsAt_55 ?_
      exact go_iret rfl dX0_runsAt_56
    · refine go_ite (fun hx => ?_) (fun h19 => ?_)
      · subst hx
        refine go_tin (off := 42) (tgt := 57) dX0_runsAt_15 (by decide) (by decide) (by decide) (by decide) ?_
        refine go_aload_n 1 rfl dX0_runsAt_57 rfl ?_
        refine go_iload_n 2 rfl dX0_runsAt_58 rfl ?_
        refine go_callVI (As := fun ad => [.int a1]) (g_X0_runsAsNew a0 a1 u) mv_X0_runsAsNew clX0 h1 gw12 rfl ⟨Nat.le_of_ble_eq_true rfl, Nat.le_of_ble_eq_true rfl⟩ rfl (Nat.le_of_ble_eq_true rfl) dX0_runsAt_59 (fun r12 u13 => ?_)
        refine go_aload_n 1 rfl dX0_runsAt_62 rfl ?_
        refine go_iload_n 2 rfl dX0_runsAt_63 rfl ?_
        refine go_callVI (As := fun ad => [.int a1]) (g_X0_runsAsNew a0 a1 u13) mv_X0_runsAsNew clX0 h1 gw12 rfl ⟨Nat.le_of_ble_eq_true rfl, Nat.le_of_ble_eq_true rfl⟩ rfl (Nat.le_of_ble_eq_true rfl) dX0_runsAt_64 (fun r14 u15 => ?_)
        refine go_aload_n 1 rfl dX0_runsAt_67 rfl ?_
        refine go_callVI (As := fun ad => []) (g_X0_length a0 u15) mv_X0_length clX0 h1 gw13 rfl ⟨Nat.le_of_ble_eq_true rfl, Nat.le_of_ble_eq_true rfl⟩ rfl (Nat.le_of_ble_eq_true rfl) dX0_runsAt_68 (fun r16 u17 => ?_)
        refine go_ck (fun h18 => ?_)
        refine go_idiv h18 dX0_runsAt_71 ?_
        refine go_iconst (v := (4 : Int32)) dX0_runsAt_72 (by decide) ?_
        refine go_idiv (by decide) dX0_runsAt_73 ?_
        refine go_iadd dX0_runsAt_74 ?_
        exact go_iret rfl dX0_runsAt_75
      · refine go_ite (fun hx => ?_) (fun h22 => ?_)
        · subst hx
          refine go_tin (off := 61) (tgt := 76) dX0_runsAt_15 (by decide) (by decide) (by decide) (by decide) ?_
          refine go_iload_n 0 rfl dX0_runsAt_76 rfl ?_
          refine go_iload_n 2 rfl dX0_runsAt_77 rfl ?_
          refine go_callSI (As := fun ad => [.int a1]) (g_X0_jugDaysUpTo a1 u) mo_X0_jugDaysUpTo gw14 gw15 rfl ⟨Nat.le_of_ble_eq_true rfl, Nat.le_of_ble_eq_true rfl⟩ rfl (Nat.le_of_ble_eq_true rfl) dX0_runsAt_78 (fun r20 u21 => ?_)
          refine go_isub dX0_runsAt_81 ?_
          exact go_iret rfl dX0_runsAt_82
        · refine go_tout (tgt := 83) dX0_runsAt_15 ?_ (by decide) ?_
          · have a0 : x7.toInt ≠ 2 := int_ne h10; have a1 : x7.toInt ≠ 3 := int_ne h11; have a2 : x7.toInt ≠ 4 := int_ne h19; have a3 : x7.toInt ≠ 5 := int_ne h22; omega
          · refine go_iload_n 0 rfl dX0_runsAt_83 rfl ?_
            exact go_iret rfl dX0_runsAt_84
def f_X0_dateAt (a0 : Nat) (a1 : Int32) (u : Uw) : Option (Int32 × Uw) :=
  ck (kT a0 == 0) <|
  bd (f_X0_runsAt a0 a1 u) fun r2 u3 =>
  bd (f_X0_length a0 u3) fun r4 u5 =>
  ck (decide (¬ r4 = 0)) <|
  some (((r2 - r2 / r4 * r4) + (1 : Int32)), u5)
set_option maxHeartbeats 4000000 in
set_option maxRecDepth 100000 in
theorem g_X0_dateAt (a0 : Nat) (a1 : Int32) (u : Uw) : ∀ l, Con l yX0_dateAt mi_X0_dateAt ivI (fun ad => [.ref (ad a0), .int a1]) u (f_X0_dateAt a0 a1 u) := by
  refine con_of (by decide) rfl (fun _ => Nat.le_of_ble_eq_true rfl) (fun X ad => ?_)
  show Go X ad mi_X0_dateAt ivI 0 [(0, .ref (ad a0)), (1, .int a1)] [] u (f_X0_dateAt a0 a1 u)
  unfold f_X0_dateAt
  refine go_aload_n 0 rfl dX0_dateAt_0 rfl ?_
  refine go_iload_n 1 rfl dX0_dateAt_1 rfl ?_
  refine go_ck (fun h1 => ?_)
  refine go_callVI (As := fun ad => [.int a1]) (g_X0_runsAt a0 a1 u) mv_X0_runsAt clX0 h1 gw16 rfl ⟨Nat.le_of_ble_eq_true rfl, Nat.le_of_ble_eq_true rfl⟩ rfl (Nat.le_of_ble_eq_true rfl) dX0_dateAt_2 (fun r2 u3 => ?_)
  refine go_aload_n 0 rfl dX0_dateAt_5 rfl ?_
  refine go_callVI (As := fun ad => []) (g_X0_length a0 u3) mv_X0_length clX0 h1 gw13 rfl ⟨Nat.le_of_ble_eq_true rfl, Nat.le_of_ble_eq_true rfl⟩ rfl (Nat.le_of_ble_eq_true rfl) dX0_dateAt_6 (fun r4 u5 => ?_)
  refine go_ck (fun h6 => ?_)
  refine go_irem h6 dX0_dateAt_9 ?_
  refine go_iconst (v := (1 : Int32)) dX0_dateAt_10 (by decide) ?_
  refine go_iadd dX0_dateAt_11 ?_
  exact go_iret rfl dX0_dateAt_12
def f_X0_monthAt (a0 : Nat) (a1 : Int32) (u : Uw) : Option (Int32 × Uw) :=
  ck (kT a0 == 0) <|
  bd (f_X0_runsAt a0 a1 u) fun r2 u3 =>
  bd (f_X0_length a0 u3) fun r4 u5 =>
  ck (decide (¬ r4 = 0)) <|
  some ((r2 / r4), u5)
set_option maxHeartbeats 4000000 in
set_option maxRecDepth 100000 in
theorem g_X0_monthAt (a0 : Nat) (a1 : Int32) (u : Uw) : ∀ l, Con l yX0_monthAt mi_X0_monthAt ivI (fun ad => [.ref (ad a0), .int a1]) u (f_X0_monthAt a0 a1 u) := by
  refine con_of (by decide) rfl (fun _ => Nat.le_of_ble_eq_true rfl) (fun X ad => ?_)
  show Go X ad mi_X0_monthAt ivI 0 [(0, .ref (ad a0)), (1, .int a1)] [] u (f_X0_monthAt a0 a1 u)
  unfold f_X0_monthAt
  refine go_aload_n 0 rfl dX0_monthAt_0 rfl ?_
  refine go_iload_n 1 rfl dX0_monthAt_1 rfl ?_
  refine go_ck (fun h1 => ?_)
  refine go_callVI (As := fun ad => [.int a1]) (g_X0_runsAt a0 a1 u) mv_X0_runsAt clX0 h1 gw16 rfl ⟨Nat.le_of_ble_eq_true rfl, Nat.le_of_ble_eq_true rfl⟩ rfl (Nat.le_of_ble_eq_true rfl) dX0_monthAt_2 (fun r2 u3 => ?_)
  refine go_aload_n 0 rfl dX0_monthAt_5 rfl ?_
  refine go_callVI (As := fun ad => []) (g_X0_length a0 u3) mv_X0_length clX0 h1 gw13 rfl ⟨Nat.le_of_ble_eq_true rfl, Nat.le_of_ble_eq_true rfl⟩ rfl (Nat.le_of_ble_eq_true rfl) dX0_monthAt_6 (fun r4 u5 => ?_)
  refine go_ck (fun h6 => ?_)
  refine go_idiv h6 dX0_monthAt_9 ?_
  exact go_iret rfl dX0_monthAt_10
def f_X0_isHoly (a0 : Nat) (a1 : Int32) (u : Uw) : Option (Bool × Uw) :=
  ck (kT a0 == 0) <|
  bd (f_X0_runsAt a0 a1 u) fun r2 u3 =>
  bd (f_X0_length a0 u3) fun r4 u5 =>
  ck (decide (¬ r4 = 0)) <|
  nm ((r2 - r2 / r4 * r4) + (1 : Int32)) fun x7 =>
  ck (kT (kN a0) == 10) <|
  ck (inb (0 : Int32) (kL (kN a0))) <|
  nm (u5.1 (kR (kN a0)) (kO (kN a0) + (0 : Int32).toNatClampNeg)) fun x10 =>
  if x10 = (3 : Int32) then
  (if ((x7 + (r2 / r4)) - (x7 + (r2 / r4)) / (2 : Int32) * (2 : Int32)) = 0 then
  (some (true, u5))
  else
  (some (false, u5)))
  else
  (if x10 = (4 : Int32) then
  (if (x7 - x7 / (2 : Int32) * (2 : Int32)) = 0 then
  (some (true, u5))
  else
  (if x7 = (1 : Int32) then
  (some (true, u5))
  else
  (some (false, u5))))
  else
  (if x10 = (5 : Int32) then
  (if (x7 - x7 / (2 : Int32) * (2 : Int32)) = 0 then
  (if (a1 - a1 / (7 : Int32) * (7 : Int32)) = (2 : Int32) then
  (some (false, u5))
  else
  (some (true, u5)))
  else
  (some (false, u5)))
  else
  (if (x7 - x7 / (2 : Int32) * (2 : Int32)) = 0 then
  (some (true, u5))
  else
  (some (false, u5)))))
set_option maxHeartbeats 4000000 in
set_option maxRecDepth 100000 in
theorem g_X0_isHoly (a0 : Nat) (a1 : Int32) (u : Uw) : ∀ l, Con l yX0_isHoly mi_X0_isHoly ivZ (fun ad => [.ref (ad a0), .int a1]) u (f_X0_isHoly a0 a1 u) := by
  refine con_of (by decide) rfl (fun _ => Nat.le_of_ble_eq_true rfl) (fun X ad => ?_)
  show Go X ad mi_X0_isHoly ivZ 0 [(0, .ref (ad a0)), (1, .int a1)] [] u (f_X0_isHoly a0 a1 u)
  unfold f_X0_isHoly
  refine go_aload_n 0 rfl dX0_isHoly_0 rfl ?_
  refine go_iload_n 1 rfl dX0_isHoly_1 rfl ?_
  refine go_ck (fun h1 => ?_)
  refine go_callVI (As := fun ad => [.int a1]) (g_X0_runsAt a0 a1 u) mv_X0_runsAt clX0 h1 gw16 rfl ⟨Nat.le_of_ble_eq_true rfl, Nat.le_of_ble_eq_true rfl⟩ rfl (Nat.le_of_ble_eq_true rfl) dX0_isHoly_2 (fun r2 u3 => ?_)
  refine go_istore_n (lv' := [(2, .int r2), (0, .ref (ad a0)), (1, .int a1)]) dX0_isHoly_5 rfl (Nat.le_of_ble_eq_true rfl) rfl ?_
  refine go_aload_n 1 rfl dX0_isHoly_6 rfl ?_
  refine go_callVI (As := fun ad => []) (g_X0_length a0 u3) mv_X0_length clX0 h1 gw13 rfl ⟨Nat.le_of_ble_eq_true rfl, Nat.le_of_ble_eq_true rfl⟩ rfl (Nat.le_of_ble_eq_true rfl) dX0_isHoly_7 (fun r4 u5 => ?_)
  refine go_istore_n (lv' := [(3, .int r4), (2, .int r2), (0, .ref (ad a0)), (1, .int a1)]) dX0_isHoly_10 rfl (Nat.le_of_ble_eq_true rfl) rfl ?_
  refine go_iload_n 1 rfl dX0_isHoly_11 rfl ?_
  refine go_iload_n 0 rfl dX0_isHoly_12 rfl ?_
  refine go_ck (fun h6 => ?_)
  refine go_irem h6 dX0_isHoly_13 ?_
  refine go_iconst (v := (1 : Int32)) dX0_isHoly_14 (by decide) ?_
  refine go_iadd dX0_isHoly_15 ?_
  refine go_nm (fun x7 => ?_)
  refine go_istore (lv' := [(4, .int x7), (3, .int r4), (2, .int r2), (0, .ref (ad a0)), (1, .int a1)]) dX0_isHoly_16 (Nat.le_of_ble_eq_true rfl) rfl ?_
  refine go_aload_n 3 rfl dX0_isHoly_18 rfl ?_
  refine go_getR clX0 h1 0 (Nat.le_of_ble_eq_true rfl) (f := (kN a0)) (fun _ => rfl) gw5 dX0_isHoly_19 ?_
  refine go_iconst (v := (0 : Int32)) dX0_isHoly_22 (by decide) ?_
  refine go_ck (fun h8 => ?_)
  refine go_ck (fun h9 => ?_)
  refine go_iald h8 h9 dX0_isHoly_23 ?_
  refine go_nm (fun x10 => ?_)
  refine go_ite (fun hx => ?_) (fun h11 => ?_)
  · subst hx
    refine go_tin (off := 28) (tgt := 52) dX0_isHoly_24 (by decide) (by decide) (by decide) (by decide) ?_
    refine go_iload 0 rfl dX0_isHoly_52 ?_
    refine go_iload_n 2 rfl dX0_isHoly_54 rfl ?_
    refine go_iload_n 1 rfl dX0_isHoly_55 rfl ?_
    refine go_idiv h6 dX0_isHoly_56 ?_
    refine go_iadd dX0_isHoly_57 ?_
    refine go_iconst (v := (2 : Int32)) dX0_isHoly_58 (by decide) ?_
    refine go_irem (by decide) dX0_isHoly_59 ?_
    refine go_if_ne (tgt := 67) dX0_isHoly_60 (by decide) ?_ ?_
    · refine go_iconst (v := (0 : Int32)) dX0_isHoly_67 (by decide) ?_
      exact go_zret (b := false) rfl dX0_isHoly_68
    · refine go_iconst (v := (1 : Int32)) dX0_isHoly_63 (by decide) ?_
      refine go_goto (tgt := 68) dX0_isHoly_64 (by decide) ?_
      exact go_zret (b := true) rfl dX0_isHoly_68
  · refine go_ite (fun hx => ?_) (fun h12 => ?_)
    · subst hx
      refine go_tin (off := 45) (tgt := 69) dX0_isHoly_24 (by decide) (by decide) (by decide) (by decide) ?_
      refine go_iload 0 rfl dX0_isHoly_69 ?_
      refine go_iconst (v := (2 : Int32)) dX0_isHoly_71 (by decide) ?_
      refine go_irem (by decide) dX0_isHoly_72 ?_
      refine go_if_eq (tgt := 82) dX0_isHoly_73 (by decide) ?_ ?_
      · refine go_iconst (v := (1 : Int32)) dX0_isHoly_82 (by decide) ?_
        refine go_goto (tgt := 87) dX0_isHoly_83 (by decide) ?_
        exact go_zret (b := true) rfl dX0_isHoly_87
      · refine go_iload 0 rfl dX0_isHoly_76 ?_
        refine go_iconst (v := (1 : Int32)) dX0_isHoly_78 (by decide) ?_
        refine go_icmp_ne (tgt := 86) dX0_isHoly_79 (by decide) ?_ ?_
        · refine go_iconst (v := (0 : Int32)) dX0_isHoly_86 (by decide) ?_
          exact go_zret (b := false) rfl dX0_isHoly_87
        · refine go_iconst (v := (1 : Int32)) dX0_isHoly_82 (by decide) ?_
          refine go_goto (tgt := 87) dX0_isHoly_83 (by decide) ?_
          exact go_zret (b := true) rfl dX0_isHoly_87
    · refine go_ite (fun hx => ?_) (fun h13 => ?_)
      · subst hx
        refine go_tin (off := 64) (tgt := 88) dX0_isHoly_24 (by decide) (by decide) (by decide) (by decide) ?_
        refine go_iload 0 rfl dX0_isHoly_88 ?_
        refine go_iconst (v := (2 : Int32)) dX0_isHoly_90 (by decide) ?_
        refine go_irem (by decide) dX0_isHoly_91 ?_
        refine go_if_ne (tgt := 107) dX0_isHoly_92 (by decide) ?_ ?_
        · refine go_iconst (v := (0 : Int32)) dX0_isHoly_107 (by decide) ?_
          exact go_zret (b := false) rfl dX0_isHoly_108
        · refine go_iload_n 4 rfl dX0_isHoly_95 rfl ?_
          refine go_bipush (v := (7 : Int32)) dX0_isHoly_96 (by decide) ?_
          refine go_irem (by decide) dX0_isHoly_98 ?_
          refine go_iconst (v := (2 : Int32)) dX0_isHoly_99 (by decide) ?_
          refine go_icmp_eq (tgt := 107) dX0_isHoly_100 (by decide) ?_ ?_
          · refine go_iconst (v := (0 : Int32)) dX0_isHoly_107 (by decide) ?_
            exact go_zret (b := false) rfl dX0_isHoly_108
          · refine go_iconst (v := (1 : Int32)) dX0_isHoly_103 (by decide) ?_
            refine go_goto (tgt := 108) dX0_isHoly_104 (by decide) ?_
            exact go_zret (b := true) rfl dX0_isHoly_108
      · refine go_tout (tgt := 109) dX0_isHoly_24 ?_ (by decide) ?_
        · have a0 : x10.toInt ≠ 3 := int_ne h11; have a1 : x10.toInt ≠ 4 := int_ne h12; have a2 : x10.toInt ≠ 5 := int_ne h13; omega
        · refine go_iload 0 rfl dX0_isHoly_109 ?_
          refine go_iconst (v := (2 : Int32)) dX0_isHoly_111 (by decide) ?_
          refine go_irem (by decide) dX0_isHoly_112 ?_
          refine go_if_ne (tgt := 120) dX0_isHoly_113 (by decide) ?_ ?_
          · refine go_iconst (v := (0 : Int32)) dX0_isHoly_120 (by decide) ?_
            exact go_zret (b := false) rfl dX0_isHoly_121
          · refine go_iconst (v := (1 : Int32)) dX0_isHoly_116 (by decide) ?_
            refine go_goto (tgt := 121) dX0_isHoly_117 (by decide) ?_
            exact go_zret (b := true) rfl dX0_isHoly_121
def f_X1_startWith (a0 : Nat) (a1 : Int32) (a2 : Int32) (u : Uw) : Option (Unit × Uw) :=
  ck (kT a0 == 1) <|
  nm (w1 u (kR a0) (kO a0 + 0) a1) fun u2 =>
  nm (w1 u2 (kR a0) (kO a0 + 1) a2) fun u3 =>
  nm (w1 u3 (kR a0) (kO a0 + 2) (0 : Int32)) fun u4 =>
  some ((), u4)
set_option maxHeartbeats 4000000 in
set_option maxRecDepth 100000 in
theorem g_X1_startWith (a0 : Nat) (a1 : Int32) (a2 : Int32) (u : Uw) : ∀ l, Con l yX1_startWith mi_X1_startWith ivV (fun ad => [.ref (ad a0), .int a1, .int a2]) u (f_X1_startWith a0 a1 a2 u) := by
  refine con_of (by decide) rfl (fun _ => Nat.le_of_ble_eq_true rfl) (fun X ad => ?_)
  show Go X ad mi_X1_startWith ivV 0 [(0, .ref (ad a0)), (1, .int a1), (2, .int a2)] [] u (f_X1_startWith a0 a1 a2 u)
  unfold f_X1_startWith
  refine go_aload_n 0 rfl dX1_startWith_0 rfl ?_
  refine go_iload_n 1 rfl dX1_startWith_1 rfl ?_
  refine go_ck (fun h1 => ?_)
  refine go_putI clX1 h1 0 (Nat.le_of_ble_eq_true rfl) (c := 0) (fun _ => rfl) (by decide) (fty := .int) (tyX1_ok 0 (Nat.le_of_ble_eq_true rfl)) rfl rfl rfl (fun _ => Nat.le_of_ble_eq_true rfl) gw17 dX1_startWith_2 ?_
  refine go_nmU (fun u2 => ?_)
  refine go_aload_n 0 rfl dX1_startWith_5 rfl ?_
  refine go_iload_n 2 rfl dX1_startWith_6 rfl ?_
  refine go_putI clX1 h1 1 (Nat.le_of_ble_eq_true rfl) (c := 1) (fun _ => rfl) (by decide) (fty := .int) (tyX1_ok 1 (Nat.le_of_ble_eq_true rfl)) rfl rfl rfl (fun _ => Nat.le_of_ble_eq_true rfl) gw18 dX1_startWith_7 ?_
  refine go_nmU (fun u3 => ?_)
  refine go_aload_n 0 rfl dX1_startWith_10 rfl ?_
  refine go_iconst (v := (0 : Int32)) dX1_startWith_11 (by decide) ?_
  refine go_putI clX1 h1 2 (Nat.le_of_ble_eq_true rfl) (c := 2) (fun _ => rfl) (by decide) (fty := .int) (tyX1_ok 2 (Nat.le_of_ble_eq_true rfl)) rfl rfl rfl (fun _ => Nat.le_of_ble_eq_true rfl) gw19 dX1_startWith_12 ?_
  refine go_nmU (fun u4 => ?_)
  exact go_vret rfl dX1_startWith_15
def f_X1_become (a0 : Nat) (a1 : Nat) (u : Uw) : Option (Unit × Uw) :=
  ck (kT a1 == 1) <|
  ck (kT a0 == 1) <|
  nm (w1 u (kR a0) (kO a0 + 0) (u.1 (kR a1) (kO a1 + 0))) fun u3 =>
  nm (w1 u3 (kR a0) (kO a0 + 1) (u3.1 (kR a1) (kO a1 + 1))) fun u4 =>
  nm (w1 u4 (kR a0) (kO a0 + 2) (u4.1 (kR a1) (kO a1 + 2))) fun u5 =>
  some ((), u5)
set_option maxHeartbeats 4000000 in
set_option maxRecDepth 100000 in
theorem g_X1_become (a0 : Nat) (a1 : Nat) (u : Uw) : ∀ l, Con l yX1_become mi_X1_become ivV (fun ad => [.ref (ad a0), .ref (ad a1)]) u (f_X1_become a0 a1 u) := by
  refine con_of (by decide) rfl (fun _ => Nat.le_of_ble_eq_true rfl) (fun X ad => ?_)
  show Go X ad mi_X1_become ivV 0 [(0, .ref (ad a0)), (1, .ref (ad a1))] [] u (f_X1_become a0 a1 u)
  unfold f_X1_become
  refine go_aload_n 0 rfl dX1_become_0 rfl ?_
  refine go_aload_n 1 rfl dX1_become_1 rfl ?_
  refine go_ck (fun h1 => ?_)
  refine go_getI clX1 h1 0 (Nat.le_of_ble_eq_true rfl) (c := 0) (fun _ => rfl) gw17 dX1_become_2 ?_
  refine go_ck (fun h2 => ?_)
  refine go_putI clX1 h2 0 (Nat.le_of_ble_eq_true rfl) (c := 0) (fun _ => rfl) (by decide) (fty := .int) (tyX1_ok 0 (Nat.le_of_ble_eq_true rfl)) rfl rfl rfl (fun _ => Nat.le_of_ble_eq_true rfl) gw17 dX1_become_5 ?_
  refine go_nmU (fun u3 => ?_)
  refine go_aload_n 0 rfl dX1_become_8 rfl ?_
  refine go_aload_n 1 rfl dX1_become_9 rfl ?_
  refine go_getI clX1 h1 1 (Nat.le_of_ble_eq_true rfl) (c := 1) (fun _ => rfl) gw18 dX1_become_10 ?_
  refine go_putI clX1 h2 1 (Nat.le_of_ble_eq_true rfl) (c := 1) (fun _ => rfl) (by decide) (fty := .int) (tyX1_ok 1 (Nat.le_of_ble_eq_true rfl)) rfl rfl rfl (fun _ => Nat.le_of_ble_eq_true rfl) gw18 dX1_become_13 ?_
  refine go_nmU (fun u4 => ?_)
  refine go_aload_n 0 rfl dX1_become_16 rfl ?_
  refine go_aload_n 1 rfl dX1_become_17 rfl ?_
  refine go_getI clX1 h1 2 (Nat.le_of_ble_eq_true rfl) (c := 2) (fun _ => rfl) gw19 dX1_become_18 ?_
  refine go_putI clX1 h2 2 (Nat.le_of_ble_eq_true rfl) (c := 2) (fun _ => rfl) (by decide) (fty := .int) (tyX1_ok 2 (Nat.le_of_ble_eq_true rfl)) rfl rfl rfl (fun _ => Nat.le_of_ble_eq_true rfl) gw19 dX1_become_21 ?_
  refine go_nmU (fun u5 => ?_)
  exact go_vret rfl dX1_become_24
def f_X1_takeWater (a0 : Nat) (a1 : Int32) (a2 : Int32) (u : Uw) : Option (Unit × Uw) :=
  if a1 = 0 then
  (ck (kT a0 == 1) <|
  nm (w1 u (kR a0) (kO a0 + 0) (mnI (99 : Int32) ((u.1 (kR a0) (kO a0 + 0)) + (a2 / (2 : Int32))))) fun u2 =>
  some ((), u2))
  else
  (ck (kT a0 == 1) <|
  nm (w1 u (kR a0) (kO a0 + 0) (mxI (0 : Int32) ((u.1 (kR a0) (kO a0 + 0)) - a2))) fun u4 =>
  some ((), u4))
set_option maxHeartbeats 4000000 in
set_option maxRecDepth 100000 in
theorem g_X1_takeWater (a0 : Nat) (a1 : Int32) (a2 : Int32) (u : Uw) : ∀ l, Con l yX1_takeWater mi_X1_takeWater ivV (fun ad => [.ref (ad a0), .int a1, .int a2]) u (f_X1_takeWater a0 a1 a2 u) := by
  refine con_of (by decide) rfl (fun _ => Nat.le_of_ble_eq_true rfl) (fun X ad => ?_)
  show Go X ad mi_X1_takeWater ivV 0 [(0, .ref (ad a0)), (1, .int a1), (2, .int a2)] [] u (f_X1_takeWater a0 a1 a2 u)
  unfold f_X1_takeWater
  refine go_aload_n 0 rfl dX1_takeWater_0 rfl ?_
  refine go_iload_n 1 rfl dX1_takeWater_1 rfl ?_
  refine go_if_eq (tgt := 18) dX1_takeWater_2 (by decide) ?_ ?_
  · refine go_bipush (v := (99 : Int32)) dX1_takeWater_18 (by decide) ?_
    refine go_aload_n 0 rfl dX1_takeWater_20 rfl ?_
    refine go_ck (fun h1 => ?_)
    refine go_getI clX1 h1 0 (Nat.le_of_ble_eq_true rfl) (c := 0) (fun _ => rfl) gw17 dX1_takeWater_21 ?_
    refine go_iload_n 2 rfl dX1_takeWater_24 rfl ?_
    refine go_iconst (v := (2 : Int32)) dX1_takeWater_25 (by decide) ?_
    refine go_idiv (by decide) dX1_takeWater_26 ?_
    refine go_iadd dX1_takeWater_27 ?_
    refine go_min gw20 gw21 gw22 gw23 (Nat.le_of_ble_eq_true rfl) (Nat.le_of_ble_eq_true rfl) dX1_takeWater_28 ?_
    refine go_putI clX1 h1 0 (Nat.le_of_ble_eq_true rfl) (c := 0) (fun _ => rfl) (by decide) (fty := .int) (tyX1_ok 0 (Nat.le_of_ble_eq_true rfl)) rfl rfl rfl (fun _ => Nat.le_of_ble_eq_true rfl) gw17 dX1_takeWater_31 ?_
    refine go_nmU (fun u2 => ?_)
    exact go_vret rfl dX1_takeWater_34
  · refine go_iconst (v := (0 : Int32)) dX1_takeWater_5 (by decide) ?_
    refine go_aload_n 0 rfl dX1_takeWater_6 rfl ?_
    refine go_ck (fun h3 => ?_)
    refine go_getI clX1 h3 0 (Nat.le_of_ble_eq_true rfl) (c := 0) (fun _ => rfl) gw17 dX1_takeWater_7 ?_
    refine go_iload_n 2 rfl dX1_takeWater_10 rfl ?_
    refine go_isub dX1_takeWater_11 ?_
    refine go_max gw24 gw25 gw22 gw26 (Nat.le_of_ble_eq_true rfl) (Nat.le_of_ble_eq_true rfl) dX1_takeWater_12 ?_
    refine go_goto (tgt := 31) dX1_takeWater_15 (by decide) ?_
    refine go_putI clX1 h3 0 (Nat.le_of_ble_eq_true rfl) (c := 0) (fun _ => rfl) (by decide) (fty := .int) (tyX1_ok 0 (Nat.le_of_ble_eq_true rfl)) rfl rfl rfl (fun _ => Nat.le_of_ble_eq_true rfl) gw17 dX1_takeWater_31 ?_
    refine go_nmU (fun u4 => ?_)
    exact go_vret rfl dX1_takeWater_34
def f_X1_takeBath (a0 : Nat) (a1 : Int32) (a2 : Int32) (u : Uw) : Option (Unit × Uw) :=
  ck (kT a0 == 1) <|
  bd (f_X1_takeWater a0 a1 a2 u) fun r2 u3 =>
  nm (w1 u3 (kR a0) (kO a0 + 2) (mnI (9999 : Int32) ((u3.1 (kR a0) (kO a0 + 2)) + (1 : Int32)))) fun u4 =>
  some ((), u4)
set_option maxHeartbeats 4000000 in
set_option maxRecDepth 100000 in
theorem g_X1_takeBath (a0 : Nat) (a1 : Int32) (a2 : Int32) (u : Uw) : ∀ l, Con l yX1_takeBath mi_X1_takeBath ivV (fun ad => [.ref (ad a0), .int a1, .int a2]) u (f_X1_takeBath a0 a1 a2 u) := by
  refine con_of (by decide) rfl (fun _ => Nat.le_of_ble_eq_true rfl) (fun X ad => ?_)
  show Go X ad mi_X1_takeBath ivV 0 [(0, .ref (ad a0)), (1, .int a1), (2, .int a2)] [] u (f_X1_takeBath a0 a1 a2 u)
  unfold f_X1_takeBath
  refine go_aload_n 0 rfl dX1_takeBath_0 rfl ?_
  refine go_iload_n 1 rfl dX1_takeBath_1 rfl ?_
  refine go_iload_n 2 rfl dX1_takeBath_2 rfl ?_
  refine go_ck (fun h1 => ?_)
  refine go_callVV (As := fun ad => [.int a1, .int a2]) (g_X1_takeWater a0 a1 a2 u) mv_X1_takeWater clX1 h1 gw27 rfl ⟨Nat.le_of_ble_eq_true rfl, Nat.le_of_ble_eq_true rfl⟩ rfl (Nat.le_of_ble_eq_true rfl) dX1_takeBath_3 (fun r2 u3 => ?_)
  refine go_aload_n 0 rfl dX1_takeBath_6 rfl ?_
  refine go_sipush (v := (9999 : Int32)) dX1_takeBath_7 (by decide) ?_
  refine go_aload_n 0 rfl dX1_takeBath_10 rfl ?_
  refine go_getI clX1 h1 2 (Nat.le_of_ble_eq_true rfl) (c := 2) (fun _ => rfl) gw19 dX1_takeBath_11 ?_
  refine go_iconst (v := (1 : Int32)) dX1_takeBath_14 (by decide) ?_
  refine go_iadd dX1_takeBath_15 ?_
  refine go_min gw20 gw21 gw22 gw23 (Nat.le_of_ble_eq_true rfl) (Nat.le_of_ble_eq_true rfl) dX1_takeBath_16 ?_
  refine go_putI clX1 h1 2 (Nat.le_of_ble_eq_true rfl) (c := 2) (fun _ => rfl) (by decide) (fty := .int) (tyX1_ok 2 (Nat.le_of_ble_eq_true rfl)) rfl rfl rfl (fun _ => Nat.le_of_ble_eq_true rfl) gw19 dX1_takeBath_19 ?_
  refine go_nmU (fun u4 => ?_)
  exact go_vret rfl dX1_takeBath_22
def f_X5_isIn (a0 : Int32) (a1 : Int32) (u : Uw) : Option (Bool × Uw) :=
  if a1 < 0 then
  (some (false, u))
  else
  (if (6 : Int32) ≤ a1 then
  (some (false, u))
  else
  (if ((a0 >>> (a1 &&& 31)) &&& (1 : Int32)) = (1 : Int32) then
  (some (true, u))
  else
  (some (false, u))))
set_option maxHeartbeats 4000000 in
set_option maxRecDepth 100000 in
theorem g_X5_isIn (a0 : Int32) (a1 : Int32) (u : Uw) : ∀ l, Con l yX5_isIn mi_X5_isIn ivZ (fun ad => [.int a0, .int a1]) u (f_X5_isIn a0 a1 u) := by
  refine con_of (by decide) rfl (fun _ => Nat.le_of_ble_eq_true rfl) (fun X ad => ?_)
  show Go X ad mi_X5_isIn ivZ 0 [(0, .int a0), (1, .int a1)] [] u (f_X5_isIn a0 a1 u)
  unfold f_X5_isIn
  refine go_iload_n 1 rfl dX5_isIn_0 rfl ?_
  refine go_if_lt (tgt := 23) dX5_isIn_1 (by decide) ?_ ?_
  · refine go_iconst (v := (0 : Int32)) dX5_isIn_23 (by decide) ?_
    exact go_zret (b := false) rfl dX5_isIn_24
  · refine go_iload_n 1 rfl dX5_isIn_4 rfl ?_
    refine go_bipush (v := (6 : Int32)) dX5_isIn_5 (by decide) ?_
    refine go_icmp_ge (tgt := 23) dX5_isIn_7 (by decide) ?_ ?_
    · refine go_iconst (v := (0 : Int32)) dX5_isIn_23 (by decide) ?_
      exact go_zret (b := false) rfl dX5_isIn_24
    · refine go_iload_n 0 rfl dX5_isIn_10 rfl ?_
      refine go_iload_n 1 rfl dX5_isIn_11 rfl ?_
      refine go_ishr dX5_isIn_12 ?_
      refine go_iconst (v := (1 : Int32)) dX5_isIn_13 (by decide) ?_
      refine go_iand dX5_isIn_14 ?_
      refine go_iconst (v := (1 : Int32)) dX5_isIn_15 (by decide) ?_
      refine go_icmp_ne (tgt := 23) dX5_isIn_16 (by decide) ?_ ?_
      · refine go_iconst (v := (0 : Int32)) dX5_isIn_23 (by decide) ?_
        exact go_zret (b := false) rfl dX5_isIn_24
      · refine go_iconst (v := (1 : Int32)) dX5_isIn_19 (by decide) ?_
        refine go_goto (tgt := 24) dX5_isIn_20 (by decide) ?_
        exact go_zret (b := true) rfl dX5_isIn_24
def f_X1_passDay (a0 : Nat) (a1 : Int32) (a2 : Int32) (a3 : Int32) (u : Uw) : Option (Unit × Uw) :=
  ck (kT a0 == 1) <|
  if (u.1 (kR a0) (kO a0 + 0)) ≤ 0 then
  (some ((), u))
  else
  (if (u.1 (kR a0) (kO a0 + 1)) = (-1 : Int32) then
  (bd (f_X5_isIn a1 a2 u) fun r2 u3 =>
  bd (f_X1_takeBath a0 (bI r2) a3 u3) fun r4 u5 =>
  some ((), u5))
  else
  (bd (f_X5_isIn a1 (u.1 (kR a0) (kO a0 + 1)) u) fun r6 u7 =>
  if r6 = true then
  (bd (f_X5_isIn a1 a2 u7) fun r8 u9 =>
  bd (f_X1_takeBath a0 (bI r8) a3 u9) fun r10 u11 =>
  some ((), u11))
  else
  (some ((), u7))))
set_option maxHeartbeats 4000000 in
set_option maxRecDepth 100000 in
theorem g_X1_passDay (a0 : Nat) (a1 : Int32) (a2 : Int32) (a3 : Int32) (u : Uw) : ∀ l, Con l yX1_passDay mi_X1_passDay ivV (fun ad => [.ref (ad a0), .int a1, .int a2, .int a3]) u (f_X1_passDay a0 a1 a2 a3 u) := by
  refine con_of (by decide) rfl (fun _ => Nat.le_of_ble_eq_true rfl) (fun X ad => ?_)
  show Go X ad mi_X1_passDay ivV 0 [(0, .ref (ad a0)), (1, .int a1), (2, .int a2), (3, .int a3)] [] u (f_X1_passDay a0 a1 a2 a3 u)
  unfold f_X1_passDay
  refine go_aload_n 0 rfl dX1_passDay_0 rfl ?_
  refine go_ck (fun h1 => ?_)
  refine go_getI clX1 h1 0 (Nat.le_of_ble_eq_true rfl) (c := 0) (fun _ => rfl) gw17 dX1_passDay_1 ?_
  refine go_if_le (tgt := 36) dX1_passDay_4 (by decide) ?_ ?_
  · exact go_vret rfl dX1_passDay_36
  · refine go_aload_n 0 rfl dX1_passDay_7 rfl ?_
    refine go_getI clX1 h1 1 (Nat.le_of_ble_eq_true rfl) (c := 1) (fun _ => rfl) gw18 dX1_passDay_8 ?_
    refine go_iconst (v := (-1 : Int32)) dX1_passDay_11 (by decide) ?_
    refine go_icmp_eq (tgt := 26) dX1_passDay_12 (by decide) ?_ ?_
    · refine go_aload_n 0 rfl dX1_passDay_26 rfl ?_
      refine go_iload_n 1 rfl dX1_passDay_27 rfl ?_
      refine go_iload_n 2 rfl dX1_passDay_28 rfl ?_
      refine go_callSNZ (As := fun ad => [.int a1, .int a2]) (g_X5_isIn a1 a2 u) mo_X5_isIn gw28 gn29 rfl ⟨Nat.le_of_ble_eq_true rfl, Nat.le_of_ble_eq_true rfl⟩ rfl (Nat.le_of_ble_eq_true rfl) dX1_passDay_29 (fun r2 u3 => ?_)
      refine go_iload_n 3 rfl dX1_passDay_32 rfl ?_
      refine go_callVV (As := fun ad => [.int (bI r2), .int a3]) (g_X1_takeBath a0 (bI r2) a3 u3) mv_X1_takeBath clX1 h1 gw30 rfl ⟨Nat.le_of_ble_eq_true rfl, Nat.le_of_ble_eq_true rfl⟩ rfl (Nat.le_of_ble_eq_true rfl) dX1_passDay_33 (fun r4 u5 => ?_)
      exact go_vret rfl dX1_passDay_36
    · refine go_iload_n 1 rfl dX1_passDay_15 rfl ?_
      refine go_aload_n 0 rfl dX1_passDay_16 rfl ?_
      refine go_getI clX1 h1 1 (Nat.le_of_ble_eq_true rfl) (c := 1) (fun _ => rfl) gw18 dX1_passDay_17 ?_
      refine go_callSNZ (As := fun ad => [.int a1, .int (u.1 (kR a0) (kO a0 + 1))]) (g_X5_isIn a1 (u.1 (kR a0) (kO a0 + 1)) u) mo_X5_isIn gw28 gn29 rfl ⟨Nat.le_of_ble_eq_true rfl, Nat.le_of_ble_eq_true rfl⟩ rfl (Nat.le_of_ble_eq_true rfl) dX1_passDay_20 (fun r6 u7 => ?_)
      refine go_ifz_eq (tgt := 36) dX1_passDay_23 (by decide) ?_ ?_
      · exact go_vret rfl dX1_passDay_36
      · refine go_aload_n 0 rfl dX1_passDay_26 rfl ?_
        refine go_iload_n 1 rfl dX1_passDay_27 rfl ?_
        refine go_iload_n 2 rfl dX1_passDay_28 rfl ?_
        refine go_callSNZ (As := fun ad => [.int a1, .int a2]) (g_X5_isIn a1 a2 u7) mo_X5_isIn gw28 gn29 rfl ⟨Nat.le_of_ble_eq_true rfl, Nat.le_of_ble_eq_true rfl⟩ rfl (Nat.le_of_ble_eq_true rfl) dX1_passDay_29 (fun r8 u9 => ?_)
        refine go_iload_n 3 rfl dX1_passDay_32 rfl ?_
        refine go_callVV (As := fun ad => [.int (bI r8), .int a3]) (g_X1_takeBath a0 (bI r8) a3 u9) mv_X1_takeBath clX1 h1 gw30 rfl ⟨Nat.le_of_ble_eq_true rfl, Nat.le_of_ble_eq_true rfl⟩ rfl (Nat.le_of_ble_eq_true rfl) dX1_passDay_33 (fun r10 u11 => ?_)
        exact go_vret rfl dX1_passDay_36
def f_X2_allows (a0 : Int32) (u : Uw) : Option (Bool × Uw) :=
  if a0 = 0 then
  (some (true, u))
  else
  (if a0 = (8 : Int32) then
  (some (true, u))
  else
  (if a0 = (16 : Int32) then
  (some (true, u))
  else
  (if a0 = (64 : Int32) then
  (some (true, u))
  else
  (some (false, u)))))
set_option maxHeartbeats 4000000 in
set_option maxRecDepth 100000 in
theorem g_X2_allows (a0 : Int32) (u : Uw) : ∀ l, Con l yX2_allows mi_X2_allows ivZ (fun ad => [.int a0]) u (f_X2_allows a0 u) := by
  refine con_of (by decide) rfl (fun _ => Nat.le_of_ble_eq_true rfl) (fun X ad => ?_)
  show Go X ad mi_X2_allows ivZ 0 [(0, .int a0)] [] u (f_X2_allows a0 u)
  unfold f_X2_allows
  refine go_iload_n 0 rfl dX2_allows_0 rfl ?_
  refine go_if_eq (tgt := 22) dX2_allows_1 (by decide) ?_ ?_
  · refine go_iconst (v := (1 : Int32)) dX2_allows_22 (by decide) ?_
    refine go_goto (tgt := 27) dX2_allows_23 (by decide) ?_
    exact go_zret (b := true) rfl dX2_allows_27
  · refine go_iload_n 0 rfl dX2_allows_4 rfl ?_
    refine go_bipush (v := (8 : Int32)) dX2_allows_5 (by decide) ?_
    refine go_icmp_eq (tgt := 22) dX2_allows_7 (by decide) ?_ ?_
    · refine go_iconst (v := (1 : Int32)) dX2_allows_22 (by decide) ?_
      refine go_goto (tgt := 27) dX2_allows_23 (by decide) ?_
      exact go_zret (b := true) rfl dX2_allows_27
    · refine go_iload_n 0 rfl dX2_allows_10 rfl ?_
      refine go_bipush (v := (16 : Int32)) dX2_allows_11 (by decide) ?_
      refine go_icmp_eq (tgt := 22) dX2_allows_13 (by decide) ?_ ?_
      · refine go_iconst (v := (1 : Int32)) dX2_allows_22 (by decide) ?_
        refine go_goto (tgt := 27) dX2_allows_23 (by decide) ?_
        exact go_zret (b := true) rfl dX2_allows_27
      · refine go_iload_n 0 rfl dX2_allows_16 rfl ?_
        refine go_bipush (v := (64 : Int32)) dX2_allows_17 (by decide) ?_
        refine go_icmp_ne (tgt := 26) dX2_allows_19 (by decide) ?_ ?_
        · refine go_iconst (v := (0 : Int32)) dX2_allows_26 (by decide) ?_
          exact go_zret (b := false) rfl dX2_allows_27
        · refine go_iconst (v := (1 : Int32)) dX2_allows_22 (by decide) ?_
          refine go_goto (tgt := 27) dX2_allows_23 (by decide) ?_
          exact go_zret (b := true) rfl dX2_allows_27
def b_X2_lay_29 (ih29 : Nat × Int32 × Uw → Option (Unit × Uw)) (s : Nat × Int32 × Uw) : Option (Unit × Uw) :=
  ck (kT s.1 == 2) <|
  ck (kT (s.1 + 4) == 11) <|
  if (Int32.ofNat (kL (s.1 + 4))) ≤ s.2.1 then
  (some ((), s.2.2))
  else
  (ck (inb s.2.1 (kL (s.1 + 4))) <|
  nm (w2 s.2.2 (kR (s.1 + 4)) s.2.1.toNatClampNeg (0 : Int64)) fun u7 =>
  ih29 (s.1, (s.2.1 + (1 : Int32)), u7))
def f_X2_lay (a0 : Nat) (a1 : Int32) (a2 : Int32) (u : Uw) : Option (Unit × Uw) :=
  ck (kT a0 == 2) <|
  nm (w1 u (kR a0) (kO a0 + 0) a1) fun u2 =>
  if a1 = 0 then
  (nm (w1 u2 (kR a0) (kO a0 + 1) (0 : Int32)) fun u8 =>
  lp b_X2_lay_29 2100 (a0, (0 : Int32), u8))
  else
  (nm (w1 u2 (kR a0) (kO a0 + 1) (mxI (0 : Int32) (mnI (40 : Int32) a2))) fun u3 =>
  lp b_X2_lay_29 2100 (a0, (0 : Int32), u3))
set_option maxHeartbeats 4000000 in
set_option maxRecDepth 100000 in
theorem gl_X2_lay_29 (X : Cx) (ad : Nat → Nat) : ∀ (n : Nat) (s : Nat × Int32 × Uw), Go X ad mi_X2_lay ivV 29 [(0, .ref (ad s.1)), (3, .int s.2.1)] [] s.2.2 (lp b_X2_lay_29 n s) := by
  refine go_lp (G := fun (s : Nat × Int32 × Uw) o => Go X ad mi_X2_lay ivV 29 [(0, .ref (ad s.1)), (3, .int s.2.1)] [] s.2.2 o) (fun _ => go_none) (fun ih29 hih29 s => ?_)
  show Go X ad mi_X2_lay ivV 29 [(0, .ref (ad s.1)), (3, .int s.2.1)] [] s.2.2 (b_X2_lay_29 ih29 s)
  unfold b_X2_lay_29
  refine go_iload_n 1 rfl dX2_lay_29 rfl ?_
  refine go_aload_n 0 rfl dX2_lay_30 rfl ?_
  refine go_ck (fun h4 => ?_)
  refine go_getR clX2 h4 2 (Nat.le_of_ble_eq_true rfl) (f := (s.1 + 4)) (fun _ => rfl) gw35 dX2_lay_31 ?_
  refine go_ck (fun h5 => ?_)
  refine go_alen11 h5 rfl dX2_lay_34 ?_
  refine go_icmp_ge (tgt := 51) dX2_lay_35 (by decide) ?_ ?_
  · exact go_vret rfl dX2_lay_51
  · refine go_aload_n 0 rfl dX2_lay_38 rfl ?_
    refine go_getR clX2 h4 2 (Nat.le_of_ble_eq_true rfl) (f := (s.1 + 4)) (fun _ => rfl) gw35 dX2_lay_39 ?_
    refine go_iload_n 1 rfl dX2_lay_42 rfl ?_
    refine go_lconst (v := (0 : Int64)) dX2_lay_43 (by decide) ?_
    refine go_ck (fun h6 => ?_)
    refine go_last h5 h6 dX2_lay_44 ?_
    refine go_nmU (fun u7 => ?_)
    refine go_iinc (v := (s.2.1 + (1 : Int32))) (lv' := [(3, .int (s.2.1 + (1 : Int32))), (0, .ref (ad s.1))]) 1 rfl dX2_lay_45 rfl (Nat.le_of_ble_eq_true rfl) rfl ?_
    refine go_goto (tgt := 29) dX2_lay_48 (by decide) ?_
    exact go_sub [1, 0] rfl (hih29 (s.1, (s.2.1 + (1 : Int32)), u7))
set_option maxHeartbeats 4000000 in
set_option maxRecDepth 100000 in
theorem g_X2_lay (a0 : Nat) (a1 : Int32) (a2 : Int32) (u : Uw) : ∀ l, Con l yX2_lay mi_X2_lay ivV (fun ad => [.ref (ad a0), .int a1, .int a2]) u (f_X2_lay a0 a1 a2 u) := by
  refine con_of (by decide) rfl (fun _ => Nat.le_of_ble_eq_true rfl) (fun X ad => ?_)
  show Go X ad mi_X2_lay ivV 0 [(0, .ref (ad a0)), (1, .int a1), (2, .int a2)] [] u (f_X2_lay a0 a1 a2 u)
  unfold f_X2_lay
  refine go_aload_n 0 rfl dX2_lay_0 rfl ?_
  refine go_iload_n 1 rfl dX2_lay_1 rfl ?_
  refine go_ck (fun h1 => ?_)
  refine go_putI clX2 h1 0 (Nat.le_of_ble_eq_true rfl) (c := 0) (fun _ => rfl) (by decide) (fty := .int) (tyX2_ok 0 (Nat.le_of_ble_eq_true rfl)) rfl rfl rfl (fun _ => Nat.le_of_ble_eq_true rfl) gw31 dX2_lay_2 ?_
  refine go_nmU (fun u2 => ?_)
  refine go_aload_n 0 rfl dX2_lay_5 rfl ?_
  refine go_iload_n 1 rfl dX2_lay_6 rfl ?_
  refine go_if_ne (tgt := 14) dX2_lay_7 (by decide) ?_ ?_
  · refine go_iconst (v := (0 : Int32)) dX2_lay_14 (by decide) ?_
    refine go_bipush (v := (40 : Int32)) dX2_lay_15 (by decide) ?_
    refine go_iload_n 2 rfl dX2_lay_17 rfl ?_
    refine go_min gw32 gw21 gw22 gw23 (Nat.le_of_ble_eq_true rfl) (Nat.le_of_ble_eq_true rfl) dX2_lay_18 ?_
    refine go_max gw33 gw25 gw22 gw26 (Nat.le_of_ble_eq_true rfl) (Nat.le_of_ble_eq_true rfl) dX2_lay_21 ?_
    refine go_putI clX2 h1 1 (Nat.le_of_ble_eq_true rfl) (c := 1) (fun _ => rfl) (by decide) (fty := .int) (tyX2_ok 1 (Nat.le_of_ble_eq_true rfl)) rfl rfl rfl (fun _ => Nat.le_of_ble_eq_true rfl) gw34 dX2_lay_24 ?_
    refine go_nmU (fun u3 => ?_)
    refine go_iconst (v := (0 : Int32)) dX2_lay_27 (by decide) ?_
    refine go_istore_n (lv' := [(3, .int (0 : Int32)), (0, .ref (ad a0)), (1, .int a1), (2, .int a2)]) dX2_lay_28 rfl (Nat.le_of_ble_eq_true rfl) rfl ?_
    exact go_sub [1, 0] rfl (gl_X2_lay_29 X ad  2100 (a0, (0 : Int32), u3))
  · refine go_iconst (v := (0 : Int32)) dX2_lay_10 (by decide) ?_
    refine go_goto (tgt := 24) dX2_lay_11 (by decide) ?_
    refine go_putI clX2 h1 1 (Nat.le_of_ble_eq_true rfl) (c := 1) (fun _ => rfl) (by decide) (fty := .int) (tyX2_ok 1 (Nat.le_of_ble_eq_true rfl)) rfl rfl rfl (fun _ => Nat.le_of_ble_eq_true rfl) gw34 dX2_lay_24 ?_
    refine go_nmU (fun u8 => ?_)
    refine go_iconst (v := (0 : Int32)) dX2_lay_27 (by decide) ?_
    refine go_istore_n (lv' := [(3, .int (0 : Int32)), (0, .ref (ad a0)), (1, .int a1), (2, .int a2)]) dX2_lay_28 rfl (Nat.le_of_ble_eq_true rfl) rfl ?_
    exact go_sub [1, 0] rfl (gl_X2_lay_29 X ad  2100 (a0, (0 : Int32), u8))
def f_X2_isMissing (a0 : Nat) (u : Uw) : Option (Bool × Uw) :=
  ck (kT a0 == 2) <|
  if (u.1 (kR a0) (kO a0 + 0)) = 0 then
  (some (true, u))
  else
  (some (false, u))
set_option maxHeartbeats 4000000 in
set_option maxRecDepth 100000 in
theorem g_X2_isMissing (a0 : Nat) (u : Uw) : ∀ l, Con l yX2_isMissing mi_X2_isMissing ivZ (fun ad => [.ref (ad a0)]) u (f_X2_isMissing a0 u) := by
  refine con_of (by decide) rfl (fun _ => Nat.le_of_ble_eq_true rfl) (fun X ad => ?_)
  show Go X ad mi_X2_isMissing ivZ 0 [(0, .ref (ad a0))] [] u (f_X2_isMissing a0 u)
  unfold f_X2_isMissing
  refine go_aload_n 0 rfl dX2_isMissing_0 rfl ?_
  refine go_ck (fun h1 => ?_)
  refine go_getI clX2 h1 0 (Nat.le_of_ble_eq_true rfl) (c := 0) (fun _ => rfl) gw31 dX2_isMissing_1 ?_
  refine go_if_ne (tgt := 11) dX2_isMissing_4 (by decide) ?_ ?_
  · refine go_iconst (v := (0 : Int32)) dX2_isMissing_11 (by decide) ?_
    exact go_zret (b := false) rfl dX2_isMissing_12
  · refine go_iconst (v := (1 : Int32)) dX2_isMissing_7 (by decide) ?_
    refine go_goto (tgt := 12) dX2_isMissing_8 (by decide) ?_
    exact go_zret (b := true) rfl dX2_isMissing_12
def f_X2_hasRange (a0 : Nat) (a1 : Int32) (a2 : Int32) (u : Uw) : Option (Bool × Uw) :=
  if a1 < 0 then
  (some (false, u))
  else
  (if a2 < 0 then
  (some (false, u))
  else
  (ck (kT a0 == 2) <|
  if (u.1 (kR a0) (kO a0 + 1)) < a1 then
  (some (false, u))
  else
  (if ((u.1 (kR a0) (kO a0 + 1)) - a1) < a2 then
  (some (false, u))
  else
  (some (true, u)))))
set_option maxHeartbeats 4000000 in
set_option maxRecDepth 100000 in
theorem g_X2_hasRange (a0 : Nat) (a1 : Int32) (a2 : Int32) (u : Uw) : ∀ l, Con l yX2_hasRange mi_X2_hasRange ivZ (fun ad => [.ref (ad a0), .int a1, .int a2]) u (f_X2_hasRange a0 a1 a2 u) := by
  refine con_of (by decide) rfl (fun _ => Nat.le_of_ble_eq_true rfl) (fun X ad => ?_)
  show Go X ad mi_X2_hasRange ivZ 0 [(0, .ref (ad a0)), (1, .int a1), (2, .int a2)] [] u (f_X2_hasRange a0 a1 a2 u)
  unfold f_X2_hasRange
  refine go_iload_n 1 rfl dX2_hasRange_0 rfl ?_
  refine go_if_lt (tgt := 30) dX2_hasRange_1 (by decide) ?_ ?_
  · refine go_iconst (v := (0 : Int32)) dX2_hasRange_30 (by decide) ?_
    exact go_zret (b := false) rfl dX2_hasRange_31
  · refine go_iload_n 2 rfl dX2_hasRange_4 rfl ?_
    refine go_if_lt (tgt := 30) dX2_hasRange_5 (by decide) ?_ ?_
    · refine go_iconst (v := (0 : Int32)) dX2_hasRange_30 (by decide) ?_
      exact go_zret (b := false) rfl dX2_hasRange_31
    · refine go_iload_n 1 rfl dX2_hasRange_8 rfl ?_
      refine go_aload_n 0 rfl dX2_hasRange_9 rfl ?_
      refine go_ck (fun h1 => ?_)
      refine go_getI clX2 h1 1 (Nat.le_of_ble_eq_true rfl) (c := 1) (fun _ => rfl) gw34 dX2_hasRange_10 ?_
      refine go_icmp_gt (tgt := 30) dX2_hasRange_13 (by decide) ?_ ?_
      · refine go_iconst (v := (0 : Int32)) dX2_hasRange_30 (by decide) ?_
        exact go_zret (b := false) rfl dX2_hasRange_31
      · refine go_iload_n 2 rfl dX2_hasRange_16 rfl ?_
        refine go_aload_n 0 rfl dX2_hasRange_17 rfl ?_
        refine go_getI clX2 h1 1 (Nat.le_of_ble_eq_true rfl) (c := 1) (fun _ => rfl) gw34 dX2_hasRange_18 ?_
        refine go_iload_n 1 rfl dX2_hasRange_21 rfl ?_
        refine go_isub dX2_hasRange_22 ?_
        refine go_icmp_gt (tgt := 30) dX2_hasRange_23 (by decide) ?_ ?_
        · refine go_iconst (v := (0 : Int32)) dX2_hasRange_30 (by decide) ?_
          exact go_zret (b := false) rfl dX2_hasRange_31
        · refine go_iconst (v := (1 : Int32)) dX2_hasRange_26 (by decide) ?_
          refine go_goto (tgt := 31) dX2_hasRange_27 (by decide) ?_
          exact go_zret (b := true) rfl dX2_hasRange_31
def f_X2_numberAt (a0 : Nat) (a1 : Int32) (u : Uw) : Option (Int64 × Uw) :=
  if a1 < 0 then
  (some ((0 : Int64), u))
  else
  (ck (kT a0 == 2) <|
  if (u.1 (kR a0) (kO a0 + 1)) ≤ a1 then
  (some ((0 : Int64), u))
  else
  (ck (kT (a0 + 4) == 11) <|
  ck (inb a1 (kL (a0 + 4))) <|
  nm (u.2 (kR (a0 + 4)) a1.toNatClampNeg) fun x4 =>
  some (x4, u)))
set_option maxHeartbeats 4000000 in
set_option maxRecDepth 100000 in
theorem g_X2_numberAt (a0 : Nat) (a1 : Int32) (u : Uw) : ∀ l, Con l yX2_numberAt mi_X2_numberAt ivL (fun ad => [.ref (ad a0), .int a1]) u (f_X2_numberAt a0 a1 u) := by
  refine con_of (by decide) rfl (fun _ => Nat.le_of_ble_eq_true rfl) (fun X ad => ?_)
  show Go X ad mi_X2_numberAt ivL 0 [(0, .ref (ad a0)), (1, .int a1)] [] u (f_X2_numberAt a0 a1 u)
  unfold f_X2_numberAt
  refine go_iload_n 1 rfl dX2_numberAt_0 rfl ?_
  refine go_if_lt (tgt := 21) dX2_numberAt_1 (by decide) ?_ ?_
  · refine go_lconst (v := (0 : Int64)) dX2_numberAt_21 (by decide) ?_
    exact go_lret rfl dX2_numberAt_22
  · refine go_iload_n 1 rfl dX2_numberAt_4 rfl ?_
    refine go_aload_n 0 rfl dX2_numberAt_5 rfl ?_
    refine go_ck (fun h1 => ?_)
    refine go_getI clX2 h1 1 (Nat.le_of_ble_eq_true rfl) (c := 1) (fun _ => rfl) gw34 dX2_numberAt_6 ?_
    refine go_icmp_ge (tgt := 21) dX2_numberAt_9 (by decide) ?_ ?_
    · refine go_lconst (v := (0 : Int64)) dX2_numberAt_21 (by decide) ?_
      exact go_lret rfl dX2_numberAt_22
    · refine go_aload_n 0 rfl dX2_numberAt_12 rfl ?_
      refine go_getR clX2 h1 2 (Nat.le_of_ble_eq_true rfl) (f := (a0 + 4)) (fun _ => rfl) gw35 dX2_numberAt_13 ?_
      refine go_iload_n 1 rfl dX2_numberAt_16 rfl ?_
      refine go_ck (fun h2 => ?_)
      refine go_ck (fun h3 => ?_)
      refine go_lald h2 h3 dX2_numberAt_17 ?_
      refine go_nmL (fun x4 => ?_)
      refine go_goto (tgt := 22) dX2_numberAt_18 (by decide) ?_
      exact go_lret rfl dX2_numberAt_22
def f_X2_lowest (a0 : Nat) (a1 : Int64) (u : Uw) : Option (Int64 × Uw) :=
  ck (kT a0 == 2) <|
  if (u.1 (kR a0) (kO a0 + 0)) = (8 : Int32) then
  (some ((((a1.toInt32).toInt8.toInt32).toInt64), u))
  else
  (if (u.1 (kR a0) (kO a0 + 0)) = (16 : Int32) then
  (some ((((a1.toInt32).toInt16.toInt32).toInt64), u))
  else
  (some (a1, u)))
set_option maxHeartbeats 4000000 in
set_option maxRecDepth 100000 in
theorem g_X2_lowest (a0 : Nat) (a1 : Int64) (u : Uw) : ∀ l, Con l yX2_lowest mi_X2_lowest ivL (fun ad => [.ref (ad a0), .long a1]) u (f_X2_lowest a0 a1 u) := by
  refine con_of (by decide) rfl (fun _ => Nat.le_of_ble_eq_true rfl) (fun X ad => ?_)
  show Go X ad mi_X2_lowest ivL 0 [(0, .ref (ad a0)), (1, .long a1)] [] u (f_X2_lowest a0 a1 u)
  unfold f_X2_lowest
  refine go_aload_n 0 rfl dX2_lowest_0 rfl ?_
  refine go_ck (fun h1 => ?_)
  refine go_getI clX2 h1 0 (Nat.le_of_ble_eq_true rfl) (c := 0) (fun _ => rfl) gw31 dX2_lowest_1 ?_
  refine go_bipush (v := (8 : Int32)) dX2_lowest_4 (by decide) ?_
  refine go_icmp_ne (tgt := 14) dX2_lowest_6 (by decide) ?_ ?_
  · refine go_aload_n 0 rfl dX2_lowest_14 rfl ?_
    refine go_getI clX2 h1 0 (Nat.le_of_ble_eq_true rfl) (c := 0) (fun _ => rfl) gw31 dX2_lowest_15 ?_
    refine go_bipush (v := (16 : Int32)) dX2_lowest_18 (by decide) ?_
    refine go_icmp_ne (tgt := 30) dX2_lowest_20 (by decide) ?_ ?_
    · refine go_lload_n 1 rfl dX2_lowest_30 rfl ?_
      exact go_lret rfl dX2_lowest_31
    · refine go_lload_n 1 rfl dX2_lowest_23 rfl ?_
      refine go_l2i dX2_lowest_24 ?_
      refine go_i2s dX2_lowest_25 ?_
      refine go_i2l dX2_lowest_26 ?_
      refine go_goto (tgt := 31) dX2_lowest_27 (by decide) ?_
      exact go_lret rfl dX2_lowest_31
  · refine go_lload_n 1 rfl dX2_lowest_9 rfl ?_
    refine go_l2i dX2_lowest_10 ?_
    refine go_i2b dX2_lowest_11 ?_
    refine go_i2l dX2_lowest_12 ?_
    exact go_lret rfl dX2_lowest_13
def f_X2_put (a0 : Nat) (a1 : Int32) (a2 : Int64) (u : Uw) : Option (Unit × Uw) :=
  if a1 < 0 then
  (some ((), u))
  else
  (ck (kT a0 == 2) <|
  if (u.1 (kR a0) (kO a0 + 1)) ≤ a1 then
  (some ((), u))
  else
  (bd (f_X2_lowest a0 a2 u) fun r2 u3 =>
  ck (kT (a0 + 4) == 11) <|
  ck (inb a1 (kL (a0 + 4))) <|
  nm (w2 u3 (kR (a0 + 4)) a1.toNatClampNeg r2) fun u6 =>
  some ((), u6)))
set_option maxHeartbeats 4000000 in
set_option maxRecDepth 100000 in
theorem g_X2_put (a0 : Nat) (a1 : Int32) (a2 : Int64) (u : Uw) : ∀ l, Con l yX2_put mi_X2_put ivV (fun ad => [.ref (ad a0), .int a1, .long a2]) u (f_X2_put a0 a1 a2 u) := by
  refine con_of (by decide) rfl (fun _ => Nat.le_of_ble_eq_true rfl) (fun X ad => ?_)
  show Go X ad mi_X2_put ivV 0 [(0, .ref (ad a0)), (1, .int a1), (2, .long a2)] [] u (f_X2_put a0 a1 a2 u)
  unfold f_X2_put
  refine go_iload_n 1 rfl dX2_put_0 rfl ?_
  refine go_if_lt (tgt := 23) dX2_put_1 (by decide) ?_ ?_
  · exact go_vret rfl dX2_put_23
  · refine go_iload_n 1 rfl dX2_put_4 rfl ?_
    refine go_aload_n 0 rfl dX2_put_5 rfl ?_
    refine go_ck (fun h1 => ?_)
    refine go_getI clX2 h1 1 (Nat.le_of_ble_eq_true rfl) (c := 1) (fun _ => rfl) gw34 dX2_put_6 ?_
    refine go_icmp_ge (tgt := 23) dX2_put_9 (by decide) ?_ ?_
    · exact go_vret rfl dX2_put_23
    · refine go_aload_n 0 rfl dX2_put_12 rfl ?_
      refine go_getR clX2 h1 2 (Nat.le_of_ble_eq_true rfl) (f := (a0 + 4)) (fun _ => rfl) gw35 dX2_put_13 ?_
      refine go_iload_n 1 rfl dX2_put_16 rfl ?_
      refine go_aload_n 0 rfl dX2_put_17 rfl ?_
      refine go_lload_n 2 rfl dX2_put_18 rfl ?_
      refine go_callVL (As := fun ad => [.long a2]) (g_X2_lowest a0 a2 u) mv_X2_lowest clX2 h1 gw36 rfl ⟨Nat.le_of_ble_eq_true rfl, Nat.le_of_ble_eq_true rfl⟩ rfl (Nat.le_of_ble_eq_true rfl) dX2_put_19 (fun r2 u3 => ?_)
      refine go_ck (fun h4 => ?_)
      refine go_ck (fun h5 => ?_)
      refine go_last h4 h5 dX2_put_22 ?_
      refine go_nmU (fun u6 => ?_)
      exact go_vret rfl dX2_put_23
def b_X3_become_90 (ih90 : Nat × Nat × Int32 × Uw → Option (Unit × Uw)) (s : Nat × Nat × Int32 × Uw) : Option (Unit × Uw) :=
  ck (kT s.1 == 3) <|
  ck (kT (s.1 + 2) == 14) <|
  if (8 : Int32) ≤ s.2.2.1 then
  (some ((), s.2.2.2))
  else
  (ck (inb s.2.2.1 8) <|
  nm ((s.1 + 2) + 13 + s.2.2.1.toNatClampNeg) fun e15 =>
  ck (kT s.2.1 == 3) <|
  ck (kT (s.2.1 + 2) == 14) <|
  nm ((s.2.1 + 2) + 13 + s.2.2.1.toNatClampNeg) fun e18 =>
  ck (kT e15 == 1) <|
  bd (f_X1_become e15 e18 s.2.2.2) fun r20 u21 =>
  ih90 (s.1, s.2.1, (s.2.2.1 + (1 : Int32)), u21))
def b_X3_become_58 (ih58 : Nat × Nat × Int32 × Uw → Option (Unit × Uw)) (s : Nat × Nat × Int32 × Uw) : Option (Unit × Uw) :=
  ck (kT s.1 == 3) <|
  ck (kT (s.1 + 1) == 13) <|
  if (6 : Int32) ≤ s.2.2.1 then
  (lp b_X3_become_90 2100 (s.1, s.2.1, (0 : Int32), s.2.2.2))
  else
  (ck (inb s.2.2.1 6) <|
  nm ((s.1 + 1) + 2 + s.2.2.1.toNatClampNeg) fun e23 =>
  ck (kT s.2.1 == 3) <|
  ck (kT (s.2.1 + 1) == 13) <|
  nm ((s.2.1 + 1) + 2 + s.2.2.1.toNatClampNeg) fun e26 =>
  ck (kT e23 == 0) <|
  bd (f_X0_become e23 e26 s.2.2.2) fun r28 u29 =>
  ih58 (s.1, s.2.1, (s.2.2.1 + (1 : Int32)), u29))
def f_X3_become (a0 : Nat) (a1 : Nat) (u : Uw) : Option (Unit × Uw) :=
  ck (kT a1 == 3) <|
  ck (kT a0 == 3) <|
  nm (w1 u (kR a0) (kO a0 + 2) (u.1 (kR a1) (kO a1 + 2))) fun u3 =>
  nm (w1 u3 (kR a0) (kO a0 + 3) (u3.1 (kR a1) (kO a1 + 3))) fun u4 =>
  nm (w1 u4 (kR a0) (kO a0 + 4) (u4.1 (kR a1) (kO a1 + 4))) fun u5 =>
  nm (w1 u5 (kR a0) (kO a0 + 5) (u5.1 (kR a1) (kO a1 + 5))) fun u6 =>
  nm (w1 u6 (kR a0) (kO a0 + 6) (u6.1 (kR a1) (kO a1 + 6))) fun u7 =>
  nm (w1 u7 (kR a0) (kO a0 + 0) (u7.1 (kR a1) (kO a1 + 0))) fun u8 =>
  nm (w1 u8 (kR a0) (kO a0 + 1) (u8.1 (kR a1) (kO a1 + 1))) fun u9 =>
  lp b_X3_become_58 2100 (a0, a1, (0 : Int32), u9)
set_option maxHeartbeats 4000000 in
set_option maxRecDepth 100000 in
theorem gl_X3_become_90 (X : Cx) (ad : Nat → Nat) : ∀ (n : Nat) (s : Nat × Nat × Int32 × Uw), Go X ad mi_X3_become ivV 90 [(0, .ref (ad s.1)), (1, .ref (ad s.2.1)), (2, .int s.2.2.1)] [] s.2.2.2 (lp b_X3_become_90 n s) := by
  refine go_lp (G := fun (s : Nat × Nat × Int32 × Uw) o => Go X ad mi_X3_become ivV 90 [(0, .ref (ad s.1)), (1, .ref (ad s.2.1)), (2, .int s.2.2.1)] [] s.2.2.2 o) (fun _ => go_none) (fun ih90 hih90 s => ?_)
  show Go X ad mi_X3_become ivV 90 [(0, .ref (ad s.1)), (1, .ref (ad s.2.1)), (2, .int s.2.2.1)] [] s.2.2.2 (b_X3_become_90 ih90 s)
  unfold b_X3_become_90
  refine go_iload_n 2 rfl dX3_become_90 rfl ?_
  refine go_aload_n 0 rfl dX3_become_91 rfl ?_
  refine go_ck (fun h12 => ?_)
  refine go_getR clX3 h12 8 (Nat.le_of_ble_eq_true rfl) (f := (s.1 + 2)) (fun _ => rfl) gw45 dX3_become_92 ?_
  refine go_ck (fun h13 => ?_)
  refine go_alen14 h13 dX3_become_95 ?_
  refine go_icmp_ge (tgt := 120) dX3_become_96 (by decide) ?_ ?_
  · exact go_vret rfl dX3_become_120
  · refine go_aload_n 0 rfl dX3_become_99 rfl ?_
    refine go_getR clX3 h12 8 (Nat.le_of_ble_eq_true rfl) (f := (s.1 + 2)) (fun _ => rfl) gw45 dX3_become_100 ?_
    refine go_iload_n 2 rfl dX3_become_103 rfl ?_
    refine go_ck (fun h14 => ?_)
    refine go_aald14 h13 h14 dX3_become_104 ?_
    refine go_nmR (fun e15 => ?_)
    refine go_aload_n 1 rfl dX3_become_105 rfl ?_
    refine go_ck (fun h16 => ?_)
    refine go_getR clX3 h16 8 (Nat.le_of_ble_eq_true rfl) (f := (s.2.1 + 2)) (fun _ => rfl) gw45 dX3_become_106 ?_
    refine go_iload_n 2 rfl dX3_become_109 rfl ?_
    refine go_ck (fun h17 => ?_)
    refine go_aald14 h17 h14 dX3_become_110 ?_
    refine go_nmR (fun e18 => ?_)
    refine go_ck (fun h19 => ?_)
    refine go_callVV (As := fun ad => [.ref (ad e18)]) (g_X1_become e15 e18 s.2.2.2) mv_X1_become clX1 h19 gw46 rfl ⟨Nat.le_of_ble_eq_true rfl, Nat.le_of_ble_eq_true rfl⟩ rfl (Nat.le_of_ble_eq_true rfl) dX3_become_111 (fun r20 u21 => ?_)
    refine go_iinc (v := (s.2.2.1 + (1 : Int32))) (lv' := [(2, .int (s.2.2.1 + (1 : Int32))), (0, .ref (ad s.1)), (1, .ref (ad s.2.1))]) 2 rfl dX3_become_114 rfl (Nat.le_of_ble_eq_true rfl) rfl ?_
    refine go_goto (tgt := 90) dX3_become_117 (by decide) ?_
    exact go_sub [1, 2, 0] rfl (hih90 (s.1, s.2.1, (s.2.2.1 + (1 : Int32)), u21))
set_option maxHeartbeats 4000000 in
set_option maxRecDepth 100000 in
theorem gl_X3_become_58 (X : Cx) (ad : Nat → Nat) : ∀ (n : Nat) (s : Nat × Nat × Int32 × Uw), Go X ad mi_X3_become ivV 58 [(0, .ref (ad s.1)), (1, .ref (ad s.2.1)), (2, .int s.2.2.1)] [] s.2.2.2 (lp b_X3_become_58 n s) := by
  refine go_lp (G := fun (s : Nat × Nat × Int32 × Uw) o => Go X ad mi_X3_become ivV 58 [(0, .ref (ad s.1)), (1, .ref (ad s.2.1)), (2, .int s.2.2.1)] [] s.2.2.2 o) (fun _ => go_none) (fun ih58 hih58 s => ?_)
  show Go X ad mi_X3_become ivV 58 [(0, .ref (ad s.1)), (1, .ref (ad s.2.1)), (2, .int s.2.2.1)] [] s.2.2.2 (b_X3_become_58 ih58 s)
  unfold b_X3_become_58
  refine go_iload_n 2 rfl dX3_become_58 rfl ?_
  refine go_aload_n 0 rfl dX3_become_59 rfl ?_
  refine go_ck (fun h10 => ?_)
  refine go_getR clX3 h10 7 (Nat.le_of_ble_eq_true rfl) (f := (s.1 + 1)) (fun _ => rfl) gw44 dX3_become_60 ?_
  refine go_ck (fun h11 => ?_)
  refine go_alen13 h11 dX3_become_63 ?_
  refine go_icmp_ge (tgt := 88) dX3_become_64 (by decide) ?_ ?_
  · refine go_iconst (v := (0 : Int32)) dX3_become_88 (by decide) ?_
    refine go_istore_n (lv' := [(2, .int (0 : Int32)), (0, .ref (ad s.1)), (1, .ref (ad s.2.1))]) dX3_become_89 rfl (Nat.le_of_ble_eq_true rfl) rfl ?_
    exact go_sub [1, 2, 0] rfl (gl_X3_become_90 X ad  2100 (s.1, s.2.1, (0 : Int32), s.2.2.2))
  · refine go_aload_n 0 rfl dX3_become_67 rfl ?_
    refine go_getR clX3 h10 7 (Nat.le_of_ble_eq_true rfl) (f := (s.1 + 1)) (fun _ => rfl) gw44 dX3_become_68 ?_
    refine go_iload_n 2 rfl dX3_become_71 rfl ?_
    refine go_ck (fun h22 => ?_)
    refine go_aald13 h11 h22 dX3_become_72 ?_
    refine go_nmR (fun e23 => ?_)
    refine go_aload_n 1 rfl dX3_become_73 rfl ?_
    refine go_ck (fun h24 => ?_)
    refine go_getR clX3 h24 7 (Nat.le_of_ble_eq_true rfl) (f := (s.2.1 + 1)) (fun _ => rfl) gw44 dX3_become_74 ?_
    refine go_iload_n 2 rfl dX3_become_77 rfl ?_
    refine go_ck (fun h25 => ?_)
    refine go_aald13 h25 h22 dX3_become_78 ?_
    refine go_nmR (fun e26 => ?_)
    refine go_ck (fun h27 => ?_)
    refine go_callVV (As := fun ad => [.ref (ad e26)]) (g_X0_become e23 e26 s.2.2.2) mv_X0_become clX0 h27 gw47 rfl ⟨Nat.le_of_ble_eq_true rfl, Nat.le_of_ble_eq_true rfl⟩ rfl (Nat.le_of_ble_eq_true rfl) dX3_become_79 (fun r28 u29 => ?_)
    refine go_iinc (v := (s.2.2.1 + (1 : Int32))) (lv' := [(2, .int (s.2.2.1 + (1 : Int32))), (0, .ref (ad s.1)), (1, .ref (ad s.2.1))]) 2 rfl dX3_become_82 rfl (Nat.le_of_ble_eq_true rfl) rfl ?_
    refine go_goto (tgt := 58) dX3_become_85 (by decide) ?_
    exact go_sub [1, 2, 0] rfl (hih58 (s.1, s.2.1, (s.2.2.1 + (1 : Int32)), u29))
set_option maxHeartbeats 4000000 in
set_option maxRecDepth 100000 in
theorem g_X3_become (a0 : Nat) (a1 : Nat) (u : Uw) : ∀ l, Con l yX3_become mi_X3_become ivV (fun ad => [.ref (ad a0), .ref (ad a1)]) u (f_X3_become a0 a1 u) := by
  refine con_of (by decide) rfl (fun _ => Nat.le_of_ble_eq_true rfl) (fun X ad => ?_)
  show Go X ad mi_X3_become ivV 0 [(0, .ref (ad a0)), (1, .ref (ad a1))] [] u (f_X3_become a0 a1 u)
  unfold f_X3_become
  refine go_aload_n 0 rfl dX3_become_0 rfl ?_
  refine go_aload_n 1 rfl dX3_become_1 rfl ?_
  refine go_ck (fun h1 => ?_)
  refine go_getI clX3 h1 0 (Nat.le_of_ble_eq_true rfl) (c := 2) (fun _ => rfl) gw37 dX3_become_2 ?_
  refine go_ck (fun h2 => ?_)
  refine go_putI clX3 h2 0 (Nat.le_of_ble_eq_true rfl) (c := 2) (fun _ => rfl) (by decide) (fty := .int) (tyX3_ok 0 (Nat.le_of_ble_eq_true rfl)) rfl rfl rfl (fun _ => Nat.le_of_ble_eq_true rfl) gw37 dX3_become_5 ?_
  refine go_nmU (fun u3 => ?_)
  refine go_aload_n 0 rfl dX3_become_8 rfl ?_
  refine go_aload_n 1 rfl dX3_become_9 rfl ?_
  refine go_getI clX3 h1 1 (Nat.le_of_ble_eq_true rfl) (c := 3) (fun _ => rfl) gw38 dX3_become_10 ?_
  refine go_putI clX3 h2 1 (Nat.le_of_ble_eq_true rfl) (c := 3) (fun _ => rfl) (by decide) (fty := .int) (tyX3_ok 1 (Nat.le_of_ble_eq_true rfl)) rfl rfl rfl (fun _ => Nat.le_of_ble_eq_true rfl) gw38 dX3_become_13 ?_
  refine go_nmU (fun u4 => ?_)
  refine go_aload_n 0 rfl dX3_become_16 rfl ?_
  refine go_aload_n 1 rfl dX3_become_17 rfl ?_
  refine go_getI clX3 h1 2 (Nat.le_of_ble_eq_true rfl) (c := 4) (fun _ => rfl) gw39 dX3_become_18 ?_
  refine go_putI clX3 h2 2 (Nat.le_of_ble_eq_true rfl) (c := 4) (fun _ => rfl) (by decide) (fty := .int) (tyX3_ok 2 (Nat.le_of_ble_eq_true rfl)) rfl rfl rfl (fun _ => Nat.le_of_ble_eq_true rfl) gw39 dX3_become_21 ?_
  refine go_nmU (fun u5 => ?_)
  refine go_aload_n 0 rfl dX3_become_24 rfl ?_
  refine go_aload_n 1 rfl dX3_become_25 rfl ?_
  refine go_getI clX3 h1 3 (Nat.le_of_ble_eq_true rfl) (c := 5) (fun _ => rfl) gw40 dX3_become_26 ?_
  refine go_putI clX3 h2 3 (Nat.le_of_ble_eq_true rfl) (c := 5) (fun _ => rfl) (by decide) (fty := .int) (tyX3_ok 3 (Nat.le_of_ble_eq_true rfl)) rfl rfl rfl (fun _ => Nat.le_of_ble_eq_true rfl) gw40 dX3_become_29 ?_
  refine go_nmU (fun u6 => ?_)
  refine go_aload_n 0 rfl dX3_become_32 rfl ?_
  refine go_aload_n 1 rfl dX3_become_33 rfl ?_
  refine go_getI clX3 h1 4 (Nat.le_of_ble_eq_true rfl) (c := 6) (fun _ => rfl) gw41 dX3_become_34 ?_
  refine go_putI clX3 h2 4 (Nat.le_of_ble_eq_true rfl) (c := 6) (fun _ => rfl) (by decide) (fty := .int) (tyX3_ok 4 (Nat.le_of_ble_eq_true rfl)) rfl rfl rfl (fun _ => Nat.le_of_ble_eq_true rfl) gw41 dX3_become_37 ?_
  refine go_nmU (fun u7 => ?_)
  refine go_aload_n 0 rfl dX3_become_40 rfl ?_
  refine go_aload_n 1 rfl dX3_become_41 rfl ?_
  refine go_getI clX3 h1 5 (Nat.le_of_ble_eq_true rfl) (c := 0) (fun _ => rfl) gw42 dX3_become_42 ?_
  refine go_putI clX3 h2 5 (Nat.le_of_ble_eq_true rfl) (c := 0) (fun _ => rfl) (by decide) (fty := .int) (tyX3_ok 5 (Nat.le_of_ble_eq_true rfl)) rfl rfl rfl (fun _ => Nat.le_of_ble_eq_true rfl) gw42 dX3_become_45 ?_
  refine go_nmU (fun u8 => ?_)
  refine go_aload_n 0 rfl dX3_become_48 rfl ?_
  refine go_aload_n 1 rfl dX3_become_49 rfl ?_
  refine go_getI clX3 h1 6 (Nat.le_of_ble_eq_true rfl) (c := 1) (fun _ => rfl) gw43 dX3_become_50 ?_
  refine go_putI clX3 h2 6 (Nat.le_of_ble_eq_true rfl) (c := 1) (fun _ => rfl) (by decide) (fty := .int) (tyX3_ok 6 (Nat.le_of_ble_eq_true rfl)) rfl rfl rfl (fun _ => Nat.le_of_ble_eq_true rfl) gw43 dX3_become_53 ?_
  refine go_nmU (fun u9 => ?_)
  refine go_iconst (v := (0 : Int32)) dX3_become_56 (by decide) ?_
  refine go_istore_n (lv' := [(2, .int (0 : Int32)), (0, .ref (ad a0)), (1, .ref (ad a1))]) dX3_become_57 rfl (Nat.le_of_ble_eq_true rfl) rfl ?_
  exact go_sub [1, 2, 0] rfl (gl_X3_become_58 X ad  2100 (a0, a1, (0 : Int32), u9))
