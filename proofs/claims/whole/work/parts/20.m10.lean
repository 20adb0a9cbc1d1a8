/-! methods: what each does to the world, and that its bytecode does so (laid by wip/whole/gen) -/
def b_X6_spring_24 (ih24 : Int32 × Uw → Option (Int32 × Uw)) (s : Int32 × Uw) : Option (Int32 × Uw) :=
  if (s.2.1 25 5) = 0 then
  (bd (f_X6_byteAt (s.2.1 25 2) s.2) fun r24 u25 =>
  if r24 = (59 : Int32) then
  (bd (f_X6_must (1 : Int32) u25) fun r41 u42 =>
  bd (f_X6_item  u42) fun r43 u44 =>
  ih24 ((s.1 + (1 : Int32)), u44))
  else
  (if (u25.1 25 5) = 0 then
  (if (u25.1 25 1) ≤ (u25.1 25 2) then
  (nm (w1 u25 25 5 (0 : Int32)) fun u31 =>
  if (u31.1 25 5) = 0 then
  (nm (w1 u31 25 1 (0 : Int32)) fun u32 =>
  if (u32.1 25 5) = 0 then
  (some (s.1, u32))
  else
  (some (((-1 : Int32) - (u32.1 25 2)), u32)))
  else
  (bd (f_X6_putsBack  u31) fun r33 u34 =>
  nm (w1 u34 25 1 (0 : Int32)) fun u35 =>
  if (u35.1 25 5) = 0 then
  (some (s.1, u35))
  else
  (some (((-1 : Int32) - (u35.1 25 2)), u35))))
  else
  (nm (w1 u25 25 5 (1 : Int32)) fun u36 =>
  if (u36.1 25 5) = 0 then
  (nm (w1 u36 25 1 (0 : Int32)) fun u37 =>
  if (u37.1 25 5) = 0 then
  (some (s.1, u37))
  else
  (some (((-1 : Int32) - (u37.1 25 2)), u37)))
  else
  (bd (f_X6_putsBack  u36) fun r38 u39 =>
  nm (w1 u39 25 1 (0 : Int32)) fun u40 =>
  if (u40.1 25 5) = 0 then
  (some (s.1, u40))
  else
  (some (((-1 : Int32) - (u40.1 25 2)), u40)))))
  else
  (nm (w1 u25 25 5 (1 : Int32)) fun u26 =>
  if (u26.1 25 5) = 0 then
  (nm (w1 u26 25 1 (0 : Int32)) fun u27 =>
  if (u27.1 25 5) = 0 then
  (some (s.1, u27))
  else
  (some (((-1 : Int32) - (u27.1 25 2)), u27)))
  else
  (bd (f_X6_putsBack  u26) fun r28 u29 =>
  nm (w1 u29 25 1 (0 : Int32)) fun u30 =>
  if (u30.1 25 5) = 0 then
  (some (s.1, u30))
  else
  (some (((-1 : Int32) - (u30.1 25 2)), u30))))))
  else
  (if (s.2.1 25 5) = 0 then
  (if (s.2.1 25 1) ≤ (s.2.1 25 2) then
  (nm (w1 s.2 25 5 (0 : Int32)) fun u14 =>
  if (u14.1 25 5) = 0 then
  (nm (w1 u14 25 1 (0 : Int32)) fun u15 =>
  if (u15.1 25 5) = 0 then
  (some (s.1, u15))
  else
  (some (((-1 : Int32) - (u15.1 25 2)), u15)))
  else
  (bd (f_X6_putsBack  u14) fun r16 u17 =>
  nm (w1 u17 25 1 (0 : Int32)) fun u18 =>
  if (u18.1 25 5) = 0 then
  (some (s.1, u18))
  else
  (some (((-1 : Int32) - (u18.1 25 2)), u18))))
  else
  (nm (w1 s.2 25 5 (1 : Int32)) fun u19 =>
  if (u19.1 25 5) = 0 then
  (nm (w1 u19 25 1 (0 : Int32)) fun u20 =>
  if (u20.1 25 5) = 0 then
  (some (s.1, u20))
  else
  (some (((-1 : Int32) - (u20.1 25 2)), u20)))
  else
  (bd (f_X6_putsBack  u19) fun r21 u22 =>
  nm (w1 u22 25 1 (0 : Int32)) fun u23 =>
  if (u23.1 25 5) = 0 then
  (some (s.1, u23))
  else
  (some (((-1 : Int32) - (u23.1 25 2)), u23)))))
  else
  (nm (w1 s.2 25 5 (1 : Int32)) fun u9 =>
  if (u9.1 25 5) = 0 then
  (nm (w1 u9 25 1 (0 : Int32)) fun u10 =>
  if (u10.1 25 5) = 0 then
  (some (s.1, u10))
  else
  (some (((-1 : Int32) - (u10.1 25 2)), u10)))
  else
  (bd (f_X6_putsBack  u9) fun r11 u12 =>
  nm (w1 u12 25 1 (0 : Int32)) fun u13 =>
  if (u13.1 25 5) = 0 then
  (some (s.1, u13))
  else
  (some (((-1 : Int32) - (u13.1 25 2)), u13)))))
def f_X6_spring (u : Uw) : Option (Int32 × Uw) :=
  bd (f_X6_saves  u) fun r1 u2 =>
  nm (w1 u2 25 5 (0 : Int32)) fun u3 =>
  nm (w1 u3 25 3 (0 : Int32)) fun u4 =>
  bd (f_X6_token  u4) fun r5 u6 =>
  bd (f_X6_item  u6) fun r7 u8 =>
  lp b_X6_spring_24 2100 ((1 : Int32), u8)
set_option maxHeartbeats 4000000 in
set_option maxRecDepth 100000 in
theorem gl_X6_spring_24 (X : Cx) (ad : Nat → Nat) : ∀ (n : Nat) (s : Int32 × Uw), Go X ad mi_X6_spring ivI 24 [(0, .ref (ad 86)), (1, .int s.1)] [] s.2 (lp b_X6_spring_24 n s) := by
  refine go_lp (G := fun (s : Int32 × Uw) o => Go X ad mi_X6_spring ivI 24 [(0, .ref (ad 86)), (1, .int s.1)] [] s.2 o) (fun _ => go_none) (fun ih24 hih24 s => ?_)
  show Go X ad mi_X6_spring ivI 24 [(0, .ref (ad 86)), (1, .int s.1)] [] s.2 (b_X6_spring_24 ih24 s)
  unfold b_X6_spring_24
  refine go_aload_n 0 rfl dX6_spring_24 rfl ?_
  refine go_getIL clX6 kt_86 11 (Nat.le_of_ble_eq_true rfl) (c := 5) (fun _ => rfl) kr_86 gw279 dX6_spring_25 ?_
  refine go_if_ne (tgt := 59) dX6_spring_28 (by decide) ?_ ?_
  · refine go_aload_n 0 rfl dX6_spring_59 rfl ?_
    refine go_aload_n 0 rfl dX6_spring_60 rfl ?_
    refine go_getIL clX6 kt_86 11 (Nat.le_of_ble_eq_true rfl) (c := 5) (fun _ => rfl) kr_86 gw279 dX6_spring_61 ?_
    refine go_if_ne (tgt := 78) dX6_spring_64 (by decide) ?_ ?_
    · refine go_iconst (v := (1 : Int32)) dX6_spring_78 (by decide) ?_
      refine go_goto (tgt := 83) dX6_spring_79 (by decide) ?_
      refine go_putIL clX6 kt_86 11 (Nat.le_of_ble_eq_true rfl) (c := 5) (fun _ => rfl) (by decide) kr_86 (fty := .boolean) (tyX6_ok 11 (Nat.le_of_ble_eq_true rfl)) rfl rfl rfl (fun _ => Nat.le_of_ble_eq_true rfl) gw279 dX6_spring_83 ?_
      refine go_nmU (fun u9 => ?_)
      refine go_aload_n 0 rfl dX6_spring_86 rfl ?_
      refine go_getIL clX6 kt_86 11 (Nat.le_of_ble_eq_true rfl) (c := 5) (fun _ => rfl) kr_86 gw279 dX6_spring_87 ?_
      refine go_if_eq (tgt := 97) dX6_spring_90 (by decide) ?_ ?_
      · refine go_aload_n 0 rfl dX6_spring_97 rfl ?_
        refine go_iconst (v := (0 : Int32)) dX6_spring_98 (by decide) ?_
        refine go_putIL clX6 kt_86 7 (Nat.le_of_ble_eq_true rfl) (c := 1) (fun _ => rfl) (by decide) kr_86 (fty := .int) (tyX6_ok 7 (Nat.le_of_ble_eq_true rfl)) rfl rfl rfl (fun _ => Nat.le_of_ble_eq_true rfl) gw266 dX6_spring_99 ?_
        refine go_nmU (fun u10 => ?_)
        refine go_aload_n 0 rfl dX6_spring_102 rfl ?_
        refine go_getIL clX6 kt_86 11 (Nat.le_of_ble_eq_true rfl) (c := 5) (fun _ => rfl) kr_86 gw279 dX6_spring_103 ?_
        refine go_if_eq (tgt := 118) dX6_spring_106 (by decide) ?_ ?_
        · refine go_iload_n 1 rfl dX6_spring_118 rfl ?_
          exact go_iret rfl dX6_spring_119
        · refine go_iconst (v := (-1 : Int32)) dX6_spring_109 (by decide) ?_
          refine go_aload_n 0 rfl dX6_spring_110 rfl ?_
          refine go_getIL clX6 kt_86 8 (Nat.le_of_ble_eq_true rfl) (c := 2) (fun _ => rfl) kr_86 gw273 dX6_spring_111 ?_
          refine go_isub dX6_spring_114 ?_
          refine go_goto (tgt := 119) dX6_spring_115 (by decide) ?_
          exact go_iret rfl dX6_spring_119
      · refine go_aload_n 0 rfl dX6_spring_93 rfl ?_
        refine go_callVV (As := fun ad => []) (g_X6_putsBack  u9) mv_X6_putsBack clX6 kt_86 gw307 rfl ⟨Nat.le_of_ble_eq_true rfl, Nat.le_of_ble_eq_true rfl⟩ rfl (Nat.le_of_ble_eq_true rfl) dX6_spring_94 (fun r11 u12 => ?_)
        refine go_aload_n 0 rfl dX6_spring_97 rfl ?_
        refine go_iconst (v := (0 : Int32)) dX6_spring_98 (by decide) ?_
        refine go_putIL clX6 kt_86 7 (Nat.le_of_ble_eq_true rfl) (c := 1) (fun _ => rfl) (by decide) kr_86 (fty := .int) (tyX6_ok 7 (Nat.le_of_ble_eq_true rfl)) rfl rfl rfl (fun _ => Nat.le_of_ble_eq_true rfl) gw266 dX6_spring_99 ?_
        refine go_nmU (fun u13 => ?_)
        refine go_aload_n 0 rfl dX6_spring_102 rfl ?_
        refine go_getIL clX6 kt_86 11 (Nat.le_of_ble_eq_true rfl) (c := 5) (fun _ => rfl) kr_86 gw279 dX6_spring_103 ?_
        refine go_if_eq (tgt := 118) dX6_spring_106 (by decide) ?_ ?_
        · refine go_iload_n 1 rfl dX6_spring_118 rfl ?_
          exact go_iret rfl dX6_spring_119
        · refine go_iconst (v := (-1 : Int32)) dX6_spring_109 (by decide) ?_
          refine go_aload_n 0 rfl dX6_spring_110 rfl ?_
          refine go_getIL clX6 kt_86 8 (Nat.le_of_ble_eq_true rfl) (c := 2) (fun _ => rfl) kr_86 gw273 dX6_spring_111 ?_
          refine go_isub dX6_spring_114 ?_
          refine go_goto (tgt := 119) dX6_spring_115 (by decide) ?_
          exact go_iret rfl dX6_spring_119
    · refine go_aload_n 0 rfl dX6_spring_67 rfl ?_
      refine go_getIL clX6 kt_86 8 (Nat.le_of_ble_eq_true rfl) (c := 2) (fun _ => rfl) kr_86 gw273 dX6_spring_68 ?_
      refine go_aload_n 0 rfl dX6_spring_71 rfl ?_
      refine go_getIL clX6 kt_86 7 (Nat.le_of_ble_eq_true rfl) (c := 1) (fun _ => rfl) kr_86 gw266 dX6_spring_72 ?_
      refine go_icmp_ge (tgt := 82) dX6_spring_75 (by decide) ?_ ?_
      · refine go_iconst (v := (0 : Int32)) dX6_spring_82 (by decide) ?_
        refine go_putIL clX6 kt_86 11 (Nat.le_of_ble_eq_true rfl) (c := 5) (fun _ => rfl) (by decide) kr_86 (fty := .boolean) (tyX6_ok 11 (Nat.le_of_ble_eq_true rfl)) rfl rfl rfl (fun _ => Nat.le_of_ble_eq_true rfl) gw279 dX6_spring_83 ?_
        refine go_nmU (fun u14 => ?_)
        refine go_aload_n 0 rfl dX6_spring_86 rfl ?_
        refine go_getIL clX6 kt_86 11 (Nat.le_of_ble_eq_true rfl) (c := 5) (fun _ => rfl) kr_86 gw279 dX6_spring_87 ?_
        refine go_if_eq (tgt := 97) dX6_spring_90 (by decide) ?_ ?_
        · refine go_aload_n 0 rfl dX6_spring_97 rfl ?_
          refine go_iconst (v := (0 : Int32)) dX6_spring_98 (by decide) ?_
          refine go_putIL clX6 kt_86 7 (Nat.le_of_ble_eq_true rfl) (c := 1) (fun _ => rfl) (by decide) kr_86 (fty := .int) (tyX6_ok 7 (Nat.le_of_ble_eq_true rfl)) rfl rfl rfl (fun _ => Nat.le_of_ble_eq_true rfl) gw266 dX6_spring_99 ?_
          refine go_nmU (fun u15 => ?_)
          refine go_aload_n 0 rfl dX6_spring_102 rfl ?_
          refine go_getIL clX6 kt_86 11 (Nat.le_of_ble_eq_true rfl) (c := 5) (fun _ => rfl) kr_86 gw279 dX6_spring_103 ?_
          refine go_if_eq (tgt := 118) dX6_spring_106 (by decide) ?_ ?_
          · refine go_iload_n 1 rfl dX6_spring_118 rfl ?_
            exact go_iret rfl dX6_spring_119
          · refine go_iconst (v := (-1 : Int32)) dX6_spring_109 (by decide) ?_
            refine go_aload_n 0 rfl dX6_spring_110 rfl ?_
            refine go_getIL clX6 kt_86 8 (Nat.le_of_ble_eq_true rfl) (c := 2) (fun _ => rfl) kr_86 gw273 dX6_spring_111 ?_
            refine go_isub dX6_spring_114 ?_
            refine go_goto (tgt := 119) dX6_spring_115 (by decide) ?_
            exact go_iret rfl dX6_spring_119
        · refine go_aload_n 0 rfl dX6_spring_93 rfl ?_
          refine go_callVV (As := fun ad => []) (g_X6_putsBack  u14) mv_X6_putsBack clX6 kt_86 gw307 rfl ⟨Nat.le_of_ble_eq_true rfl, Nat.le_of_ble_eq_true rfl⟩ rfl (Nat.le_of_ble_eq_true rfl) dX6_spring_94 (fun r16 u17 => ?_)
          refine go_aload_n 0 rfl dX6_spring_97 rfl ?_
          refine go_iconst (v := (0 : Int32)) dX6_spring_98 (by decide) ?_
          refine go_putIL clX6 kt_86 7 (Nat.le_of_ble_eq_true rfl) (c := 1) (fun _ => rfl) (by decide) kr_86 (fty := .int) (tyX6_ok 7 (Nat.le_of_ble_eq_true rfl)) rfl rfl rfl (fun _ => Nat.le_of_ble_eq_true rfl) gw266 dX6_spring_99 ?_
          refine go_nmU (fun u18 => ?_)
          refine go_aload_n 0 rfl dX6_spring_102 rfl ?_
          refine go_getIL clX6 kt_86 11 (Nat.le_of_ble_eq_true rfl) (c := 5) (fun _ => rfl) kr_86 gw279 dX6_spring_103 ?_
          refine go_if_eq (tgt := 118) dX6_spring_106 (by decide) ?_ ?_
          · refine go_iload_n 1 rfl dX6_spring_118 rfl ?_
            exact go_iret rfl dX6_spring_119
          · refine go_iconst (v := (-1 : Int32)) dX6_spring_109 (by decide) ?_
            refine go_aload_n 0 rfl dX6_spring_110 rfl ?_
            refine go_getIL clX6 kt_86 8 (Nat.le_of_ble_eq_true rfl) (c := 2) (fun _ => rfl) kr_86 gw273 dX6_spring_111 ?_
            refine go_isub dX6_spring_114 ?_
            refine go_goto (tgt := 119) dX6_spring_115 (by decide) ?_
            exact go_iret rfl dX6_spring_119
      · refine go_iconst (v := (1 : Int32)) dX6_spring_78 (by decide) ?_
        refine go_goto (tgt := 83) dX6_spring_79 (by decide) ?_
        refine go_putIL clX6 kt_86 11 (Nat.le_of_ble_eq_true rfl) (c := 5) (fun _ => rfl) (by decide) kr_86 (fty := .boolean) (tyX6_ok 11 (Nat.le_of_ble_eq_true rfl)) rfl rfl rfl (fun _ => Nat.le_of_ble_eq_true rfl) gw279 dX6_spring_83 ?_
        refine go_nmU (fun u19 => ?_)
        refine go_aload_n 0 rfl dX6_spring_86 rfl ?_
        refine go_getIL clX6 kt_86 11 (Nat.le_of_ble_eq_true rfl) (c := 5) (fun _ => rfl) kr_86 gw279 dX6_spring_87 ?_
        refine go_if_eq (tgt := 97) dX6_spring_90 (by decide) ?_ ?_
        · refine go_aload_n 0 rfl dX6_spring_97 rfl ?_
          refine go_iconst (v := (0 : Int32)) dX6_spring_98 (by decide) ?_
          refine go_putIL clX6 kt_86 7 (Nat.le_of_ble_eq_true rfl) (c := 1) (fun _ => rfl) (by decide) kr_86 (fty := .int) (tyX6_ok 7 (Nat.le_of_ble_eq_true rfl)) rfl rfl rfl (fun _ => Nat.le_of_ble_eq_true rfl) gw266 dX6_spring_99 ?_
          refine go_nmU (fun u20 => ?_)
          refine go_aload_n 0 rfl dX6_spring_102 rfl ?_
          refine go_getIL clX6 kt_86 11 (Nat.le_of_ble_eq_true rfl) (c := 5) (fun _ => rfl) kr_86 gw279 dX6_spring_103 ?_
          refine go_if_eq (tgt := 118) dX6_spring_106 (by decide) ?_ ?_
          · refine go_iload_n 1 rfl dX6_spring_118 rfl ?_
            exact go_iret rfl dX6_spring_119
          · refine go_iconst (v := (-1 : Int32)) dX6_spring_109 (by decide) ?_
            refine go_aload_n 0 rfl dX6_spring_110 rfl ?_
            refine go_getIL clX6 kt_86 8 (Nat.le_of_ble_eq_true rfl) (c := 2) (fun _ => rfl) kr_86 gw273 dX6_spring_111 ?_
            refine go_isub dX6_spring_114 ?_
            refine go_goto (tgt := 119) dX6_spring_115 (by decide) ?_
            exact go_iret rfl dX6_spring_119
        · refine go_aload_n 0 rfl dX6_spring_93 rfl ?_
          refine go_callVV (As := fun ad => []) (g_X6_putsBack  u19) mv_X6_putsBack clX6 kt_86 gw307 rfl ⟨Nat.le_of_ble_eq_true rfl, Nat.le_of_ble_eq_true rfl⟩ rfl (Nat.le_of_ble_eq_true rfl) dX6_spring_94 (fun r21 u22 => ?_)
          refine go_aload_n 0 rfl dX6_spring_97 rfl ?_
          refine go_iconst (v := (0 : Int32)) dX6_spring_98 (by decide) ?_
          refine go_putIL clX6 kt_86 7 (Nat.le_of_ble_eq_true rfl) (c := 1) (fun _ => rfl) (by decide) kr_86 (fty := .int) (tyX6_ok 7 (Nat.le_of_ble_eq_true rfl)) rfl rfl rfl (fun _ => Nat.le_of_ble_eq_true rfl) gw266 dX6_spring_99 ?_
          refine go_nmU (fun u23 => ?_)
          refine go_aload_n 0 rfl dX6_spring_102 rfl ?_
          refine go_getIL clX6 kt_86 11 (Nat.le_of_ble_eq_true rfl) (c := 5) (fun _ => rfl) kr_86 gw279 dX6_spring_103 ?_
          refine go_if_eq (tgt := 118) dX6_spring_106 (by decide) ?_ ?_
          · refine go_iload_n 1 rfl dX6_spring_118 rfl ?_
            exact go_iret rfl dX6_spring_119
          · refine go_iconst (v := (-1 : Int32)) dX6_spring_109 (by decide) ?_
            refine go_aload_n 0 rfl dX6_spring_110 rfl ?_
            refine go_getIL clX6 kt_86 8 (Nat.le_of_ble_eq_true rfl) (c := 2) (fun _ => rfl) kr_86 gw273 dX6_spring_111 ?_
            refine go_isub dX6_spring_114 ?_
            refine go_goto (tgt := 119) dX6_spring_115 (by decide) ?_
            exact go_iret rfl dX6_spring_119
  · refine go_aload_n 0 rfl dX6_spring_31 rfl ?_
    refine go_aload_n 0 rfl dX6_spring_32 rfl ?_
    refine go_getIL clX6 kt_86 8 (Nat.le_of_ble_eq_true rfl) (c := 2) (fun _ => rfl) kr_86 gw273 dX6_spring_33 ?_
    refine go_callVI (As := fun ad => [.int (s.2.1 25 2)]) (g_X6_byteAt (s.2.1 25 2) s.2) mv_X6_byteAt clX6 kt_86 gw274 rfl ⟨Nat.le_of_ble_eq_true rfl, Nat.le_of_ble_eq_true rfl⟩ rfl (Nat.le_of_ble_eq_true rfl) dX6_spring_36 (fun r24 u25 => ?_)
    refine go_bipush (v := (59 : Int32)) dX6_spring_39 (by decide) ?_
    refine go_icmp_ne (tgt := 59) dX6_spring_41 (by decide) ?_ ?_
    · refine go_aload_n 0 rfl dX6_spring_59 rfl ?_
      refine go_aload_n 0 rfl dX6_spring_60 rfl ?_
      refine go_getIL clX6 kt_86 11 (Nat.le_of_ble_eq_true rfl) (c := 5) (fun _ => rfl) kr_86 gw279 dX6_spring_61 ?_
      refine go_if_ne (tgt := 78) dX6_spring_64 (by decide) ?_ ?_
      · refine go_iconst (v := (1 : Int32)) dX6_spring_78 (by decide) ?_
        refine go_goto (tgt := 83) dX6_spring_79 (by decide) ?_
        refine go_putIL clX6 kt_86 11 (Nat.le_of_ble_eq_true rfl) (c := 5) (fun _ => rfl) (by decide) kr_86 (fty := .boolean) (tyX6_ok 11 (Nat.le_of_ble_eq_true rfl)) rfl rfl rfl (fun _ => Nat.le_of_ble_eq_true rfl) gw279 dX6_spring_83 ?_
        refine go_nmU (fun u26 => ?_)
        refine go_aload_n 0 rfl dX6_spring_86 rfl ?_
        refine go_getIL clX6 kt_86 11 (Nat.le_of_ble_eq_true rfl) (c := 5) (fun _ => rfl) kr_86 gw279 dX6_spring_87 ?_
        refine go_if_eq (tgt := 97) dX6_spring_90 (by decide) ?_ ?_
        · refine go_aload_n 0 rfl dX6_spring_97 rfl ?_
          refine go_iconst (v := (0 : Int32)) dX6_spring_98 (by decide) ?_
          refine go_putIL clX6 kt_86 7 (Nat.le_of_ble_eq_true rfl) (c := 1) (fun _ => rfl) (by decide) kr_86 (fty := .int) (tyX6_ok 7 (Nat.le_of_ble_eq_true rfl)) rfl rfl rfl (fun _ => Nat.le_of_ble_eq_true rfl) gw266 dX6_spring_99 ?_
          refine go_nmU (fun u27 => ?_)
          refine go_aload_n 0 rfl dX6_spring_102 rfl ?_
          refine go_getIL clX6 kt_86 11 (Nat.le_of_ble_eq_true rfl) (c := 5) (fun _ => rfl) kr_86 gw279 dX6_spring_103 ?_
          refine go_if_eq (tgt := 118) dX6_spring_106 (by decide) ?_ ?_
          · refine go_iload_n 1 rfl dX6_spring_118 rfl ?_
            exact go_iret rfl dX6_spring_119
          · refine go_iconst (v := (-1 : Int32)) dX6_spring_109 (by decide) ?_
            refine go_aload_n 0 rfl dX6_spring_110 rfl ?_
            refine go_getIL clX6 kt_86 8 (Nat.le_of_ble_eq_true rfl) (c := 2) (fun _ => rfl) kr_86 gw273 dX6_spring_111 ?_
            refine go_isub dX6_spring_114 ?_
            refine go_goto (tgt := 119) dX6_spring_115 (by decide) ?_
            exact go_iret rfl dX6_spring_119
        · refine go_aload_n 0 rfl dX6_spring_93 rfl ?_
          refine go_callVV (As := fun ad => []) (g_X6_putsBack  u26) mv_X6_putsBack clX6 kt_86 gw307 rfl ⟨Nat.le_of_ble_eq_true rfl, Nat.le_of_ble_eq_true rfl⟩ rfl (Nat.le_of_ble_eq_true rfl) dX6_spring_94 (fun r28 u29 => ?_)
          refine go_aload_n 0 rfl dX6_spring_97 rfl ?_
          refine go_iconst (v := (0 : Int32)) dX6_spring_98 (by decide) ?_
          refine go_putIL clX6 kt_86 7 (Nat.le_of_ble_eq_true rfl) (c := 1) (fun _ => rfl) (by decide) kr_86 (fty := .int) (tyX6_ok 7 (Nat.le_of_ble_eq_true rfl)) rfl rfl rfl (fun _ => Nat.le_of_ble_eq_true rfl) gw266 dX6_spring_99 ?_
          refine go_nmU (fun u30 => ?_)
          refine go_aload_n 0 rfl dX6_spring_102 rfl ?_
          refine go_getIL clX6 kt_86 11 (Nat.le_of_ble_eq_true rfl) (c := 5) (fun _ => rfl) kr_86 gw279 dX6_spring_103 ?_
          refine go_if_eq (tgt := 118) dX6_spring_106 (by decide) ?_ ?_
          · refine go_iload_n 1 rfl dX6_spring_118 rfl ?_
            exact go_iret rfl dX6_spring_119
          · refine go_iconst (v := (-1 : Int32)) dX6_spring_109 (by decide) ?_
            refine go_aload_n 0 rfl dX6_spring_110 rfl ?_
            refine go_getIL clX6 kt_86 8 (Nat.le_of_ble_eq_true rfl) (c := 2) (fun _ => rfl) kr_86 gw273 dX6_spring_111 ?_
            refine go_isub dX6_spring_114 ?_
            refine go_goto (tgt := 119) dX6_spring_115 (by decide) ?_
            exact go_iret rfl dX6_spring_119
      · refine go_aload_n 0 rfl dX6_spring_67 rfl ?_
        refine go_getIL clX6 kt_86 8 (Nat.le_of_ble_eq_true rfl) (c := 2) (fun _ => rfl) kr_86 gw273 dX6_spring_68 ?_
        refine go_aload_n 0 rfl dX6_spring_71 rfl ?_
        refine go_getIL clX6 kt_86 7 (Nat.le_of_ble_eq_true rfl) (c := 1) (fun _ => rfl) kr_86 gw266 dX6_spring_72 ?_
        refine go_icmp_ge (tgt := 82) dX6_spring_75 (by decide) ?_ ?_
        · refine go_iconst (v := (0 : Int32)) dX6_spring_82 (by decide) ?_
          refine go_putIL clX6 kt_86 11 (Nat.le_of_ble_eq_true rfl) (c := 5) (fun _ => rfl) (by decide) kr_86 (fty := .boolean) (tyX6_ok 11 (Nat.le_of_ble_eq_true rfl)) rfl rfl rfl (fun _ => Nat.le_of_ble_eq_true rfl) gw279 dX6_spring_83 ?_
          refine go_nmU (fun u31 => ?_)
          refine go_aload_n 0 rfl dX6_spring_86 rfl ?_
          refine go_getIL clX6 kt_86 11 (Nat.le_of_ble_eq_true rfl) (c := 5) (fun _ => rfl) kr_86 gw279 dX6_spring_87 ?_
          refine go_if_eq (tgt := 97) dX6_spring_90 (by decide) ?_ ?_
          · refine go_aload_n 0 rfl dX6_spring_97 rfl ?_
            refine go_iconst (v := (0 : Int32)) dX6_spring_98 (by decide) ?_
            refine go_putIL clX6 kt_86 7 (Nat.le_of_ble_eq_true rfl) (c := 1) (fun _ => rfl) (by decide) kr_86 (fty := .int) (tyX6_ok 7 (Nat.le_of_ble_eq_true rfl)) rfl rfl rfl (fun _ => Nat.le_of_ble_eq_true rfl) gw266 dX6_spring_99 ?_
            refine go_nmU (fun u32 => ?_)
            refine go_aload_n 0 rfl dX6_spring_102 rfl ?_
            refine go_getIL clX6 kt_86 11 (Nat.le_of_ble_eq_true rfl) (c := 5) (fun _ => rfl) kr_86 gw279 dX6_spring_103 ?_
            refine go_if_eq (tgt := 118) dX6_spring_106 (by decide) ?_ ?_
            · refine go_iload_n 1 rfl dX6_spring_118 rfl ?_
              exact go_iret rfl dX6_spring_119
            · refine go_iconst (v := (-1 : Int32)) dX6_spring_109 (by decide) ?_
              refine go_aload_n 0 rfl dX6_spring_110 rfl ?_
              refine go_getIL clX6 kt_86 8 (Nat.le_of_ble_eq_true rfl) (c := 2) (fun _ => rfl) kr_86 gw273 dX6_spring_111 ?_
              refine go_isub dX6_spring_114 ?_
              refine go_goto (tgt := 119) dX6_spring_115 (by decide) ?_
              exact go_iret rfl dX6_spring_119
          · refine go_aload_n 0 rfl dX6_spring_93 rfl ?_
            refine go_callVV (As := fun ad => []) (g_X6_putsBack  u31) mv_X6_putsBack clX6 kt_86 gw307 rfl ⟨Nat.le_of_ble_eq_true rfl, Nat.le_of_ble_eq_true rfl⟩ rfl (Nat.le_of_ble_eq_true rfl) dX6_spring_94 (fun r33 u34 => ?_)
            refine go_aload_n 0 rfl dX6_spring_97 rfl ?_
            refine go_iconst (v := (0 : Int32)) dX6_spring_98 (by decide) ?_
            refine go_putIL clX6 kt_86 7 (Nat.le_of_ble_eq_true rfl) (c := 1) (fun _ => rfl) (by decide) kr_86 (fty := .int) (tyX6_ok 7 (Nat.le_of_ble_eq_true rfl)) rfl rfl rfl (fun _ => Nat.le_of_ble_eq_true rfl) gw266 dX6_spring_99 ?_
            refine go_nmU (fun u35 => ?_)
            refine go_aload_n 0 rfl dX6_spring_102 rfl ?_
            refine go_getIL clX6 kt_86 11 (Nat.le_of_ble_eq_true rfl) (c := 5) (fun _ => rfl) kr_86 gw279 dX6_spring_103 ?_
            refine go_if_eq (tgt := 118) dX6_spring_106 (by decide) ?_ ?_
            · refine go_iload_n 1 rfl dX6_spring_118 rfl ?_
              exact go_iret rfl dX6_spring_119
            · refine go_iconst (v := (-1 : Int32)) dX6_spring_109 (by decide) ?_
              refine go_aload_n 0 rfl dX6_spring_110 rfl ?_
              refine go_getIL clX6 kt_86 8 (Nat.le_of_ble_eq_true rfl) (c := 2) (fun _ => rfl) kr_86 gw273 dX6_spring_111 ?_
              refine go_isub dX6_spring_114 ?_
              refine go_goto (tgt := 119) dX6_spring_115 (by decide) ?_
              exact go_iret rfl dX6_spring_119
        · refine go_iconst (v := (1 : Int32)) dX6_spring_78 (by decide) ?_
          refine go_goto (tgt := 83) dX6_spring_79 (by decide) ?_
          refine go_putIL clX6 kt_86 11 (Nat.le_of_ble_eq_true rfl) (c := 5) (fun _ => rfl) (by decide) kr_86 (fty := .boolean) (tyX6_ok 11 (Nat.le_of_ble_eq_true rfl)) rfl rfl rfl (fun _ => Nat.le_of_ble_eq_true rfl) gw279 dX6_spring_83 ?_
          refine go_nmU (fun u36 => ?_)
          refine go_aload_n 0 rfl dX6_spring_86 rfl ?_
          refine go_getIL clX6 kt_86 11 (Nat.le_of_ble_eq_true rfl) (c := 5) (fun _ => rfl) kr_86 gw279 dX6_spring_87 ?_
          refine go_if_eq (tgt := 97) dX6_spring_90 (by decide) ?_ ?_
          · refine go_aload_n 0 rfl dX6_spring_97 rfl ?_
            refine go_iconst (v := (0 : Int32)) dX6_spring_98 (by decide) ?_
            refine go_putIL clX6 kt_86 7 (Nat.le_of_ble_eq_true rfl) (c := 1) (fun _ => rfl) (by decide) kr_86 (fty := .int) (tyX6_ok 7 (Nat.le_of_ble_eq_true rfl)) rfl rfl rfl (fun _ => Nat.le_of_ble_eq_true rfl) gw266 dX6_spring_99 ?_
            refine go_nmU (fun u37 => ?_)
            refine go_aload_n 0 rfl dX6_spring_102 rfl ?_
            refine go_getIL clX6 kt_86 11 (Nat.le_of_ble_eq_true rfl) (c := 5) (fun _ => rfl) kr_86 gw279 dX6_spring_103 ?_
            refine go_if_eq (tgt := 118) dX6_spring_106 (by decide) ?_ ?_
            · refine go_iload_n 1 rfl dX6_spring_118 rfl ?_
              exact go_iret rfl dX6_spring_119
            · refine go_iconst (v := (-1 : Int32)) dX6_spring_109 (by decide) ?_
              refine go_aload_n 0 rfl dX6_spring_110 rfl ?_
              refine go_getIL clX6 kt_86 8 (Nat.le_of_ble_eq_true rfl) (c := 2) (fun _ => rfl) kr_86 gw273 dX6_spring_111 ?_
              refine go_isub dX6_spring_114 ?_
              refine go_goto (tgt := 119) dX6_spring_115 (by decide) ?_
              exact go_iret rfl dX6_spring_119
          · refine go_aload_n 0 rfl dX6_spring_93 rfl ?_
            refine go_callVV (As := fun ad => []) (g_X6_putsBack  u36) mv_X6_putsBack clX6 kt_86 gw307 rfl ⟨Nat.le_of_ble_eq_true rfl, Nat.le_of_ble_eq_true rfl⟩ rfl (Nat.le_of_ble_eq_true rfl) dX6_spring_94 (fun r38 u39 => ?_)
            refine go_aload_n 0 rfl dX6_spring_97 rfl ?_
            refine go_iconst (v := (0 : Int32)) dX6_spring_98 (by decide) ?_
            refine go_putIL clX6 kt_86 7 (Nat.le_of_ble_eq_true rfl) (c := 1) (fun _ => rfl) (by decide) kr_86 (fty := .int) (tyX6_ok 7 (Nat.le_of_ble_eq_true rfl)) rfl rfl rfl (fun _ => Nat.le_of_ble_eq_true rfl) gw266 dX6_spring_99 ?_
            refine go_nmU (fun u40 => ?_)
            refine go_aload_n 0 rfl dX6_spring_102 rfl ?_
            refine go_getIL clX6 kt_86 11 (Nat.le_of_ble_eq_true rfl) (c := 5) (fun _ => rfl) kr_86 gw279 dX6_spring_103 ?_
            refine go_if_eq (tgt := 118) dX6_spring_106 (by decide) ?_ ?_
            · refine go_iload_n 1 rfl dX6_spring_118 rfl ?_
              exact go_iret rfl dX6_spring_119
            · refine go_iconst (v := (-1 : Int32)) dX6_spring_109 (by decide) ?_
              refine go_aload_n 0 rfl dX6_spring_110 rfl ?_
              refine go_getIL clX6 kt_86 8 (Nat.le_of_ble_eq_true rfl) (c := 2) (fun _ => rfl) kr_86 gw273 dX6_spring_111 ?_
              refine go_isub dX6_spring_114 ?_
              refine go_goto (tgt := 119) dX6_spring_115 (by decide) ?_
              exact go_iret rfl dX6_spring_119
    · refine go_aload_n 0 rfl dX6_spring_44 rfl ?_
      refine go_iconst (v := (1 : Int32)) dX6_spring_45 (by decide) ?_
      refine go_callVV (As := fun ad => [.int (1 : Int32)]) (g_X6_must (1 : Int32) u25) mv_X6_must clX6 kt_86 gw284 rfl ⟨Nat.le_of_ble_eq_true rfl, Nat.le_of_ble_eq_true rfl⟩ rfl (Nat.le_of_ble_eq_true rfl) dX6_spring_46 (fun r41 u42 => ?_)
      refine go_aload_n 0 rfl dX6_spring_49 rfl ?_
      refine go_callVV (As := fun ad => []) (g_X6_item  u42) mv_X6_item clX6 kt_86 gw306 rfl ⟨Nat.le_of_ble_eq_true rfl, Nat.le_of_ble_eq_true rfl⟩ rfl (Nat.le_of_ble_eq_true rfl) dX6_spring_50 (fun r43 u44 => ?_)
      refine go_iinc (v := (s.1 + (1 : Int32))) (lv' := [(1, .int (s.1 + (1 : Int32))), (0, .ref (ad 86))]) 1 rfl dX6_spring_53 rfl (Nat.le_of_ble_eq_true rfl) rfl ?_
      refine go_goto (tgt := 24) dX6_spring_56 (by decide) ?_
      exact go_sub [1, 0] rfl (hih24 ((s.1 + (1 : Int32)), u44))
set_option maxHeartbeats 4000000 in
set_option maxRecDepth 100000 in
theorem g_X6_spring (u : Uw) : ∀ l, Con l yX6_spring mi_X6_spring ivI (fun ad => [.ref (ad 86)]) u (f_X6_spring u) := by
  refine con_of (by decide) rfl (fun _ => Nat.le_of_ble_eq_true rfl) (fun X ad => ?_)
  show Go X ad mi_X6_spring ivI 0 [(0, .ref (ad 86))] [] u (f_X6_spring u)
  unfold f_X6_spring
  refine go_aload_n 0 rfl dX6_spring_0 rfl ?_
  refine go_callVV (As := fun ad => []) (g_X6_saves  u) mv_X6_saves clX6 kt_86 gw305 rfl ⟨Nat.le_of_ble_eq_true rfl, Nat.le_of_ble_eq_true rfl⟩ rfl (Nat.le_of_ble_eq_true rfl) dX6_spring_1 (fun r1 u2 => ?_)
  refine go_aload_n 0 rfl dX6_spring_4 rfl ?_
  refine go_iconst (v := (0 : Int32)) dX6_spring_5 (by decide) ?_
  refine go_putIL clX6 kt_86 11 (Nat.le_of_ble_eq_true rfl) (c := 5) (fun _ => rfl) (by decide) kr_86 (fty := .boolean) (tyX6_ok 11 (Nat.le_of_ble_eq_true rfl)) rfl rfl rfl (fun _ => Nat.le_of_ble_eq_true rfl) gw279 dX6_spring_6 ?_
  refine go_nmU (fun u3 => ?_)
  refine go_aload_n 0 rfl dX6_spring_9 rfl ?_
  refine go_iconst (v := (0 : Int32)) dX6_spring_10 (by decide) ?_
  refine go_putIL clX6 kt_86 9 (Nat.le_of_ble_eq_true rfl) (c := 3) (fun _ => rfl) (by decide) kr_86 (fty := .int) (tyX6_ok 9 (Nat.le_of_ble_eq_true rfl)) rfl rfl rfl (fun _ => Nat.le_of_ble_eq_true rfl) gw272 dX6_spring_11 ?_
  refine go_nmU (fun u4 => ?_)
  refine go_aload_n 0 rfl dX6_spring_14 rfl ?_
  refine go_callVV (As := fun ad => []) (g_X6_token  u4) mv_X6_token clX6 kt_86 gw280 rfl ⟨Nat.le_of_ble_eq_true rfl, Nat.le_of_ble_eq_true rfl⟩ rfl (Nat.le_of_ble_eq_true rfl) dX6_spring_15 (fun r5 u6 => ?_)
  refine go_iconst (v := (1 : Int32)) dX6_spring_18 (by decide) ?_
  refine go_istore_n (lv' := [(1, .int (1 : Int32)), (0, .ref (ad 86))]) dX6_spring_19 rfl (Nat.le_of_ble_eq_true rfl) rfl ?_
  refine go_aload_n 1 rfl dX6_spring_20 rfl ?_
  refine go_callVV (As := fun ad => []) (g_X6_item  u6) mv_X6_item clX6 kt_86 gw306 rfl ⟨Nat.le_of_ble_eq_true rfl, Nat.le_of_ble_eq_true rfl⟩ rfl (Nat.le_of_ble_eq_true rfl) dX6_spring_21 (fun r7 u8 => ?_)
  exact go_sub [1, 0] rfl (gl_X6_spring_24 X ad  2100 ((1 : Int32), u8))
def f_X6_isOne (a0 : Int32) (u : Uw) : Option (Bool × Uw) :=
  bd (f_X6_in (a0.toInt64) (0 : Int64) (3 : Int64) u) fun r1 u2 =>
  some (r1, u2)
set_option maxHeartbeats 4000000 in
set_option maxRecDepth 100000 in
theorem g_X6_isOne (a0 : Int32) (u : Uw) : ∀ l, Con l yX6_isOne mi_X6_isOne ivZ (fun ad => [.int a0]) u (f_X6_isOne a0 u) := by
  refine con_of (by decide) rfl (fun _ => Nat.le_of_ble_eq_true rfl) (fun X ad => ?_)
  show Go X ad mi_X6_isOne ivZ 0 [(0, .int a0)] [] u (f_X6_isOne a0 u)
  unfold f_X6_isOne
  refine go_iload_n 0 rfl dX6_isOne_0 rfl ?_
  refine go_i2l dX6_isOne_1 ?_
  refine go_lconst (v := (0 : Int64)) dX6_isOne_2 (by decide) ?_
  refine go_ldc2 (v := (3 : Int64)) gw235 dX6_isOne_3 ?_
  refine go_callSZ (As := fun ad => [.long (a0.toInt64), .long (0 : Int64), .long (3 : Int64)]) (g_X6_in (a0.toInt64) (0 : Int64) (3 : Int64) u) mo_X6_in gw209 gw210 rfl ⟨Nat.le_of_ble_eq_true rfl, Nat.le_of_ble_eq_true rfl⟩ rfl (Nat.le_of_ble_eq_true rfl) dX6_isOne_6 (fun r1 u2 => ?_)
  exact go_zret rfl dX6_isOne_9
def b_X6_sheet_86 (ih86 : Int32 × Int32 × Uw → Option (Int32 × Uw)) (s : Int32 × Int32 × Uw) : Option (Int32 × Uw) :=
  if (40 : Int32) ≤ s.2.1 then
  (ck (inb s.1 4) <|
  nm (s.2.2.1 28 s.1.toNatClampNeg) fun x9 =>
  some (x9, s.2.2))
  else
  (ck (inb (((40 : Int32) * s.1) + s.2.1) 160) <|
  nm (w2 s.2.2 29 (((40 : Int32) * s.1) + s.2.1).toNatClampNeg (0 : Int64)) fun u11 =>
  ih86 (s.1, (s.2.1 + (1 : Int32)), u11))
def f_X6_sheet (a1 : Int32) (a2 : Int32) (a3 : Int32) (u : Uw) : Option (Int32 × Uw) :=
  bd (f_X6_isOne a1 u) fun r1 u2 =>
  if r1 = true then
  (if a2 = 0 then
  (if 0 ≤ a3 then
  (if a3 ≤ (40 : Int32) then
  (ck (inb a1 4) <|
  nm (w1 u2 27 a1.toNatClampNeg a2) fun u6 =>
  if a2 = 0 then
  (nm (w1 u6 28 a1.toNatClampNeg (0 : Int32)) fun u12 =>
  lp b_X6_sheet_86 2100 (a1, (0 : Int32), u12))
  else
  (nm (w1 u6 28 a1.toNatClampNeg a3) fun u7 =>
  lp b_X6_sheet_86 2100 (a1, (0 : Int32), u7)))
  else
  (bd (f_X6_finds (-1000000001 : Int32) u2) fun r13 u14 =>
  some (r13, u14)))
  else
  (bd (f_X6_finds (-1000000007 : Int32) u2) fun r15 u16 =>
  some (r15, u16)))
  else
  (if a2 = (8 : Int32) then
  (if 0 ≤ a3 then
  (if a3 ≤ (40 : Int32) then
  (ck (inb a1 4) <|
  nm (w1 u2 27 a1.toNatClampNeg a2) fun u18 =>
  if a2 = 0 then
  (nm (w1 u18 28 a1.toNatClampNeg (0 : Int32)) fun u20 =>
  lp b_X6_sheet_86 2100 (a1, (0 : Int32), u20))
  else
  (nm (w1 u18 28 a1.toNatClampNeg a3) fun u19 =>
  lp b_X6_sheet_86 2100 (a1, (0 : Int32), u19)))
  else
  (bd (f_X6_finds (-1000000001 : Int32) u2) fun r21 u22 =>
  some (r21, u22)))
  else
  (bd (f_X6_finds (-1000000007 : Int32) u2) fun r23 u24 =>
  some (r23, u24)))
  else
  (if a2 = (16 : Int32) then
  (if 0 ≤ a3 then
  (if a3 ≤ (40 : Int32) then
  (ck (inb a1 4) <|
  nm (w1 u2 27 a1.toNatClampNeg a2) fun u26 =>
  if a2 = 0 then
  (nm (w1 u26 28 a1.toNatClampNeg (0 : Int32)) fun u28 =>
  lp b_X6_sheet_86 2100 (a1, (0 : Int32), u28))
  else
  (nm (w1 u26 28 a1.toNatClampNeg a3) fun u27 =>
  lp b_X6_sheet_86 2100 (a1, (0 : Int32), u27)))
  else
  (bd (f_X6_finds (-1000000001 : Int32) u2) fun r29 u30 =>
  some (r29, u30)))
  else
  (bd (f_X6_finds (-1000000007 : Int32) u2) fun r31 u32 =>
  some (r31, u32)))
  else
  (if a2 = (64 : Int32) then
  (if 0 ≤ a3 then
  (if a3 ≤ (40 : Int32) then
  (ck (inb a1 4) <|
  nm (w1 u2 27 a1.toNatClampNeg a2) fun u34 =>
  if a2 = 0 then
  (nm (w1 u34 28 a1.toNatClampNeg (0 : Int32)) fun u36 =>
  lp b_X6_sheet_86 2100 (a1, (0 : Int32), u36))
  else
  (nm (w1 u34 28 a1.toNatClampNeg a3) fun u35 =>
  lp b_X6_sheet_86 2100 (a1, (0 : Int32), u35)))
  else
  (bd (f_X6_finds (-1000000001 : Int32) u2) fun r37 u38 =>
  some (r37, u38)))
  else
  (bd (f_X6_finds (-1000000007 : Int32) u2) fun r39 u40 =>
  some (r39, u40)))
  else
  (bd (f_X6_finds (-1000000001 : Int32) u2) fun r41 u42 =>
  some (r41, u42))))))
  else
  (bd (f_X6_finds (-1000000001 : Int32) u2) fun r3 u4 =>
  some (r3, u4))
set_option maxHeartbeats 4000000 in
set_option maxRecDepth 100000 in
theorem gl_X6_sheet_86 (X : Cx) (ad : Nat → Nat) : ∀ (n : Nat) (s : Int32 × Int32 × Uw), Go X ad mi_X6_sheet ivI 86 [(0, .ref (ad 86)), (1, .int s.1), (4, .int s.2.1)] [] s.2.2 (lp b_X6_sheet_86 n s) := by
  refine go_lp (G := fun (s : Int32 × Int32 × Uw) o => Go X ad mi_X6_sheet ivI 86 [(0, .ref (ad 86)), (1, .int s.1), (4, .int s.2.1)] [] s.2.2 o) (fun _ => go_none) (fun ih86 hih86 s => ?_)
  show Go X ad mi_X6_sheet ivI 86 [(0, .ref (ad 86)), (1, .int s.1), (4, .int s.2.1)] [] s.2.2 (b_X6_sheet_86 ih86 s)
  unfold b_X6_sheet_86
  refine go_iload 2 rfl dX6_sheet_86 ?_
  refine go_bipush (v := (40 : Int32)) dX6_sheet_88 (by decide) ?_
  refine go_icmp_ge (tgt := 112) dX6_sheet_90 (by decide) ?_ ?_
  · refine go_aload_n 0 rfl dX6_sheet_112 rfl ?_
    refine go_getR clX6 kt_86 13 (Nat.le_of_ble_eq_true rfl) (f := 94) (fun _ => rfl) gw311 dX6_sheet_113 ?_
    refine go_iload_n 1 rfl dX6_sheet_116 rfl ?_
    refine go_ck (fun h8 => ?_)
    refine go_ialdL kt_94 kr_94 kl_94 h8 dX6_sheet_117 ?_
    refine go_nm (fun x9 => ?_)
    exact go_iret rfl dX6_sheet_118
  · refine go_aload_n 0 rfl dX6_sheet_93 rfl ?_
    refine go_getR clX6 kt_86 14 (Nat.le_of_ble_eq_true rfl) (f := 95) (fun _ => rfl) gw312 dX6_sheet_94 ?_
    refine go_bipush (v := (40 : Int32)) dX6_sheet_97 (by decide) ?_
    refine go_iload_n 1 rfl dX6_sheet_99 rfl ?_
    refine go_imul dX6_sheet_100 ?_
    refine go_iload 2 rfl dX6_sheet_101 ?_
    refine go_iadd dX6_sheet_103 ?_
    refine go_lconst (v := (0 : Int64)) dX6_sheet_104 (by decide) ?_
    refine go_ck (fun h10 => ?_)
    refine go_lastL kt_95 kr_95 kl_95 h10 dX6_sheet_105 ?_
    refine go_nmU (fun u11 => ?_)
    refine go_iinc (v := (s.2.1 + (1 : Int32))) (lv' := [(4, .int (s.2.1 + (1 : Int32))), (0, .ref (ad 86)), (1, .int s.1)]) 2 rfl dX6_sheet_106 rfl (Nat.le_of_ble_eq_true rfl) rfl ?_
    refine go_goto (tgt := 86) dX6_sheet_109 (by decide) ?_
    exact go_sub [1, 2, 0] rfl (hih86 (s.1, (s.2.1 + (1 : Int32)), u11))
set_option maxHeartbeats 4000000 in
set_option maxRecDepth 100000 in
theorem g_X6_sheet (a1 : Int32) (a2 : Int32) (a3 : Int32) (u : Uw) : ∀ l, Con l yX6_sheet mi_X6_sheet ivI (fun ad => [.ref (ad 86), .int a1, .int a2, .int a3]) u (f_X6_sheet a1 a2 a3 u) := by
  refine con_of (by decide) rfl (fun _ => Nat.le_of_ble_eq_true rfl) (fun X ad => ?_)
  show Go X ad mi_X6_sheet ivI 0 [(0, .ref (ad 86)), (1, .int a1), (2, .int a2), (3, .int a3)] [] u (f_X6_sheet a1 a2 a3 u)
  unfold f_X6_sheet
  refine go_iload_n 1 rfl dX6_sheet_0 rfl ?_
  refine go_callSZ (As := fun ad => [.int a1]) (g_X6_isOne a1 u) mo_X6_isOne gw308 gw309 rfl ⟨Nat.le_of_ble_eq_true rfl, Nat.le_of_ble_eq_true rfl⟩ rfl (Nat.le_of_ble_eq_true rfl) dX6_sheet_1 (fun r1 u2 => ?_)
  refine go_ifz_eq (tgt := 29) dX6_sheet_4 (by decide) ?_ ?_
  · refine go_aload_n 0 rfl dX6_sheet_29 rfl ?_
    refine go_ldc (v := (-1000000001 : Int32)) gw205 dX6_sheet_30 ?_
    refine go_callVI (As := fun ad => [.int (-1000000001 : Int32)]) (g_X6_finds (-1000000001 : Int32) u2) mv_X6_finds clX6 kt_86 gw219 rfl ⟨Nat.le_of_ble_eq_true rfl, Nat.le_of_ble_eq_true rfl⟩ rfl (Nat.le_of_ble_eq_true rfl) dX6_sheet_32 (fun r3 u4 => ?_)
    exact go_iret rfl dX6_sheet_35
  · refine go_iload_n 2 rfl dX6_sheet_7 rfl ?_
    refine go_if_eq (tgt := 36) dX6_sheet_8 (by decide) ?_ ?_
    · refine go_iload_n 3 rfl dX6_sheet_36 rfl ?_
      refine go_if_ge (tgt := 48) dX6_sheet_37 (by decide) ?_ ?_
      · refine go_iload_n 3 rfl dX6_sheet_48 rfl ?_
        refine go_bipush (v := (40 : Int32)) dX6_sheet_49 (by decide) ?_
        refine go_icmp_le (tgt := 61) dX6_sheet_51 (by decide) ?_ ?_
        · refine go_aload_n 0 rfl dX6_sheet_61 rfl ?_
          refine go_getR clX6 kt_86 12 (Nat.le_of_ble_eq_true rfl) (f := 93) (fun _ => rfl) gw310 dX6_sheet_62 ?_
          refine go_iload_n 1 rfl dX6_sheet_65 rfl ?_
          refine go_iload_n 2 rfl dX6_sheet_66 rfl ?_
          refine go_ck (fun h5 => ?_)
          refine go_iastL kt_93 kr_93 kl_93 h5 dX6_sheet_67 ?_
          refine go_nmU (fun u6 => ?_)
          refine go_aload_n 0 rfl dX6_sheet_68 rfl ?_
          refine go_getR clX6 kt_86 13 (Nat.le_of_ble_eq_true rfl) (f := 94) (fun _ => rfl) gw311 dX6_sheet_69 ?_
          refine go_iload_n 1 rfl dX6_sheet_72 rfl ?_
          refine go_iload_n 2 rfl dX6_sheet_73 rfl ?_
          refine go_if_ne (tgt := 81) dX6_sheet_74 (by decide) ?_ ?_
          · refine go_iload_n 3 rfl dX6_sheet_81 rfl ?_
            refine go_iastL kt_94 kr_94 kl_94 h5 dX6_sheet_82 ?_
            refine go_nmU (fun u7 => ?_)
            refine go_iconst (v := (0 : Int32)) dX6_sheet_83 (by decide) ?_
            refine go_istore (lv' := [(4, .int (0 : Int32)), (0, .ref (ad 86)), (1, .int a1), (2, .int a2), (3, .int a3)]) dX6_sheet_84 (Nat.le_of_ble_eq_true rfl) rfl ?_
            exact go_sub [1, 2, 0] rfl (gl_X6_sheet_86 X ad  2100 (a1, (0 : Int32), u7))
          · refine go_iconst (v := (0 : Int32)) dX6_sheet_77 (by decide) ?_
            refine go_goto (tgt := 82) dX6_sheet_78 (by decide) ?_
            refine go_iastL kt_94 kr_94 kl_94 h5 dX6_sheet_82 ?_
            refine go_nmU (fun u12 => ?_)
            refine go_iconst (v := (0 : Int32)) dX6_sheet_83 (by decide) ?_
            refine go_istore (lv' := [(4, .int (0 : Int32)), (0, .ref (ad 86)), (1, .int a1), (2, .int a2), (3, .int a3)]) dX6_sheet_84 (Nat.le_of_ble_eq_true rfl) rfl ?_
            exact go_sub [1, 2, 0] rfl (gl_X6_sheet_86 X ad  2100 (a1, (0 : Int32), u12))
        · refine go_aload_n 0 rfl dX6_sheet_54 rfl ?_
          refine go_ldc (v := (-1000000001 : Int32)) gw205 dX6_sheet_55 ?_
          refine go_callVI (As := fun ad => [.int (-1000000001 : Int32)]) (g_X6_finds (-1000000001 : Int32) u2) mv_X6_finds clX6 kt_86 gw219 rfl ⟨Nat.le_of_ble_eq_true rfl, Nat.le_of_ble_eq_true rfl⟩ rfl (Nat.le_of_ble_eq_true rfl) dX6_sheet_57 (fun r13 u14 => ?_)
          exact go_iret rfl dX6_sheet_60
      · refine go_aload_n 0 rfl dX6_sheet_40 rfl ?_
        refine go_ldcw (v := (-1000000007 : Int32)) gw313 dX6_sheet_41 ?_
        refine go_callVI (As := fun ad => [.int (-1000000007 : Int32)]) (g_X6_finds (-1000000007 : Int32) u2) mv_X6_finds clX6 kt_86 gw219 rfl ⟨Nat.le_of_ble_eq_true rfl, Nat.le_of_ble_eq_true rfl⟩ rfl (Nat.le_of_ble_eq_true rfl) dX6_sheet_44 (fun r15 u16 => ?_)
        exact go_iret rfl dX6_sheet_47
    · refine go_iload_n 2 rfl dX6_sheet_11 rfl ?_
      refine go_bipush (v := (8 : Int32)) dX6_sheet_12 (by decide) ?_
      refine go_icmp_eq (tgt := 36) dX6_sheet_14 (by decide) ?_ ?_
      · refine go_iload_n 3 rfl dX6_sheet_36 rfl ?_
        refine go_if_ge (tgt := 48) dX6_sheet_37 (by decide) ?_ ?_
        · refine go_iload_n 3 rfl dX6_sheet_48 rfl ?_
          refine go_bipush (v := (40 : Int32)) dX6_sheet_49 (by decide) ?_
          refine go_icmp_le (tgt := 61) dX6_sheet_51 (by decide) ?_ ?_
          · refine go_aload_n 0 rfl dX6_sheet_61 rfl ?_
            refine go_getR clX6 kt_86 12 (Nat.le_of_ble_eq_true rfl) (f := 93) (fun _ => rfl) gw310 dX6_sheet_62 ?_
            refine go_iload_n 1 rfl dX6_sheet_65 rfl ?_
            refine go_iload_n 2 rfl dX6_sheet_66 rfl ?_
            refine go_ck (fun h17 => ?_)
            refine go_iastL kt_93 kr_93 kl_93 h17 dX6_sheet_67 ?_
            refine go_nmU (fun u18 => ?_)
            refine go_aload_n 0 rfl dX6_sheet_68 rfl ?_
            refine go_getR clX6 kt_86 13 (Nat.le_of_ble_eq_true rfl) (f := 94) (fun _ => rfl) gw311 dX6_sheet_69 ?_
            refine go_iload_n 1 rfl dX6_sheet_72 rfl ?_
            refine go_iload_n 2 rfl dX6_sheet_73 rfl ?_
            refine go_if_ne (tgt := 81) dX6_sheet_74 (by decide) ?_ ?_
            · refine go_iload_n 3 rfl dX6_sheet_81 rfl ?_
              refine go_iastL kt_94 kr_94 kl_94 h17 dX6_sheet_82 ?_
              refine go_nmU (fun u19 => ?_)
              refine go_iconst (v := (0 : Int32)) dX6_sheet_83 (by decide) ?_
              refine go_istore (lv' := [(4, .int (0 : Int32)), (0, .ref (ad 86)), (1, .int a1), (2, .int a2), (3, .int a3)]) dX6_sheet_84 (Nat.le_of_ble_eq_true rfl) rfl ?_
              exact go_sub [1, 2, 0] rfl (gl_X6_sheet_86 X ad  2100 (a1, (0 : Int32), u19))
            · refine go_iconst (v := (0 : Int32)) dX6_sheet_77 (by decide) ?_
              refine go_goto (tgt := 82) dX6_sheet_78 (by decide) ?_
              refine go_iastL kt_94 kr_94 kl_94 h17 dX6_sheet_82 ?_
              refine go_nmU (fun u20 => ?_)
              refine go_iconst (v := (0 : Int32)) dX6_sheet_83 (by decide) ?_
              refine go_istore (lv' := [(4, .int (0 : Int32)), (0, .ref (ad 86)), (1, .int a1), (2, .int a2), (3, .int a3)]) dX6_sheet_84 (Nat.le_of_ble_eq_true rfl) rfl ?_
              exact go_sub [1, 2, 0] rfl (gl_X6_sheet_86 X ad  2100 (a1, (0 : Int32), u20))
          · refine go_aload_n 0 rfl dX6_sheet_54 rfl ?_
            refine go_ldc (v := (-1000000001 : Int32)) gw205 dX6_sheet_55 ?_
            refine go_callVI (As := fun ad => [.int (-1000000001 : Int32)]) (g_X6_finds (-1000000001 : Int32) u2) mv_X6_finds clX6 kt_86 gw219 rfl ⟨Nat.le_of_ble_eq_true rfl, Nat.le_of_ble_eq_true rfl⟩ rfl (Nat.le_of_ble_eq_true rfl) dX6_sheet_57 (fun r21 u22 => ?_)
            exact go_iret rfl dX6_sheet_60
        · refine go_aload_n 0 rfl dX6_sheet_40 rfl ?_
          refine go_ldcw (v := (-1000000007 : Int32)) gw313 dX6_sheet_41 ?_
          refine go_callVI (As := fun ad => [.int (-1000000007 : Int32)]) (g_X6_finds (-1000000007 : Int32) u2) mv_X6_finds clX6 kt_86 gw219 rfl ⟨Nat.le_of_ble_eq_true rfl, Nat.le_of_ble_eq_true rfl⟩ rfl (Nat.le_of_ble_eq_true rfl) dX6_sheet_44 (fun r23 u24 => ?_)
          exact go_iret rfl dX6_sheet_47
      · refine go_iload_n 2 rfl dX6_sheet_17 rfl ?_
        refine go_bipush (v := (16 : Int32)) dX6_sheet_18 (by decide) ?_
        refine go_icmp_eq (tgt := 36) dX6_sheet_20 (by decide) ?_ ?_
        · refine go_iload_n 3 rfl dX6_sheet_36 rfl ?_
          refine go_if_ge (tgt := 48) dX6_sheet_37 (by decide) ?_ ?_
          · refine go_iload_n 3 rfl dX6_sheet_48 rfl ?_
            refine go_bipush (v := (40 : Int32)) dX6_sheet_49 (by decide) ?_
            refine go_icmp_le (tgt := 61) dX6_sheet_51 (by decide) ?_ ?_
            · refine go_aload_n 0 rfl dX6_sheet_61 rfl ?_
              refine go_getR clX6 kt_86 12 (Nat.le_of_ble_eq_true rfl) (f := 93) (fun _ => rfl) gw310 dX6_sheet_62 ?_
              refine go_iload_n 1 rfl dX6_sheet_65 rfl ?_
              refine go_iload_n 2 rfl dX6_sheet_66 rfl ?_
              refine go_ck (fun h25 => ?_)
              refine go_iastL kt_93 kr_93 kl_93 h25 dX6_sheet_67 ?_
              refine go_nmU (fun u26 => ?_)
              refine go_aload_n 0 rfl dX6_sheet_68 rfl ?_
              refine go_getR clX6 kt_86 13 (Nat.le_of_ble_eq_true rfl) (f := 94) (fun _ => rfl) gw311 dX6_sheet_69 ?_
              refine go_iload_n 1 rfl dX6_sheet_72 rfl ?_
              refine go_iload_n 2 rfl dX6_sheet_73 rfl ?_
              refine go_if_ne (tgt := 81) dX6_sheet_74 (by decide) ?_ ?_
              · refine go_iload_n 3 rfl dX6_sheet_81 rfl ?_
                refine go_iastL kt_94 kr_94 kl_94 h25 dX6_sheet_82 ?_
                refine go_nmU (fun u27 => ?_)
                refine go_iconst (v := (0 : Int32)) dX6_sheet_83 (by decide) ?_
                refine go_istore (lv' := [(4, .int (0 : Int32)), (0, .ref (ad 86)), (1, .int a1), (2, .int a2), (3, .int a3)]) dX6_sheet_84 (Nat.le_of_ble_eq_true rfl) rfl ?_
                exact go_sub [1, 2, 0] rfl (gl_X6_sheet_86 X ad  2100 (a1, (0 : Int32), u27))
              · refine go_iconst (v := (0 : Int32)) dX6_sheet_77 (by decide) ?_
                refine go_goto (tgt := 82) dX6_sheet_78 (by decide) ?_
                refine go_iastL kt_94 kr_94 kl_94 h25 dX6_sheet_82 ?_
                refine go_nmU (fun u28 => ?_)
                refine go_iconst (v := (0 : Int32)) dX6_sheet_83 (by decide) ?_
                refine go_istore (lv' := [(4, .int (0 : Int32)), (0, .ref (ad 86)), (1, .int a1), (2, .int a2), (3, .int a3)]) dX6_sheet_84 (Nat.le_of_ble_eq_true rfl) rfl ?_
                exact go_sub [1, 2, 0] rfl (gl_X6_sheet_86 X ad  2100 (a1, (0 : Int32), u28))
            · refine go_aload_n 0 rfl dX6_sheet_54 rfl ?_
              refine go_ldc (v := (-1000000001 : Int32)) gw205 dX6_sheet_55 ?_
              refine go_callVI (As := fun ad => [.int (-1000000001 : Int32)]) (g_X6_finds (-1000000001 : Int32) u2) mv_X6_finds clX6 kt_86 gw219 rfl ⟨Nat.le_of_ble_eq_true rfl, Nat.le_of_ble_eq_true rfl⟩ rfl (Nat.le_of_ble_eq_true rfl) dX6_sheet_57 (fun r29 u30 => ?_)
              exact go_iret rfl dX6_sheet_60
          · refine go_aload_n 0 rfl dX6_sheet_40 rfl ?_
            refine go_ldcw (v := (-1000000007 : Int32)) gw313 dX6_sheet_41 ?_
            refine go_callVI (As := fun ad => [.int (-1000000007 : Int32)]) (g_X6_finds (-1000000007 : Int32) u2) mv_X6_finds clX6 kt_86 gw219 rfl ⟨Nat.le_of_ble_eq_true rfl, Nat.le_of_ble_eq_true rfl⟩ rfl (Nat.le_of_ble_eq_true rfl) dX6_sheet_44 (fun r31 u32 => ?_)
            exact go_iret rfl dX6_sheet_47
        · refine go_iload_n 2 rfl dX6_sheet_23 rfl ?_
          refine go_bipush (v := (64 : Int32)) dX6_sheet_24 (by decide) ?_
          refine go_icmp_eq (tgt := 36) dX6_sheet_26 (by decide) ?_ ?_
          · refine go_iload_n 3 rfl dX6_sheet_36 rfl ?_
            refine go_if_ge (tgt := 48) dX6_sheet_37 (by decide) ?_ ?_
            · refine go_iload_n 3 rfl dX6_sheet_48 rfl ?_
              refine go_bipush (v := (40 : Int32)) dX6_sheet_49 (by decide) ?_
              refine go_icmp_le (tgt := 61) dX6_sheet_51 (by decide) ?_ ?_
              · refine go_aload_n 0 rfl dX6_sheet_61 rfl ?_
                refine go_getR clX6 kt_86 12 (Nat.le_of_ble_eq_true rfl) (f := 93) (fun _ => rfl) gw310 dX6_sheet_62 ?_
                refine go_iload_n 1 rfl dX6_sheet_65 rfl ?_
                refine go_iload_n 2 rfl dX6_sheet_66 rfl ?_
                refine go_ck (fun h33 => ?_)
                refine go_iastL kt_93 kr_93 kl_93 h33 dX6_sheet_67 ?_
                refine go_nmU (fun u34 => ?_)
                refine go_aload_n 0 rfl dX6_sheet_68 rfl ?_
                refine go_getR clX6 kt_86 13 (Nat.le_of_ble_eq_true rfl) (f := 94) (fun _ => rfl) gw311 dX6_sheet_69 ?_
                refine go_iload_n 1 rfl dX6_sheet_72 rfl ?_
                refine go_iload_n 2 rfl dX6_sheet_73 rfl ?_
                refine go_if_ne (tgt := 81) dX6_sheet_74 (by decide) ?_ ?_
                · refine go_iload_n 3 rfl dX6_sheet_81 rfl ?_
                  refine go_iastL kt_94 kr_94 kl_94 h33 dX6_sheet_82 ?_
                  refine go_nmU (fun u35 => ?_)
                  refine go_iconst (v := (0 : Int32)) dX6_sheet_83 (by decide) ?_
                  refine go_istore (lv' := [(4, .int (0 : Int32)), (0, .ref (ad 86)), (1, .int a1), (2, .int a2), (3, .int a3)]) dX6_sheet_84 (Nat.le_of_ble_eq_true rfl) rfl ?_
                  exact go_sub [1, 2, 0] rfl (gl_X6_sheet_86 X ad  2100 (a1, (0 : Int32), u35))
                · refine go_iconst (v := (0 : Int32)) dX6_sheet_77 (by decide) ?_
                  refine go_goto (tgt := 82) dX6_sheet_78 (by decide) ?_
                  refine go_iastL kt_94 kr_94 kl_94 h33 dX6_sheet_82 ?_
                  refine go_nmU (fun u36 => ?_)
                  refine go_iconst (v := (0 : Int32)) dX6_sheet_83 (by decide) ?_
                  refine go_istore (lv' := [(4, .int (0 : Int32)), (0, .ref (ad 86)), (1, .int a1), (2, .int a2), (3, .int a3)]) dX6_sheet_84 (Nat.le_of_ble_eq_true rfl) rfl ?_
                  exact go_sub [1, 2, 0] rfl (gl_X6_sheet_86 X ad  2100 (a1, (0 : Int32), u36))
              · refine go_aload_n 0 rfl dX6_sheet_54 rfl ?_
                refine go_ldc (v := (-1000000001 : Int32)) gw205 dX6_sheet_55 ?_
                refine go_callVI (As := fun ad => [.int (-1000000001 : Int32)]) (g_X6_finds (-1000000001 : Int32) u2) mv_X6_finds clX6 kt_86 gw219 rfl ⟨Nat.le_of_ble_eq_true rfl, Nat.le_of_ble_eq_true rfl⟩ rfl (Nat.le_of_ble_eq_true rfl) dX6_sheet_57 (fun r37 u38 => ?_)
                exact go_iret rfl dX6_sheet_60
            · refine go_aload_n 0 rfl dX6_sheet_40 rfl ?_
              refine go_ldcw (v := (-1000000007 : Int32)) gw313 dX6_sheet_41 ?_
              refine go_callVI (As := fun ad => [.int (-1000000007 : Int32)]) (g_X6_finds (-1000000007 : Int32) u2) mv_X6_finds clX6 kt_86 gw219 rfl ⟨Nat.le_of_ble_eq_true rfl, Nat.le_of_ble_eq_true rfl⟩ rfl (Nat.le_of_ble_eq_true rfl) dX6_sheet_44 (fun r39 u40 => ?_)
              exact go_iret rfl dX6_sheet_47
          · refine go_aload_n 0 rfl dX6_sheet_29 rfl ?_
            refine go_ldc (v := (-1000000001 : Int32)) gw205 dX6_sheet_30 ?_
            refine go_callVI (As := fun ad => [.int (-1000000001 : Int32)]) (g_X6_finds (-1000000001 : Int32) u2) mv_X6_finds clX6 kt_86 gw219 rfl ⟨Nat.le_of_ble_eq_true rfl, Nat.le_of_ble_eq_true rfl⟩ rfl (Nat.le_of_ble_eq_true rfl) dX6_sheet_32 (fun r41 u42 => ?_)
            exact go_iret rfl dX6_sheet_35
def f_X6_narrowed (a0 : Int32) (a1 : Int64) (u : Uw) : Option (Int64 × Uw) :=
  if a0 = (8 : Int32) then
  (some ((((a1.toInt32).toInt8.toInt32).toInt64), u))
  else
  (if a0 = (16 : Int32) then
  (some ((((a1.toInt32).toInt16.toInt32).toInt64), u))
  else
  (some (a1, u)))
set_option maxHeartbeats 4000000 in
set_option maxRecDepth 100000 in
theorem g_X6_narrowed (a0 : Int32) (a1 : Int64) (u : Uw) : ∀ l, Con l yX6_narrowed mi_X6_narrowed ivL (fun ad => [.int a0, .long a1]) u (f_X6_narrowed a0 a1 u) := by
  refine con_of (by decide) rfl (fun _ => Nat.le_of_ble_eq_true rfl) (fun X ad => ?_)
  show Go X ad mi_X6_narrowed ivL 0 [(0, .int a0), (1, .long a1)] [] u (f_X6_narrowed a0 a1 u)
  unfold f_X6_narrowed
  refine go_iload_n 0 rfl dX6_narrowed_0 rfl ?_
  refine go_bipush (v := (8 : Int32)) dX6_narrowed_1 (by decide) ?_
  refine go_icmp_ne (tgt := 13) dX6_narrowed_3 (by decide) ?_ ?_
  · refine go_iload_n 0 rfl dX6_narrowed_13 rfl ?_
    refine go_bipush (v := (16 : Int32)) dX6_narrowed_14 (by decide) ?_
    refine go_icmp_ne (tgt := 26) dX6_narrowed_16 (by decide) ?_ ?_
    · refine go_lload_n 1 rfl dX6_narrowed_26 rfl ?_
      exact go_lret rfl dX6_narrowed_27
    · refine go_lload_n 1 rfl dX6_narrowed_19 rfl ?_
      refine go_l2i dX6_narrowed_20 ?_
      refine go_i2s dX6_narrowed_21 ?_
      refine go_i2l dX6_narrowed_22 ?_
      refine go_goto (tgt := 27) dX6_narrowed_23 (by decide) ?_
      exact go_lret rfl dX6_narrowed_27
  · refine go_lload_n 1 rfl dX6_narrowed_6 rfl ?_
    refine go_l2i dX6_narrowed_7 ?_
    refine go_i2b dX6_narrowed_8 ?_
    refine go_i2l dX6_narrowed_9 ?_
    refine go_goto (tgt := 27) dX6_narrowed_10 (by decide) ?_
    exact go_lret rfl dX6_narrowed_27
def f_X6_wrongSheet (a1 : Int32) (u : Uw) : Option (Int32 × Uw) :=
  bd (f_X6_isOne a1 u) fun r1 u2 =>
  if r1 = true then
  (ck (inb a1 4) <|
  nm (u2.1 27 a1.toNatClampNeg) fun x4 =>
  if x4 = 0 then
  (some ((-1000000006 : Int32), u2))
  else
  (some ((0 : Int32), u2)))
  else
  (some ((-1000000001 : Int32), u2))
set_option maxHeartbeats 4000000 in
set_option maxRecDepth 100000 in
theorem g_X6_wrongSheet (a1 : Int32) (u : Uw) : ∀ l, Con l yX6_wrongSheet mi_X6_wrongSheet ivI (fun ad => [.ref (ad 86), .int a1]) u (f_X6_wrongSheet a1 u) := by
  refine con_of (by decide) rfl (fun _ => Nat.le_of_ble_eq_true rfl) (fun X ad => ?_)
  show Go X ad mi_X6_wrongSheet ivI 0 [(0, .ref (ad 86)), (1, .int a1)] [] u (f_X6_wrongSheet a1 u)
  unfold f_X6_wrongSheet
  refine go_iload_n 1 rfl dX6_wrongSheet_0 rfl ?_
  refine go_callSZ (As := fun ad => [.int a1]) (g_X6_isOne a1 u) mo_X6_isOne gw308 gw309 rfl ⟨Nat.le_of_ble_eq_true rfl, Nat.le_of_ble_eq_true rfl⟩ rfl (Nat.le_of_ble_eq_true rfl) dX6_wrongSheet_1 (fun r1 u2 => ?_)
  refine go_ifz_ne (tgt := 12) dX6_wrongSheet_4 (by decide) ?_ ?_
  · refine go_aload_n 0 rfl dX6_wrongSheet_12 rfl ?_
    refine go_getR clX6 kt_86 12 (Nat.le_of_ble_eq_true rfl) (f := 93) (fun _ => rfl) gw310 dX6_wrongSheet_13 ?_
    refine go_iload_n 1 rfl dX6_wrongSheet_16 rfl ?_
    refine go_ck (fun h3 => ?_)
    refine go_ialdL kt_93 kr_93 kl_93 h3 dX6_wrongSheet_17 ?_
    refine go_nm (fun x4 => ?_)
    refine go_if_ne (tgt := 27) dX6_wrongSheet_18 (by decide) ?_ ?_
    · refine go_iconst (v := (0 : Int32)) dX6_wrongSheet_27 (by decide) ?_
      exact go_iret rfl dX6_wrongSheet_28
    · refine go_ldcw (v := (-1000000006 : Int32)) gw314 dX6_wrongSheet_21 ?_
      refine go_goto (tgt := 28) dX6_wrongSheet_24 (by decide) ?_
      exact go_iret rfl dX6_wrongSheet_28
  · refine go_ldc (v := (-1000000001 : Int32)) gw205 dX6_wrongSheet_7 ?_
    refine go_goto (tgt := 28) dX6_wrongSheet_9 (by decide) ?_
    exact go_iret rfl dX6_wrongSheet_28
def f_X6_write (a1 : Int32) (a2 : Int32) (a3 : Int64) (u : Uw) : Option (Int64 × Uw) :=
  bd (f_X6_wrongSheet a1 u) fun r1 u2 =>
  if r1 = 0 then
  (ck (inb a1 4) <|
  nm (u2.1 28 a1.toNatClampNeg) fun x4 =>
  bd (f_X6_in (a2.toInt64) (0 : Int64) ((x4 - (1 : Int32)).toInt64) u2) fun r5 u6 =>
  if r5 = true then
  (ck (inb (((40 : Int32) * a1) + a2) 160) <|
  nm (u6.2 29 (((40 : Int32) * a1) + a2).toNatClampNeg) fun x8 =>
  nm (u6.1 27 a1.toNatClampNeg) fun x9 =>
  bd (f_X6_narrowed x9 a3 u6) fun r10 u11 =>
  nm (w2 u11 29 (((40 : Int32) * a1) + a2).toNatClampNeg r10) fun u12 =>
  some (x8, u12))
  else
  (bd (f_X6_finds (-1000000001 : Int32) u6) fun r13 u14 =>
  some ((r13.toInt64), u14)))
  else
  (bd (f_X6_finds r1 u2) fun r15 u16 =>
  some ((r15.toInt64), u16))
set_option maxHeartbeats 4000000 in
set_option maxRecDepth 100000 in
theorem g_X6_write (a1 : Int32) (a2 : Int32) (a3 : Int64) (u : Uw) : ∀ l, Con l yX6_write mi_X6_write ivL (fun ad => [.ref (ad 86), .int a1, .int a2, .long a3]) u (f_X6_write a1 a2 a3 u) := by
  refine con_of (by decide) rfl (fun _ => Nat.le_of_ble_eq_true rfl) (fun X ad => ?_)
  show Go X ad mi_X6_write ivL 0 [(0, .ref (ad 86)), (1, .int a1), (2, .int a2), (3, .long a3)] [] u (f_X6_write a1 a2 a3 u)
  unfold f_X6_write
  refine go_aload_n 0 rfl dX6_write_0 rfl ?_
  refine go_iload_n 1 rfl dX6_write_1 rfl ?_
  refine go_callVI (As := fun ad => [.int a1]) (g_X6_wrongSheet a1 u) mv_X6_wrongSheet clX6 kt_86 gw315 rfl ⟨Nat.le_of_ble_eq_true rfl, Nat.le_of_ble_eq_true rfl⟩ rfl (Nat.le_of_ble_eq_true rfl) dX6_write_2 (fun r1 u2 => ?_)
  refine go_istore (lv' := [(5, .int r1), (0, .ref (ad 86)), (1, .int a1), (2, .int a2), (3, .long a3)]) dX6_write_5 (Nat.le_of_ble_eq_true rfl) rfl ?_
  refine go_iload 0 rfl dX6_write_7 ?_
  refine go_if_eq (tgt := 20) dX6_write_9 (by decide) ?_ ?_
  · refine go_iload_n 3 rfl dX6_write_20 rfl ?_
    refine go_i2l dX6_write_21 ?_
    refine go_lconst (v := (0 : Int64)) dX6_write_22 (by decide) ?_
    refine go_aload_n 1 rfl dX6_write_23 rfl ?_
    refine go_getR clX6 kt_86 13 (Nat.le_of_ble_eq_true rfl) (f := 94) (fun _ => rfl) gw311 dX6_write_24 ?_
    refine go_iload_n 2 rfl dX6_write_27 rfl ?_
    refine go_ck (fun h3 => ?_)
    refine go_ialdL kt_94 kr_94 kl_94 h3 dX6_write_28 ?_
    refine go_nm (fun x4 => ?_)
    refine go_iconst (v := (1 : Int32)) dX6_write_29 (by decide) ?_
    refine go_isub dX6_write_30 ?_
    refine go_i2l dX6_write_31 ?_
    refine go_callSZ (As := fun ad => [.long (a2.toInt64), .long (0 : Int64), .long ((x4 - (1 : Int32)).toInt64)]) (g_X6_in (a2.toInt64) (0 : Int64) ((x4 - (1 : Int32)).toInt64) u2) mo_X6_in gw209 gw210 rfl ⟨Nat.le_of_ble_eq_true rfl, Nat.le_of_ble_eq_true rfl⟩ rfl (Nat.le_of_ble_eq_true rfl) dX6_write_32 (fun r5 u6 => ?_)
    refine go_ifz_ne (tgt := 46) dX6_write_35 (by decide) ?_ ?_
    · refine go_aload_n 1 rfl dX6_write_46 rfl ?_
      refine go_getR clX6 kt_86 14 (Nat.le_of_ble_eq_true rfl) (f := 95) (fun _ => rfl) gw312 dX6_write_47 ?_
      refine go_bipush (v := (40 : Int32)) dX6_write_50 (by decide) ?_
      refine go_iload_n 2 rfl dX6_write_52 rfl ?_
      refine go_imul dX6_write_53 ?_
      refine go_iload_n 3 rfl dX6_write_54 rfl ?_
      refine go_iadd dX6_write_55 ?_
      refine go_ck (fun h7 => ?_)
      refine go_laldL kt_95 kr_95 kl_95 h7 dX6_write_56 ?_
      refine go_nmL (fun x8 => ?_)
      refine go_lstore (lv' := [(6, .long x8), (5, .int r1), (0, .ref (ad 86)), (1, .int a1), (2, .int a2), (3, .long a3)]) dX6_write_57 (Nat.le_of_ble_eq_true rfl) rfl ?_
      refine go_aload_n 2 rfl dX6_write_59 rfl ?_
      refine go_getR clX6 kt_86 14 (Nat.le_of_ble_eq_true rfl) (f := 95) (fun _ => rfl) gw312 dX6_write_60 ?_
      refine go_bipush (v := (40 : Int32)) dX6_write_63 (by decide) ?_
      refine go_iload_n 3 rfl dX6_write_65 rfl ?_
      refine go_imul dX6_write_66 ?_
      refine go_iload_n 4 rfl dX6_write_67 rfl ?_
      refine go_iadd dX6_write_68 ?_
      refine go_aload_n 2 rfl dX6_write_69 rfl ?_
      refine go_getR clX6 kt_86 12 (Nat.le_of_ble_eq_true rfl) (f := 93) (fun _ => rfl) gw310 dX6_write_70 ?_
      refine go_iload_n 3 rfl dX6_write_73 rfl ?_
      refine go_ialdL kt_93 kr_93 kl_93 h3 dX6_write_74 ?_
      refine go_nm (fun x9 => ?_)
      refine go_lload_n 5 rfl dX6_write_75 rfl ?_
      refine go_callSL (As := fun ad => [.int x9, .long a3]) (g_X6_narrowed x9 a3 u6) mo_X6_narrowed gw316 gw317 rfl ⟨Nat.le_of_ble_eq_true rfl, Nat.le_of_ble_eq_true rfl⟩ rfl (Nat.le_of_ble_eq_true rfl) dX6_write_76 (fun r10 u11 => ?_)
      refine go_lastL kt_95 kr_95 kl_95 h7 dX6_write_79 ?_
      refine go_nmU (fun u12 => ?_)
      refine go_lload 0 rfl dX6_write_80 ?_
      exact go_lret rfl dX6_write_82
    · refine go_aload_n 1 rfl dX6_write_38 rfl ?_
      refine go_ldc (v := (-1000000001 : Int32)) gw205 dX6_write_39 ?_
      refine go_callVI (As := fun ad => [.int (-1000000001 : Int32)]) (g_X6_finds (-1000000001 : Int32) u6) mv_X6_finds clX6 kt_86 gw219 rfl ⟨Nat.le_of_ble_eq_true rfl, Nat.le_of_ble_eq_true rfl⟩ rfl (Nat.le_of_ble_eq_true rfl) dX6_write_41 (fun r13 u14 => ?_)
      refine go_i2l dX6_write_44 ?_
      exact go_lret rfl dX6_write_45
  · refine go_aload_n 1 rfl dX6_write_12 rfl ?_
    refine go_iload 0 rfl dX6_write_13 ?_
    refine go_callVI (As := fun ad => [.int r1]) (g_X6_finds r1 u2) mv_X6_finds clX6 kt_86 gw219 rfl ⟨Nat.le_of_ble_eq_true rfl, Nat.le_of_ble_eq_true rfl⟩ rfl (Nat.le_of_ble_eq_true rfl) dX6_write_15 (fun r15 u16 => ?_)
    refine go_i2l dX6_write_18 ?_
    exact go_lret rfl dX6_write_19
def b_X6_copy_157 (ih157 : Int32 × Int32 × Int32 × Int32 × Uw → Option (Int32 × Uw)) (s : Int32 × Int32 × Int32 × Int32 × Uw) : Option (Int32 × Uw) :=
  if s.2.2.1 ≤ s.2.2.2.1 then
  (some (s.2.2.1, s.2.2.2.2))
  else
  (ck (inb s.2.2.2.1 40) <|
  nm (s.2.2.2.2.2 30 s.2.2.2.1.toNatClampNeg) fun x26 =>
  ck (inb ((((40 : Int32) * s.1) + s.2.1) + s.2.2.2.1) 160) <|
  nm (w2 s.2.2.2.2 29 ((((40 : Int32) * s.1) + s.2.1) + s.2.2.2.1).toNatClampNeg x26) fun u28 =>
  ih157 (s.1, s.2.1, s.2.2.1, (s.2.2.2.1 + (1 : Int32)), u28))
def b_X6_copy_120 (ih120 : Int32 × Int32 × Int32 × Int32 × Int32 × Int32 × Uw → Option (Int32 × Uw)) (s : Int32 × Int32 × Int32 × Int32 × Int32 × Int32 × Uw) : Option (Int32 × Uw) :=
  if s.2.2.2.2.1 ≤ s.2.2.2.2.2.1 then
  (lp b_X6_copy_157 2100 (s.2.2.1, s.2.2.2.1, s.2.2.2.2.1, (0 : Int32), s.2.2.2.2.2.2))
  else
  (ck (inb ((((40 : Int32) * s.1) + s.2.1) + s.2.2.2.2.2.1) 160) <|
  nm (s.2.2.2.2.2.2.2 29 ((((40 : Int32) * s.1) + s.2.1) + s.2.2.2.2.2.1).toNatClampNeg) fun x30 =>
  ck (inb s.2.2.2.2.2.1 40) <|
  nm (w2 s.2.2.2.2.2.2 30 s.2.2.2.2.2.1.toNatClampNeg x30) fun u32 =>
  ih120 (s.1, s.2.1, s.2.2.1, s.2.2.2.1, s.2.2.2.2.1, (s.2.2.2.2.2.1 + (1 : Int32)), u32))
def f_X6_copy (a1 : Int32) (a2 : Int32) (a3 : Int32) (a4 : Int32) (a5 : Int32) (u : Uw) : Option (Int32 × Uw) :=
  bd (f_X6_isOne a1 u) fun r1 u2 =>
  if r1 = true then
  (bd (f_X6_isOne a3 u2) fun r5 u6 =>
  if r5 = true then
  (ck (inb a1 4) <|
  nm (u6.1 27 a1.toNatClampNeg) fun x8 =>
  if x8 = 0 then
  (bd (f_X6_finds (-1000000006 : Int32) u6) fun r9 u10 =>
  some (r9, u10))
  else
  (ck (inb a3 4) <|
  nm (u6.1 27 a3.toNatClampNeg) fun x12 =>
  if x12 = 0 then
  (bd (f_X6_finds (-1000000006 : Int32) u6) fun r37 u38 =>
  some (r37, u38))
  else
  (nm (u6.1 27 a1.toNatClampNeg) fun x13 =>
  nm (u6.1 27 a3.toNatClampNeg) fun x14 =>
  if x13 = x14 then
  (if a2 < 0 then
  (bd (f_X6_finds (-1000000001 : Int32) u6) fun r15 u16 =>
  some (r15, u16))
  else
  (if a4 < 0 then
  (bd (f_X6_finds (-1000000001 : Int32) u6) fun r17 u18 =>
  some (r17, u18))
  else
  (if a5 < 0 then
  (bd (f_X6_finds (-1000000001 : Int32) u6) fun r19 u20 =>
  some (r19, u20))
  else
  (nm (u6.1 28 a1.toNatClampNeg) fun x21 =>
  if (x21 - a2) < a5 then
  (bd (f_X6_finds (-1000000001 : Int32) u6) fun r22 u23 =>
  some (r22, u23))
  else
  (nm (u6.1 28 a3.toNatClampNeg) fun x24 =>
  if a5 ≤ (x24 - a4) then
  (lp b_X6_copy_120 2100 (a1, a2, a3, a4, a5, (0 : Int32), u6))
  else
  (bd (f_X6_finds (-1000000001 : Int32) u6) fun r33 u34 =>
  some (r33, u34)))))))
  else
  (bd (f_X6_finds (-1000000003 : Int32) u6) fun r35 u36 =>
  some (r35, u36)))))
  else
  (bd (f_X6_finds (-1000000001 : Int32) u6) fun r39 u40 =>
  some (r39, u40)))
  else
  (bd (f_X6_finds (-1000000001 : Int32) u2) fun r3 u4 =>
  some (r3, u4))
set_option maxHeartbeats 4000000 in
set_option maxRecDepth 100000 in
theorem gl_X6_copy_157 (X : Cx) (ad : Nat → Nat) : ∀ (n : Nat) (s : Int32 × Int32 × Int32 × Int32 × Uw), Go X ad mi_X6_copy ivI 157 [(0, .ref (ad 86)), (3, .int s.1), (4, .int s.2.1), (5, .int s.2.2.1), (6, .int s.2.2.2.1)] [] s.2.2.2.2 (lp b_X6_copy_157 n s) := by
  refine go_lp (G := fun (s : Int32 × Int32 × Int32 × Int32 × Uw) o => Go X ad mi_X6_copy ivI 157 [(0, .ref (ad 86)), (3, .int s.1), (4, .int s.2.1), (5, .int s.2.2.1), (6, .int s.2.2.2.1)] [] s.2.2.2.2 o) (fun _ => go_none) (fun ih157 hih157 s => ?_)
  show Go X ad mi_X6_copy ivI 157 [(0, .ref (ad 86)), (3, .int s.1), (4, .int s.2.1), (5, .int s.2.2.1), (6, .int s.2.2.2.1)] [] s.2.2.2.2 (b_X6_copy_157 ih157 s)
  unfold b_X6_copy_157
  refine go_iload 4 rfl dX6_copy_157 ?_
  refine go_iload 3 rfl dX6_copy_159 ?_
  refine go_icmp_ge (tgt := 192) dX6_copy_161 (by decide) ?_ ?_
  · refine go_iload 3 rfl dX6_copy_192 ?_
    exact go_iret rfl dX6_copy_194
  · refine go_aload_n 0 rfl dX6_copy_164 rfl ?_
    refine go_getR clX6 kt_86 14 (Nat.le_of_ble_eq_true rfl) (f := 95) (fun _ => rfl) gw312 dX6_copy_165 ?_
    refine go_bipush (v := (40 : Int32)) dX6_copy_168 (by decide) ?_
    refine go_iload_n 1 rfl dX6_copy_170 rfl ?_
    refine go_imul dX6_copy_171 ?_
    refine go_iload 2 rfl dX6_copy_172 ?_
    refine go_iadd dX6_copy_174 ?_
    refine go_iload 4 rfl dX6_copy_175 ?_
    refine go_iadd dX6_copy_177 ?_
    refine go_aload_n 0 rfl dX6_copy_178 rfl ?_
    refine go_getR clX6 kt_86 15 (Nat.le_of_ble_eq_true rfl) (f := 96) (fun _ => rfl) gw318 dX6_copy_179 ?_
    refine go_iload 4 rfl dX6_copy_182 ?_
    refine go_ck (fun h25 => ?_)
    refine go_laldL kt_96 kr_96 kl_96 h25 dX6_copy_184 ?_
    refine go_nmL (fun x26 => ?_)
    refine go_ck (fun h27 => ?_)
    refine go_lastL kt_95 kr_95 kl_95 h27 dX6_copy_185 ?_
    refine go_nmU (fun u28 => ?_)
    refine go_iinc (v := (s.2.2.2.1 + (1 : Int32))) (lv' := [(6, .int (s.2.2.2.1 + (1 : Int32))), (0, .ref (ad 86)), (3, .int s.1), (4, .int s.2.1), (5, .int s.2.2.1)]) 4 rfl dX6_copy_186 rfl (Nat.le_of_ble_eq_true rfl) rfl ?_
    refine go_goto (tgt := 157) dX6_copy_189 (by decide) ?_
    exact go_sub [1, 2, 3, 4, 0] rfl (hih157 (s.1, s.2.1, s.2.2.1, (s.2.2.2.1 + (1 : Int32)), u28))
set_option maxHeartbeats 4000000 in
set_option maxRecDepth 100000 in
theorem gl_X6_copy_120 (X : Cx) (ad : Nat → Nat) : ∀ (n : Nat) (s : Int32 × Int32 × Int32 × Int32 × Int32 × Int32 × Uw), Go X ad mi_X6_copy ivI 120 [(0, .ref (ad 86)), (1, .int s.1), (2, .int s.2.1), (3, .int s.2.2.1), (4, .int s.2.2.2.1), (5, .int s.2.2.2.2.1), (6, .int s.2.2.2.2.2.1)] [] s.2.2.2.2.2.2 (lp b_X6_copy_120 n s) := by
  refine go_lp (G := fun (s : Int32 × Int32 × Int32 × Int32 × Int32 × Int32 × Uw) o => Go X ad mi_X6_copy ivI 120 [(0, .ref (ad 86)), (1, .int s.1), (2, .int s.2.1), (3, .int s.2.2.1), (4, .int s.2.2.2.1), (5, .int s.2.2.2.2.1), (6, .int s.2.2.2.2.2.1)] [] s.2.2.2.2.2.2 o) (fun _ => go_none) (fun ih120 hih120 s => ?_)
  show Go X ad mi_X6_copy ivI 120 [(0, .ref (ad 86)), (1, .int s.1), (2, .int s.2.1), (3, .int s.2.2.1), (4, .int s.2.2.2.1), (5, .int s.2.2.2.2.1), (6, .int s.2.2.2.2.2.1)] [] s.2.2.2.2.2.2 (b_X6_copy_120 ih120 s)
  unfold b_X6_copy_120
  refine go_iload 6 rfl dX6_copy_120 ?_
  refine go_iload 5 rfl dX6_copy_122 ?_
  refine go_icmp_ge (tgt := 154) dX6_copy_124 (by decide) ?_ ?_
  · refine go_iconst (v := (0 : Int32)) dX6_copy_154 (by decide) ?_
    refine go_istore (lv' := [(6, .int (0 : Int32)), (0, .ref (ad 86)), (1, .int s.1), (2, .int s.2.1), (3, .int s.2.2.1), (4, .int s.2.2.2.1), (5, .int s.2.2.2.2.1)]) dX6_copy_155 (Nat.le_of_ble_eq_true rfl) rfl ?_
    exact go_sub [1, 4, 5, 6, 0] rfl (gl_X6_copy_157 X ad  2100 (s.2.2.1, s.2.2.2.1, s.2.2.2.2.1, (0 : Int32), s.2.2.2.2.2.2))
  · refine go_aload_n 0 rfl dX6_copy_127 rfl ?_
    refine go_getR clX6 kt_86 15 (Nat.le_of_ble_eq_true rfl) (f := 96) (fun _ => rfl) gw318 dX6_copy_128 ?_
    refine go_iload 6 rfl dX6_copy_131 ?_
    refine go_aload_n 0 rfl dX6_copy_133 rfl ?_
    refine go_getR clX6 kt_86 14 (Nat.le_of_ble_eq_true rfl) (f := 95) (fun _ => rfl) gw312 dX6_copy_134 ?_
    refine go_bipush (v := (40 : Int32)) dX6_copy_137 (by decide) ?_
    refine go_iload_n 1 rfl dX6_copy_139 rfl ?_
    refine go_imul dX6_copy_140 ?_
    refine go_iload_n 2 rfl dX6_copy_141 rfl ?_
    refine go_iadd dX6_copy_142 ?_
    refine go_iload 6 rfl dX6_copy_143 ?_
    refine go_iadd dX6_copy_145 ?_
    refine go_ck (fun h29 => ?_)
    refine go_laldL kt_95 kr_95 kl_95 h29 dX6_copy_146 ?_
    refine go_nmL (fun x30 => ?_)
    refine go_ck (fun h31 => ?_)
    refine go_lastL kt_96 kr_96 kl_96 h31 dX6_copy_147 ?_
    refine go_nmU (fun u32 => ?_)
    refine go_iinc (v := (s.2.2.2.2.2.1 + (1 : Int32))) (lv' := [(6, .int (s.2.2.2.2.2.1 + (1 : Int32))), (0, .ref (ad 86)), (1, .int s.1), (2, .int s.2.1), (3, .int s.2.2.1), (4, .int s.2.2.2.1), (5, .int s.2.2.2.2.1)]) 6 rfl dX6_copy_148 rfl (Nat.le_of_ble_eq_true rfl) rfl ?_
    refine go_goto (tgt := 120) dX6_copy_151 (by decide) ?_
    exact go_sub [1, 2, 3, 4, 5, 6, 0] rfl (hih120 (s.1, s.2.1, s.2.2.1, s.2.2.2.1, s.2.2.2.2.1, (s.2.2.2.2.2.1 + (1 : Int32)), u32))
set_option maxHeartbeats 4000000 in
set_option maxRecDepth 100000 in
theorem g_X6_copy (a1 : Int32) (a2 : Int32) (a3 : Int32) (a4 : Int32) (a5 : Int32) (u : Uw) : ∀ l, Con l yX6_copy mi_X6_copy ivI (fun ad => [.ref (ad 86), .int a1, .int a2, .int a3, .int a4, .int a5]) u (f_X6_copy a1 a2 a3 a4 a5 u) := by
  refine con_of (by decide) rfl (fun _ => Nat.le_of_ble_eq_true rfl) (fun X ad => ?_)
  show Go X ad mi_X6_copy ivI 0 [(0, .ref (ad 86)), (1, .int a1), (2, .int a2), (3, .int a3), (4, .int a4), (5, .int a5)] [] u (f_X6_copy a1 a2 a3 a4 a5 u)
  unfold f_X6_copy
  refine go_iload_n 1 rfl dX6_copy_0 rfl ?_
  refine go_callSZ (As := fun ad => [.int a1]) (g_X6_isOne a1 u) mo_X6_isOne gw308 gw309 rfl ⟨Nat.le_of_ble_eq_true rfl, Nat.le_of_ble_eq_true rfl⟩ rfl (Nat.le_of_ble_eq_true rfl) dX6_copy_1 (fun r1 u2 => ?_)
  refine go_ifz_eq (tgt := 14) dX6_copy_4 (by decide) ?_ ?_
  · refine go_aload_n 0 rfl dX6_copy_14 rfl ?_
    refine go_ldc (v := (-1000000001 : Int32)) gw205 dX6_copy_15 ?_
    refine go_callVI (As := fun ad => [.int (-1000000001 : Int32)]) (g_X6_finds (-1000000001 : Int32) u2) mv_X6_finds clX6 kt_86 gw219 rfl ⟨Nat.le_of_ble_eq_true rfl, Nat.le_of_ble_eq_true rfl⟩ rfl (Nat.le_of_ble_eq_true rfl) dX6_copy_17 (fun r3 u4 => ?_)
    exact go_iret rfl dX6_copy_20
  · refine go_iload_n 3 rfl dX6_copy_7 rfl ?_
    refine go_callSZ (As := fun ad => [.int a3]) (g_X6_isOne a3 u2) mo_X6_isOne gw308 gw309 rfl ⟨Nat.le_of_ble_eq_true rfl, Nat.le_of_ble_eq_true rfl⟩ rfl (Nat.le_of_ble_eq_true rfl) dX6_copy_8 (fun r5 u6 => ?_)
    refine go_ifz_ne (tgt := 21) dX6_copy_11 (by decide) ?_ ?_
    · refine go_aload_n 0 rfl dX6_copy_21 rfl ?_
      refine go_getR clX6 kt_86 12 (Nat.le_of_ble_eq_true rfl) (f := 93) (fun _ => rfl) gw310 dX6_copy_22 ?_
      refine go_iload_n 1 rfl dX6_copy_25 rfl ?_
      refine go_ck (fun h7 => ?_)
      refine go_ialdL kt_93 kr_93 kl_93 h7 dX6_copy_26 ?_
      refine go_nm (fun x8 => ?_)
      refine go_if_eq (tgt := 39) dX6_copy_27 (by decide) ?_ ?_
      · refine go_aload_n 0 rfl dX6_copy_39 rfl ?_
        refine go_ldcw (v := (-1000000006 : Int32)) gw314 dX6_copy_40 ?_
        refine go_callVI (As := fun ad => [.int (-1000000006 : Int32)]) (g_X6_finds (-1000000006 : Int32) u6) mv_X6_finds clX6 kt_86 gw219 rfl ⟨Nat.le_of_ble_eq_true rfl, Nat.le_of_ble_eq_true rfl⟩ rfl (Nat.le_of_ble_eq_true rfl) dX6_copy_43 (fun r9 u10 => ?_)
        exact go_iret rfl dX6_copy_46
      · refine go_aload_n 0 rfl dX6_copy_30 rfl ?_
        refine go_getR clX6 kt_86 12 (Nat.le_of_ble_eq_true rfl) (f := 93) (fun _ => rfl) gw310 dX6_copy_31 ?_
        refine go_iload_n 3 rfl dX6_copy_34 rfl ?_
        refine go_ck (fun h11 => ?_)
        refine go_ialdL kt_93 kr_93 kl_93 h11 dX6_copy_35 ?_
        refine go_nm (fun x12 => ?_)
        refine go_if_ne (tgt := 47) dX6_copy_36 (by decide) ?_ ?_
        · refine go_aload_n 0 rfl dX6_copy_47 rfl ?_
          refine go_getR clX6 kt_86 12 (Nat.le_of_ble_eq_true rfl) (f := 93) (fun _ => rfl) gw310 dX6_copy_48 ?_
          refine go_iload_n 1 rfl dX6_copy_51 rfl ?_
          refine go_ialdL kt_93 kr_93 kl_93 h7 dX6_copy_52 ?_
          refine go_nm (fun x13 => ?_)
          refine go_aload_n 0 rfl dX6_copy_53 rfl ?_
          refine go_getR clX6 kt_86 12 (Nat.le_of_ble_eq_true rfl) (f := 93) (fun _ => rfl) gw310 dX6_copy_54 ?_
          refine go_iload_n 3 rfl dX6_copy_57 rfl ?_
          refine go_ialdL kt_93 kr_93 kl_93 h11 dX6_copy_58 ?_
          refine go_nm (fun x14 => ?_)
          refine go_icmp_eq (tgt := 69) dX6_copy_59 (by decide) ?_ ?_
          · refine go_iload_n 2 rfl dX6_copy_69 rfl ?_
            refine go_if_lt (tgt := 110) dX6_copy_70 (by decide) ?_ ?_
            · refine go_aload_n 0 rfl dX6_copy_110 rfl ?_
              refine go_ldc (v := (-1000000001 : Int32)) gw205 dX6_copy_111 ?_
              refine go_callVI (As := fun ad => [.int (-1000000001 : Int32)]) (g_X6_finds (-1000000001 : Int32) u6) mv_X6_finds clX6 kt_86 gw219 rfl ⟨Nat.le_of_ble_eq_true rfl, Nat.le_of_ble_eq_true rfl⟩ rfl (Nat.le_of_ble_eq_true rfl) dX6_copy_113 (fun r15 u16 => ?_)
              exact go_iret rfl dX6_copy_116
            · refine go_iload 4 rfl dX6_copy_73 ?_
              refine go_if_lt (tgt := 110) dX6_copy_75 (by decide) ?_ ?_
              · refine go_aload_n 0 rfl dX6_copy_110 rfl ?_
                refine go_ldc (v := (-1000000001 : Int32)) gw205 dX6_copy_111 ?_
                refine go_callVI (As := fun ad => [.int (-1000000001 : Int32)]) (g_X6_finds (-1000000001 : Int32) u6) mv_X6_finds clX6 kt_86 gw219 rfl ⟨Nat.le_of_ble_eq_true rfl, Nat.le_of_ble_eq_true rfl⟩ rfl (Nat.le_of_ble_eq_true rfl) dX6_copy_113 (fun r17 u18 => ?_)
                exact go_iret rfl dX6_copy_116
              · refine go_iload 5 rfl dX6_copy_78 ?_
                refine go_if_lt (tgt := 110) dX6_copy_80 (by decide) ?_ ?_
                · refine go_aload_n 0 rfl dX6_copy_110 rfl ?_
                  refine go_ldc (v := (-1000000001 : Int32)) gw205 dX6_copy_111 ?_
                  refine go_callVI (As := fun ad => [.int (-1000000001 : Int32)]) (g_X6_finds (-1000000001 : Int32) u6) mv_X6_finds clX6 kt_86 gw219 rfl ⟨Nat.le_of_ble_eq_true rfl, Nat.le_of_ble_eq_true rfl⟩ rfl (Nat.le_of_ble_eq_true rfl) dX6_copy_113 (fun r19 u20 => ?_)
                  exact go_iret rfl dX6_copy_116
                · refine go_iload 5 rfl dX6_copy_83 ?_
                  refine go_aload_n 0 rfl dX6_copy_85 rfl ?_
                  refine go_getR clX6 kt_86 13 (Nat.le_of_ble_eq_true rfl) (f := 94) (fun _ => rfl) gw311 dX6_copy_86 ?_
                  refine go_iload_n 1 rfl dX6_copy_89 rfl ?_
                  refine go_ialdL kt_94 kr_94 kl_94 h7 dX6_copy_90 ?_
                  refine go_nm (fun x21 => ?_)
                  refine go_iload_n 2 rfl dX6_copy_91 rfl ?_
                  refine go_isub dX6_copy_92 ?_
                  refine go_icmp_gt (tgt := 110) dX6_copy_93 (by decide) ?_ ?_
                  · refine go_aload_n 0 rfl dX6_copy_110 rfl ?_
                    refine go_ldc (v := (-1000000001 : Int32)) gw205 dX6_copy_111 ?_
                    refine go_callVI (As := fun ad => [.int (-1000000001 : Int32)]) (g_X6_finds (-1000000001 : Int32) u6) mv_X6_finds clX6 kt_86 gw219 rfl ⟨Nat.le_of_ble_eq_true rfl, Nat.le_of_ble_eq_true rfl⟩ rfl (Nat.le_of_ble_eq_true rfl) dX6_copy_113 (fun r22 u23 => ?_)
                    exact go_iret rfl dX6_copy_116
                  · refine go_iload 5 rfl dX6_copy_96 ?_
                    refine go_aload_n 0 rfl dX6_copy_98 rfl ?_
                    refine go_getR clX6 kt_86 13 (Nat.le_of_ble_eq_true rfl) (f := 94) (fun _ => rfl) gw311 dX6_copy_99 ?_
                    refine go_iload_n 3 rfl dX6_copy_102 rfl ?_
                    refine go_ialdL kt_94 kr_94 kl_94 h11 dX6_copy_103 ?_
                    refine go_nm (fun x24 => ?_)
                    refine go_iload 4 rfl dX6_copy_104 ?_
                    refine go_isub dX6_copy_106 ?_
                    refine go_icmp_le (tgt := 117) dX6_copy_107 (by decide) ?_ ?_
                    · refine go_iconst (v := (0 : Int32)) dX6_copy_117 (by decide) ?_
                      refine go_istore (lv' := [(6, .int (0 : Int32)), (0, .ref (ad 86)), (1, .int a1), (2, .int a2), (3, .int a3), (4, .int a4), (5, .int a5)]) dX6_copy_118 (Nat.le_of_ble_eq_true rfl) rfl ?_
                      exact go_sub [1, 2, 3, 4, 5, 6, 0] rfl (gl_X6_copy_120 X ad  2100 (a1, a2, a3, a4, a5, (0 : Int32), u6))
                    · refine go_aload_n 0 rfl dX6_copy_110 rfl ?_
                      refine go_ldc (v := (-1000000001 : Int32)) gw205 dX6_copy_111 ?_
                      refine go_callVI (As := fun ad => [.int (-1000000001 : Int32)]) (g_X6_finds (-1000000001 : Int32) u6) mv_X6_finds clX6 kt_86 gw219 rfl ⟨Nat.le_of_ble_eq_true rfl, Nat.le_of_ble_eq_true rfl⟩ rfl (Nat.le_of_ble_eq_true rfl) dX6_copy_113 (fun r33 u34 => ?_)
                      exact go_iret rfl dX6_copy_116
          · refine go_aload_n 0 rfl dX6_copy_62 rfl ?_
            refine go_ldc (v := (-1000000003 : Int32)) gw230 dX6_copy_63 ?_
            refine go_callVI (As := fun ad => [.int (-1000000003 : Int32)]) (g_X6_finds (-1000000003 : Int32) u6) mv_X6_finds clX6 kt_86 gw219 rfl ⟨Nat.le_of_ble_eq_true rfl, Nat.le_of_ble_eq_true rfl⟩ rfl (Nat.le_of_ble_eq_true rfl) dX6_copy_65 (fun r35 u36 => ?_)
            exact go_iret rfl dX6_copy_68
        · refine go_aload_n 0 rfl dX6_copy_39 rfl ?_
          refine go_ldcw (v := (-1000000006 : Int32)) gw314 dX6_copy_40 ?_
          refine go_callVI (As := fun ad => [.int (-1000000006 : Int32)]) (g_X6_finds (-1000000006 : Int32) u6) mv_X6_finds clX6 kt_86 gw219 rfl ⟨Nat.le_of_ble_eq_true rfl, Nat.le_of_ble_eq_true rfl⟩ rfl (Nat.le_of_ble_eq_true rfl) dX6_copy_43 (fun r37 u38 => ?_)
          exact go_iret rfl dX6_copy_46
    · refine go_aload_n 0 rfl dX6_copy_14 rfl ?_
      refine go_ldc (v := (-1000000001 : Int32)) gw205 dX6_copy_15 ?_
      refine go_callVI (As := fun ad => [.int (-1000000001 : Int32)]) (g_X6_finds (-1000000001 : Int32) u6) mv_X6_finds clX6 kt_86 gw219 rfl ⟨Nat.le_of_ble_eq_true rfl, Nat.le_of_ble_eq_true rfl⟩ rfl (Nat.le_of_ble_eq_true rfl) dX6_copy_17 (fun r39 u40 => ?_)
      exact go_iret rfl dX6_copy_20
def b_X6_lays_21 (ih21 : Int32 × Int32 × Int32 × Uw → Option (Int32 × Uw)) (s : Int32 × Int32 × Int32 × Uw) : Option (Int32 × Uw) :=
  ck (inb s.1 4) <|
  nm (s.2.2.2.1 28 s.1.toNatClampNeg) fun x4 =>
  if x4 ≤ s.2.2.1 then
  (some (s.2.1, s.2.2.2))
  else
  (nm (s.2.2.2.1 20 (1 : Int32).toNatClampNeg) fun x5 =>
  if x5 ≤ s.2.2.1 then
  (some (s.2.1, s.2.2.2))
  else
  (ck (inb (((40 : Int32) * s.1) + s.2.2.1) 160) <|
  nm (s.2.2.2.2 29 (((40 : Int32) * s.1) + s.2.2.1).toNatClampNeg) fun x7 =>
  bd (f_X6_in x7 (0 : Int64) (99 : Int64) s.2.2.2) fun r8 u9 =>
  bd (f_X6_spot s.2.2.1 (0 : Int32) u9) fun r10 u11 =>
  if (bI r8) = 0 then
  (bd (f_X6_isOf s.2.2.1 (0 : Int32) u11) fun r12 u13 =>
  ck (inb r10 61) <|
  nm (w1 u13 20 r10.toNatClampNeg r12) fun u15 =>
  if (bI r8) = 0 then
  (nm (s.2.1 + (0 : Int32)) fun x16 =>
  ih21 (s.1, x16, (s.2.2.1 + (1 : Int32)), u15))
  else
  (nm (s.2.1 + (1 : Int32)) fun x17 =>
  ih21 (s.1, x17, (s.2.2.1 + (1 : Int32)), u15)))
  else
  (nm (u11.2 29 (((40 : Int32) * s.1) + s.2.2.1).toNatClampNeg) fun x18 =>
  ck (inb r10 61) <|
  nm (w1 u11 20 r10.toNatClampNeg (x18.toInt32)) fun u20 =>
  if (bI r8) = 0 then
  (nm (s.2.1 + (0 : Int32)) fun x21 =>
  ih21 (s.1, x21, (s.2.2.1 + (1 : Int32)), u20))
  else
  (nm (s.2.1 + (1 : Int32)) fun x22 =>
  ih21 (s.1, x22, (s.2.2.1 + (1 : Int32)), u20)))))
def f_X6_lays (a1 : Int32) (u : Uw) : Option (Int32 × Uw) :=
  bd (f_X6_wrongSheet a1 u) fun r1 u2 =>
  if r1 = 0 then
  (lp b_X6_lays_21 2100 (a1, (0 : Int32), (0 : Int32), u2))
  else
  (bd (f_X6_finds r1 u2) fun r23 u24 =>
  some (r23, u24))
set_option maxHeartbeats 4000000 in
set_option maxRecDepth 100000 in
theorem gl_X6_lays_21 (X : Cx) (ad : Nat → Nat) : ∀ (n : Nat) (s : Int32 × Int32 × Int32 × Uw), Go X ad mi_X6_lays ivI 21 [(0, .ref (ad 86)), (1, .int s.1), (3, .int s.2.1), (4, .int s.2.2.1)] [] s.2.2.2 (lp b_X6_lays_21 n s) := by
  refine go_lp (G := fun (s : Int32 × Int32 × Int32 × Uw) o => Go X ad mi_X6_lays ivI 21 [(0, .ref (ad 86)), (1, .int s.1), (3, .int s.2.1), (4, .int s.2.2.1)] [] s.2.2.2 o) (fun _ => go_none) (fun ih21 hih21 s => ?_)
  show Go X ad mi_X6_lays ivI 21 [(0, .ref (ad 86)), (1, .int s.1), (3, .int s.2.1), (4, .int s.2.2.1)] [] s.2.2.2 (b_X6_lays_21 ih21 s)
  unfold b_X6_lays_21
  refine go_iload 3 rfl dX6_lays_21 ?_
  refine go_aload_n 0 rfl dX6_lays_23 rfl ?_
  refine go_getR clX6 kt_86 13 (Nat.le_of_ble_eq_true rfl) (f := 94) (fun _ => rfl) gw311 dX6_lays_24 ?_
  refine go_iload_n 1 rfl dX6_lays_27 rfl ?_
  refine go_ck (fun h3 => ?_)
  refine go_ialdL kt_94 kr_94 kl_94 h3 dX6_lays_28 ?_
  refine go_nm (fun x4 => ?_)
  refine go_icmp_ge (tgt := 122) dX6_lays_29 (by decide) ?_ ?_
  · refine go_iload_n 2 rfl dX6_lays_122 rfl ?_
    exact go_iret rfl dX6_lays_123
  · refine go_iload 3 rfl dX6_lays_32 ?_
    refine go_aload_n 0 rfl dX6_lays_34 rfl ?_
    refine go_getR clX6 kt_86 0 (Nat.le_of_ble_eq_true rfl) (f := 87) (fun _ => rfl) gw207 dX6_lays_35 ?_
    refine go_iconst (v := (1 : Int32)) dX6_lays_38 (by decide) ?_
    refine go_ialdL kt_87 kr_87 kl_87 rfl dX6_lays_39 ?_
    refine go_nm (fun x5 => ?_)
    refine go_icmp_ge (tgt := 122) dX6_lays_40 (by decide) ?_ ?_
    · refine go_iload_n 2 rfl dX6_lays_122 rfl ?_
      exact go_iret rfl dX6_lays_123
    · refine go_aload_n 0 rfl dX6_lays_43 rfl ?_
      refine go_getR clX6 kt_86 14 (Nat.le_of_ble_eq_true rfl) (f := 95) (fun _ => rfl) gw312 dX6_lays_44 ?_
      refine go_bipush (v := (40 : Int32)) dX6_lays_47 (by decide) ?_
      refine go_iload_n 1 rfl dX6_lays_49 rfl ?_
      refine go_imul dX6_lays_50 ?_
      refine go_iload 3 rfl dX6_lays_51 ?_
      refine go_iadd dX6_lays_53 ?_
      refine go_ck (fun h6 => ?_)
      refine go_laldL kt_95 kr_95 kl_95 h6 dX6_lays_54 ?_
      refine go_nmL (fun x7 => ?_)
      refine go_lconst (v := (0 : Int64)) dX6_lays_55 (by decide) ?_
      refine go_ldc2 (v := (99 : Int64)) gw222 dX6_lays_56 ?_
      refine go_callSZ (As := fun ad => [.long x7, .long (0 : Int64), .long (99 : Int64)]) (g_X6_in x7 (0 : Int64) (99 : Int64) s.2.2.2) mo_X6_in gw209 gw210 rfl ⟨Nat.le_of_ble_eq_true rfl, Nat.le_of_ble_eq_true rfl⟩ rfl (Nat.le_of_ble_eq_true rfl) dX6_lays_59 (fun r8 u9 => ?_)
      refine go_istore (lv' := [(5, .int (bI r8)), (0, .ref (ad 86)), (1, .int s.1), (3, .int s.2.1), (4, .int s.2.2.1)]) dX6_lays_62 (Nat.le_of_ble_eq_true rfl) rfl ?_
      refine go_aload_n 1 rfl dX6_lays_64 rfl ?_
      refine go_getR clX6 kt_86 0 (Nat.le_of_ble_eq_true rfl) (f := 87) (fun _ => rfl) gw207 dX6_lays_65 ?_
      refine go_iload 4 rfl dX6_lays_68 ?_
      refine go_iconst (v := (0 : Int32)) dX6_lays_70 (by decide) ?_
      refine go_callSI (As := fun ad => [.int s.2.2.1, .int (0 : Int32)]) (g_X6_spot s.2.2.1 (0 : Int32) u9) mo_X6_spot gw213 gw214 rfl ⟨Nat.le_of_ble_eq_true rfl, Nat.le_of_ble_eq_true rfl⟩ rfl (Nat.le_of_ble_eq_true rfl) dX6_lays_71 (fun r10 u11 => ?_)
      refine go_iload 0 rfl dX6_lays_74 ?_
      refine go_if_eq (tgt := 95) dX6_lays_76 (by decide) ?_ ?_
      · refine go_aload_n 1 rfl dX6_lays_95 rfl ?_
        refine go_iload 4 rfl dX6_lays_96 ?_
        refine go_iconst (v := (0 : Int32)) dX6_lays_98 (by decide) ?_
        refine go_callVI (As := fun ad => [.int s.2.2.1, .int (0 : Int32)]) (g_X6_isOf s.2.2.1 (0 : Int32) u11) mv_X6_isOf clX6 kt_86 gw242 rfl ⟨Nat.le_of_ble_eq_true rfl, Nat.le_of_ble_eq_true rfl⟩ rfl (Nat.le_of_ble_eq_true rfl) dX6_lays_99 (fun r12 u13 => ?_)
        refine go_ck (fun h14 => ?_)
        refine go_iastL kt_87 kr_87 kl_87 h14 dX6_lays_102 ?_
        refine go_nmU (fun u15 => ?_)
        refine go_iload_n 3 rfl dX6_lays_103 rfl ?_
        refine go_iload 0 rfl dX6_lays_104 ?_
        refine go_if_eq (tgt := 113) dX6_lays_106 (by decide) ?_ ?_
        · refine go_iconst (v := (0 : Int32)) dX6_lays_113 (by decide) ?_
          refine go_iadd dX6_lays_114 ?_
          refine go_nm (fun x16 => ?_)
          refine go_istore_n (lv' := [(3, .int x16), (5, .int (bI r8)), (0, .ref (ad 86)), (1, .int s.1), (4, .int s.2.2.1)]) dX6_lays_115 rfl (Nat.le_of_ble_eq_true rfl) rfl ?_
          refine go_iinc (v := (s.2.2.1 + (1 : Int32))) (lv' := [(4, .int (s.2.2.1 + (1 : Int32))), (3, .int x16), (5, .int (bI r8)), (0, .ref (ad 86)), (1, .int s.1)]) 4 rfl dX6_lays_116 rfl (Nat.le_of_ble_eq_true rfl) rfl ?_
          refine go_goto (tgt := 21) dX6_lays_119 (by decide) ?_
          exact go_sub [3, 4, 1, 0] rfl (hih21 (s.1, x16, (s.2.2.1 + (1 : Int32)), u15))
        · refine go_iconst (v := (1 : Int32)) dX6_lays_109 (by decide) ?_
          refine go_goto (tgt := 114) dX6_lays_110 (by decide) ?_
          refine go_iadd dX6_lays_114 ?_
          refine go_nm (fun x17 => ?_)
          refine go_istore_n (lv' := [(3, .int x17), (5, .int (bI r8)), (0, .ref (ad 86)), (1, .int s.1), (4, .int s.2.2.1)]) dX6_lays_115 rfl (Nat.le_of_ble_eq_true rfl) rfl ?_
          refine go_iinc (v := (s.2.2.1 + (1 : Int32))) (lv' := [(4, .int (s.2.2.1 + (1 : Int32))), (3, .int x17), (5, .int (bI r8)), (0, .ref (ad 86)), (1, .int s.1)]) 4 rfl dX6_lays_116 rfl (Nat.le_of_ble_eq_true rfl) rfl ?_
          refine go_goto (tgt := 21) dX6_lays_119 (by decide) ?_
          exact go_sub [3, 4, 1, 0] rfl (hih21 (s.1, x17, (s.2.2.1 + (1 : Int32)), u15))
      · refine go_aload_n 1 rfl dX6_lays_79 rfl ?_
        refine go_getR clX6 kt_86 14 (Nat.le_of_ble_eq_true rfl) (f := 95) (fun _ => rfl) gw312 dX6_lays_80 ?_
        refine go_bipush (v := (40 : Int32)) dX6_lays_83 (by decide) ?_
        refine go_iload_n 2 rfl dX6_lays_85 rfl ?_
        refine go_imul dX6_lays_86 ?_
        refine go_iload 4 rfl dX6_lays_87 ?_
        refine go_iadd dX6_lays_89 ?_
        refine go_laldL kt_95 kr_95 kl_95 h6 dX6_lays_90 ?_
        refine go_nmL (fun x18 => ?_)
        refine go_l2i dX6_lays_91 ?_
        refine go_goto (tgt := 102) dX6_lays_92 (by decide) ?_
        refine go_ck (fun h19 => ?_)
        refine go_iastL kt_87 kr_87 kl_87 h19 dX6_lays_102 ?_
        refine go_nmU (fun u20 => ?_)
        refine go_iload_n 3 rfl dX6_lays_103 rfl ?_
        refine go_iload 0 rfl dX6_lays_104 ?_
        refine go_if_eq (tgt := 113) dX6_lays_106 (by decide) ?_ ?_
        · refine go_iconst (v := (0 : Int32)) dX6_lays_113 (by decide) ?_
          refine go_iadd dX6_lays_114 ?_
          refine go_nm (fun x21 => ?_)
          refine go_istore_n (lv' := [(3, .int x21), (5, .int (bI r8)), (0, .ref (ad 86)), (1, .int s.1), (4, .int s.2.2.1)]) dX6_lays_115 rfl (Nat.le_of_ble_eq_true rfl) rfl ?_
          refine go_iinc (v := (s.2.2.1 + (1 : Int32))) (lv' := [(4, .int (s.2.2.1 + (1 : Int32))), (3, .int x21), (5, .int (bI r8)), (0, .ref (ad 86)), (1, .int s.1)]) 4 rfl dX6_lays_116 rfl (Nat.le_of_ble_eq_true rfl) rfl ?_
          refine go_goto (tgt := 21) dX6_lays_119 (by decide) ?_
          exact go_sub [3, 4, 1, 0] rfl (hih21 (s.1, x21, (s.2.2.1 + (1 : Int32)), u20))
        · refine go_iconst (v := (1 : Int32)) dX6_lays_109 (by decide) ?_
          refine go_goto (tgt := 114) dX6_lays_110 (by decide) ?_
          refine go_iadd dX6_lays_114 ?_
          refine go_nm (fun x22 => ?_)
          refine go_istore_n (lv' := [(3, .int x22), (5, .int (bI r8)), (0, .ref (ad 86)), (1, .int s.1), (4, .int s.2.2.1)]) dX6_lays_115 rfl (Nat.le_of_ble_eq_true rfl) rfl ?_
          refine go_iinc (v := (s.2.2.1 + (1 : Int32))) (lv' := [(4, .int (s.2.2.1 + (1 : Int32))), (3, .int x22), (5, .int (bI r8)), (0, .ref (ad 86)), (1, .int s.1)]) 4 rfl dX6_lays_116 rfl (Nat.le_of_ble_eq_true rfl) rfl ?_
          refine go_goto (tgt := 21) dX6_lays_119 (by decide) ?_
          exact go_sub [3, 4, 1, 0] rfl (hih21 (s.1, x22, (s.2.2.1 + (1 : Int32)), u20))
set_option maxHeartbeats 4000000 in
set_option maxRecDepth 100000 in
theorem g_X6_lays (a1 : Int32) (u : Uw) : ∀ l, Con l yX6_lays mi_X6_lays ivI (fun ad => [.ref (ad 86), .int a1]) u (f_X6_lays a1 u) := by
  refine con_of (by decide) rfl (fun _ => Nat.le_of_ble_eq_true rfl) (fun X ad => ?_)
  show Go X ad mi_X6_lays ivI 0 [(0, .ref (ad 86)), (1, .int a1)] [] u (f_X6_lays a1 u)
  unfold f_X6_lays
  refine go_aload_n 0 rfl dX6_lays_0 rfl ?_
  refine go_iload_n 1 rfl dX6_lays_1 rfl ?_
  refine go_callVI (As := fun ad => [.int a1]) (g_X6_wrongSheet a1 u) mv_X6_wrongSheet clX6 kt_86 gw315 rfl ⟨Nat.le_of_ble_eq_true rfl, Nat.le_of_ble_eq_true rfl⟩ rfl (Nat.le_of_ble_eq_true rfl) dX6_lays_2 (fun r1 u2 => ?_)
  refine go_istore_n (lv' := [(2, .int r1), (0, .ref (ad 86)), (1, .int a1)]) dX6_lays_5 rfl (Nat.le_of_ble_eq_true rfl) rfl ?_
  refine go_iload_n 0 rfl dX6_lays_6 rfl ?_
  refine go_if_eq (tgt := 16) dX6_lays_7 (by decide) ?_ ?_
  · refine go_iconst (v := (0 : Int32)) dX6_lays_16 (by decide) ?_
    refine go_istore_n (lv' := [(3, .int (0 : Int32)), (2, .int r1), (0, .ref (ad 86)), (1, .int a1)]) dX6_lays_17 rfl (Nat.le_of_ble_eq_true rfl) rfl ?_
    refine go_iconst (v := (0 : Int32)) dX6_lays_18 (by decide) ?_
    refine go_istore (lv' := [(4, .int (0 : Int32)), (3, .int (0 : Int32)), (2, .int r1), (0, .ref (ad 86)), (1, .int a1)]) dX6_lays_19 (Nat.le_of_ble_eq_true rfl) rfl ?_
    exact go_sub [3, 4, 1, 0] rfl (gl_X6_lays_21 X ad  2100 (a1, (0 : Int32), (0 : Int32), u2))
  · refine go_aload_n 1 rfl dX6_lays_10 rfl ?_
    refine go_iload_n 0 rfl dX6_lays_11 rfl ?_
    refine go_callVI (As := fun ad => [.int r1]) (g_X6_finds r1 u2) mv_X6_finds clX6 kt_86 gw219 rfl ⟨Nat.le_of_ble_eq_true rfl, Nat.le_of_ble_eq_true rfl⟩ rfl (Nat.le_of_ble_eq_true rfl) dX6_lays_12 (fun r23 u24 => ?_)
    exact go_iret rfl dX6_lays_15
def f_X6_wrongBook (a1 : Int32) (a2 : Int32) (u : Uw) : Option (Int32 × Uw) :=
  bd (f_X6_wrongSheet a1 u) fun r1 u2 =>
  if r1 = 0 then
  (bd (f_X6_isPilgrim a2 u2) fun r3 u4 =>
  if r3 = true then
  (some ((0 : Int32), u4))
  else
  (some ((-1000000001 : Int32), u4)))
  else
  (some (r1, u2))
set_option maxHeartbeats 4000000 in
set_option maxRecDepth 100000 in
theorem g_X6_wrongBook (a1 : Int32) (a2 : Int32) (u : Uw) : ∀ l, Con l yX6_wrongBook mi_X6_wrongBook ivI (fun ad => [.ref (ad 86), .int a1, .int a2]) u (f_X6_wrongBook a1 a2 u) := by
  refine con_of (by decide) rfl (fun _ => Nat.le_of_ble_eq_true rfl) (fun X ad => ?_)
  show Go X ad mi_X6_wrongBook ivI 0 [(0, .ref (ad 86)), (1, .int a1), (2, .int a2)] [] u (f_X6_wrongBook a1 a2 u)
  unfold f_X6_wrongBook
  refine go_aload_n 0 rfl dX6_wrongBook_0 rfl ?_
  refine go_iload_n 1 rfl dX6_wrongBook_1 rfl ?_
  refine go_callVI (As := fun ad => [.int a1]) (g_X6_wrongSheet a1 u) mv_X6_wrongSheet clX6 kt_86 gw315 rfl ⟨Nat.le_of_ble_eq_true rfl, Nat.le_of_ble_eq_true rfl⟩ rfl (Nat.le_of_ble_eq_true rfl) dX6_wrongBook_2 (fun r1 u2 => ?_)
  refine go_istore_n (lv' := [(3, .int r1), (0, .ref (ad 86)), (1, .int a1), (2, .int a2)]) dX6_wrongBook_5 rfl (Nat.le_of_ble_eq_true rfl) rfl ?_
  refine go_iload_n 0 rfl dX6_wrongBook_6 rfl ?_
  refine go_if_eq (tgt := 14) dX6_wrongBook_7 (by decide) ?_ ?_
  · refine go_aload_n 1 rfl dX6_wrongBook_14 rfl ?_
    refine go_iload_n 3 rfl dX6_wrongBook_15 rfl ?_
    refine go_callVZ (As := fun ad => [.int a2]) (g_X6_isPilgrim a2 u2) mv_X6_isPilgrim clX6 kt_86 gw240 rfl ⟨Nat.le_of_ble_eq_true rfl, Nat.le_of_ble_eq_true rfl⟩ rfl (Nat.le_of_ble_eq_true rfl) dX6_wrongBook_16 (fun r3 u4 => ?_)
    refine go_ifz_eq (tgt := 26) dX6_wrongBook_19 (by decide) ?_ ?_
    · refine go_ldc (v := (-1000000001 : Int32)) gw205 dX6_wrongBook_26 ?_
      exact go_iret rfl dX6_wrongBook_28
    · refine go_iconst (v := (0 : Int32)) dX6_wrongBook_22 (by decide) ?_
      refine go_goto (tgt := 28) dX6_wrongBook_23 (by decide) ?_
      exact go_iret rfl dX6_wrongBook_28
  · refine go_iload_n 0 rfl dX6_wrongBook_10 rfl ?_
    refine go_goto (tgt := 28) dX6_wrongBook_11 (by decide) ?_
    exact go_iret rfl dX6_wrongBook_28
