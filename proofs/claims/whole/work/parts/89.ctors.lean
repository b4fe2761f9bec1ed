/-! the constructors -/
set_option maxHeartbeats 4000000 in
set_option maxRecDepth 100000 in
theorem c_X1_init_125 (l : Launch) (n0 : Nat) (D : va_G) (ca : Nat → ClassId) : CtM l yX1_init cX1_init 1 1 0 0 [.ref (n0 + 125)] n0 125 126 1 [.int 0, .int 0, .int 0] D ca := by
  refine CtM_of (by decide) rfl (Nat.le_of_ble_eq_true rfl) ?_
  intro p e s m below meth c ls C hKM hml hr hlk hin hz o hl
  have hx := C.1
  have hb := C.2.1
  have hS : va_S (fun q => n0 + 125 ≤ q) s.heap s.heap [] := va_S.rf
  have hl : lv_has ls 1 [(0, .ref (n0 + 125))] := hl
  refine lv_aload_n hx hb (dX1_init_p0 0 rfl) rfl (lv_at hl 0 rfl) ?_
  refine y_obj C hml hl.1 tc_95 tc_19 tc_20 (Nat.le_of_ble_eq_true rfl) (Nat.le_of_ble_eq_true rfl) (dX1_init_p0 1 rfl) ?_
  refine lv_aload_n hx hb (dX1_init_p0 2 rfl) rfl (lv_at hl 0 rfl) ?_
  refine lv_iconst (v := 0) hx hb (dX1_init_p0 3 rfl) (by decide) ?_
  refine y_put (ci := 1) (k := 0) C inX1 tyX1 tyX1_ok nmX1 rfl (by decide) tc_96 rfl rfl rfl (Nat.le_of_ble_eq_true rfl) o (Nat.le_refl _) hS (dX1_init_p0 4 rfl) (fun H1 L1 z1 o1 n1 hS => ?_)
  have o : va_at D vwCl (n0 + 125, .inr (1, [.int 0, .int 0, .int 0])) H1 := n1
  have hz := z1.trans hz
  refine lv_aload_n hx hb (dX1_init_p0 5 rfl) rfl (lv_at hl 0 rfl) ?_
  refine lv_iconst (v := 0) hx hb (dX1_init_p0 6 rfl) (by decide) ?_
  refine y_put (ci := 1) (k := 1) C inX1 tyX1 tyX1_ok nmX1 rfl (by decide) tc_100 rfl rfl rfl (Nat.le_of_ble_eq_true rfl) o (Nat.le_refl _) hS (dX1_init_p0 7 rfl) (fun H1 L1 z1 o1 n1 hS => ?_)
  have o : va_at D vwCl (n0 + 125, .inr (1, [.int 0, .int 0, .int 0])) H1 := n1
  have hz := z1.trans hz
  refine lv_aload_n hx hb (dX1_init_p0 8 rfl) rfl (lv_at hl 0 rfl) ?_
  refine lv_bipush (v := 10) hx hb (dX1_init_p0 9 rfl) (by decide) ?_
  refine y_put (ci := 1) (k := 2) C inX1 tyX1 tyX1_ok nmX1 rfl (by decide) tc_104 rfl rfl rfl (Nat.le_of_ble_eq_true rfl) o (Nat.le_refl _) hS (dX1_init_p0 10 rfl) (fun H1 L1 z1 o1 n1 hS => ?_)
  have o : va_at D vwCl (n0 + 125, .inr (1, [.int 0, .int 0, .int 10])) H1 := n1
  have hz := z1.trans hz
  exact y_ret C hr hlk hz (DN_one (at_o (k := 125) rfl (by decide) rfl o)) hS (dX1_init_p0 11 rfl)
set_option maxHeartbeats 4000000 in
set_option maxRecDepth 100000 in
theorem c_X2_init_1 (l : Launch) (n0 : Nat) (D : va_G) (ca : Nat → ClassId) : CtM l yX2_init cX2_init 1 1 2 107 [.ref (n0 + 1)] n0 1 4 2 [.null, .int 0, .null] D ca := by
  refine CtM_of (by decide) rfl (Nat.le_of_ble_eq_true rfl) ?_
  intro p e s m below meth c ls C hKM hml hr hlk hin hz o hl
  have hx := C.1
  have hb := C.2.1
  have hS : va_S (fun q => n0 + 1 ≤ q) s.heap s.heap [] := va_S.rf
  have hl : lv_has ls 1 [(0, .ref (n0 + 1))] := hl
  refine lv_aload_n hx hb (dX2_init_p0 0 rfl) rfl (lv_at hl 0 rfl) ?_
  refine y_obj C hml hl.1 tc_26 tc_19 tc_20 (Nat.le_of_ble_eq_true rfl) (Nat.le_of_ble_eq_true rfl) (dX2_init_p0 1 rfl) ?_
  refine lv_aload_n hx hb (dX2_init_p0 2 rfl) rfl (lv_at hl 0 rfl) ?_
  refine lv_bipush (v := 100) hx hb (dX2_init_p0 3 rfl) (by decide) ?_
  refine y_newa (atype := .int) (N := 100) (t0 := 0) (cA := ca 0) (a0 := (100, .inl (fun _ => 0))) C tc_39 rfl (fun h => h) rfl (by decide) (by decide) (Nat.le_of_ble_eq_true rfl) hS hz (Nat.le_of_ble_eq_true rfl) (Nat.le_of_ble_eq_true rfl) (dX2_init_p0 4 rfl) (fun H1 z1 o1 n1 hS => ?_)
  have o := va_at_kept o (o1 (n0 + 1) (Nat.add_lt_add_left (show 1 < 2 by decide) n0))
  have dn0 := DN_one (at_i (k := 2) (N := 100) rfl rfl (fun j _ => (s0_z (by decide)).symm) n1)
  have hz : H1.size = n0 + 3 := z1
  refine W.widen (k := 1) (n := 100) (Nat.le_of_ble_eq_true rfl) (Nat.le_of_ble_eq_true rfl) ?_
  refine y_putF (ci := 2) (k := 0) C inX2 tyX2 tyX2_ok nmX2 rfl (by decide) tc_27 rfl hin rfl rfl rfl (Nat.le_of_ble_eq_true rfl) o (Nat.le_refl _) hS (dX2_init_p0 5 rfl) (fun H1 L1 z1 o1 n1 hS => ?_)
  have dn0 := DN_ne dn0 o1 (show 1 < 2 ∨ 3 ≤ 1 by decide)
  have o : va_at D vwCl (n0 + 1, .inr (2, [.ref (n0 + 2), .int 0, .null])) H1 := n1
  have hz := z1.trans hz
  refine lv_aload_n hx hb (dX2_init_p0 6 rfl) rfl (lv_at hl 0 rfl) ?_
  refine lv_iconst (v := 0) hx hb (dX2_init_p0 7 rfl) (by decide) ?_
  refine y_put (ci := 2) (k := 1) C inX2 tyX2 tyX2_ok nmX2 rfl (by decide) tc_29 rfl rfl rfl (Nat.le_of_ble_eq_true rfl) o (Nat.le_refl _) hS (dX2_init_p0 8 rfl) (fun H1 L1 z1 o1 n1 hS => ?_)
  have dn0 := DN_ne dn0 o1 (show 1 < 2 ∨ 3 ≤ 1 by decide)
  have o : va_at D vwCl (n0 + 1, .inr (2, [.ref (n0 + 2), .int 0, .null])) H1 := n1
  have hz := z1.trans hz
  refine lv_aload_n hx hb (dX2_init_p0 9 rfl) rfl (lv_at hl 0 rfl) ?_
  refine lv_bipush (v := 7) hx hb (dX2_init_p0 10 rfl) (by decide) ?_
  refine y_newa (atype := .int) (N := 7) (t0 := 0) (cA := ca 0) (a0 := (7, .inl (fun _ => 0))) C tc_39 rfl (fun h => h) rfl (by decide) (by decide) (Nat.le_of_ble_eq_true rfl) hS hz (Nat.le_of_ble_eq_true rfl) (Nat.le_of_ble_eq_true rfl) (dX2_init_p0 11 rfl) (fun H1 z1 o1 n1 hS => ?_)
  have o := va_at_kept o (o1 (n0 + 1) (Nat.add_lt_add_left (show 1 < 3 by decide) n0))
  have dn0 := DN_lt dn0 o1 (Nat.add_le_add_left (show 3 ≤ 3 by decide) n0)
  have dn0 := DN_app dn0 (DN_one (at_i (k := 3) (N := 7) rfl rfl (fun j _ => (s0_z (by decide)).symm) n1))
  have hz : H1.size = n0 + 4 := z1
  refine W.widen (k := 2) (n := 107) (Nat.le_of_ble_eq_true rfl) (Nat.le_of_ble_eq_true rfl) ?_
  refine y_putF (ci := 2) (k := 2) C inX2 tyX2 tyX2_ok nmX2 rfl (by decide) tc_31 rfl hin rfl rfl rfl (Nat.le_of_ble_eq_true rfl) o (Nat.le_refl _) hS (dX2_init_p0 12 rfl) (fun H1 L1 z1 o1 n1 hS => ?_)
  have dn0 := DN_ne dn0 o1 (show 1 < 2 ∨ 4 ≤ 1 by decide)
  have o : va_at D vwCl (n0 + 1, .inr (2, [.ref (n0 + 2), .int 0, .ref (n0 + 3)])) H1 := n1
  have hz := z1.trans hz
  exact y_ret C hr hlk hz (DN_app (DN_one (at_o (k := 1) rfl (by decide) rfl o)) (dn0)) hS (dX2_init_p0 13 rfl)
set_option maxHeartbeats 4000000 in
set_option maxRecDepth 100000 in
theorem c_X0_init_5 (l : Launch) (n0 : Nat) (D : va_G) (ca : Nat → ClassId) : CtM l yX0_init cX0_init 1 1 18 126 [.ref (n0 + 5)] n0 5 24 0 [.int 0, .null, .null, .null, .null] D ca := by
  refine CtM_of (by decide) rfl (Nat.le_of_ble_eq_true rfl) ?_
  intro p e s m below meth c ls C hKM hml hr hlk hin hz o hl
  have hx := C.1
  have hb := C.2.1
  have hS : va_S (fun q => n0 + 5 ≤ q) s.heap s.heap [] := va_S.rf
  have hl : lv_has ls 1 [(0, .ref (n0 + 5))] := hl
  refine lv_aload_n hx hb (dX0_init_p0 0 rfl) rfl (lv_at hl 0 rfl) ?_
  refine y_obj C hml hl.1 tc_46 tc_19 tc_20 (Nat.le_of_ble_eq_true rfl) (Nat.le_of_ble_eq_true rfl) (dX0_init_p0 1 rfl) ?_
  refine lv_aload_n hx hb (dX0_init_p0 2 rfl) rfl (lv_at hl 0 rfl) ?_
  refine lv_iconst (v := 0) hx hb (dX0_init_p0 3 rfl) (by decide) ?_
  refine y_put (ci := 0) (k := 0) C inX0 tyX0 tyX0_ok nmX0 rfl (by decide) tc_49 rfl rfl rfl (Nat.le_of_ble_eq_true rfl) o (Nat.le_refl _) hS (dX0_init_p0 4 rfl) (fun H1 L1 z1 o1 n1 hS => ?_)
  have o : va_at D vwCl (n0 + 5, .inr (0, [.int 0, .null, .null, .null, .null])) H1 := n1
  have hz := z1.trans hz
  refine lv_aload_n hx hb (dX0_init_p0 5 rfl) rfl (lv_at hl 0 rfl) ?_
  refine lv_bipush (v := 7) hx hb (dX0_init_p0 6 rfl) (by decide) ?_
  refine y_newa (atype := .int) (N := 7) (t0 := 0) (cA := ca 0) (a0 := (7, .inl (fun _ => 0))) C tc_39 rfl (fun h => h) rfl (by decide) (by decide) (Nat.le_of_ble_eq_true rfl) hS hz (Nat.le_of_ble_eq_true rfl) (Nat.le_of_ble_eq_true rfl) (dX0_init_p0 7 rfl) (fun H1 z1 o1 n1 hS => ?_)
  have o := va_at_kept o (o1 (n0 + 5) (Nat.add_lt_add_left (show 5 < 6 by decide) n0))
  have tg : va_at D vwCl (n0 + 6, .inl (ca 0, 7, .inl (fun _ => 0))) H1 := n1
  have hz : H1.size = n0 + 7 := z1
  refine W.widen (k := 1) (n := 7) (Nat.le_of_ble_eq_true rfl) (Nat.le_of_ble_eq_true rfl) ?_
  refine y_putF (ci := 0) (k := 1) C inX0 tyX0 tyX0_ok nmX0 rfl (by decide) tc_52 rfl hin rfl rfl rfl (Nat.le_of_ble_eq_true rfl) o (Nat.le_refl _) hS (dX0_init_p0 8 rfl) (fun H1 L1 z1 o1 n1 hS => ?_)
  have tg := va_at_kept tg (o1 (n0 + 6) (fun h => absurd (Nat.add_left_cancel h) (show ¬ (6 : Nat) = 5 by decide)))
  have o : va_at D vwCl (n0 + 5, .inr (0, [.int 0, .ref (n0 + 6), .null, .null, .null])) H1 := n1
  have hz := z1.trans hz
  refine lv_aload_n hx hb (dX0_init_p0 9 rfl) rfl (lv_at hl 0 rfl) ?_
  refine lv_bipush (v := 7) hx hb (dX0_init_p0 10 rfl) (by decide) ?_
  refine y_newa (atype := .int) (N := 7) (t0 := 0) (cA := ca 0) (a0 := (7, .inl (fun _ => 0))) C tc_39 rfl (fun h => h) rfl (by decide) (by decide) (Nat.le_of_ble_eq_true rfl) hS hz (Nat.le_of_ble_eq_true rfl) (Nat.le_of_ble_eq_true rfl) (dX0_init_p0 11 rfl) (fun H1 z1 o1 n1 hS => ?_)
  have o := va_at_kept o (o1 (n0 + 5) (Nat.add_lt_add_left (show 5 < 7 by decide) n0))
  have tg := va_at_kept tg (o1 (n0 + 6) (Nat.add_lt_add_left (show 6 < 7 by decide) n0))
  have dn0 := DN_one (at_i (k := 7) (N := 7) rfl rfl (fun j _ => (s0_z (by decide)).symm) n1)
  have hz : H1.size = n0 + 8 := z1
  refine W.widen (k := 2) (n := 14) (Nat.le_of_ble_eq_true rfl) (Nat.le_of_ble_eq_true rfl) ?_
  refine y_putF (ci := 0) (k := 2) C inX0 tyX0 tyX0_ok nmX0 rfl (by decide) tc_55 rfl hin rfl rfl rfl (Nat.le_of_ble_eq_true rfl) o (Nat.le_refl _) hS (dX0_init_p0 12 rfl) (fun H1 L1 z1 o1 n1 hS => ?_)
  have tg := va_at_kept tg (o1 (n0 + 6) (fun h => absurd (Nat.add_left_cancel h) (show ¬ (6 : Nat) = 5 by decide)))
  have dn0 := DN_ne dn0 o1 (show 5 < 7 ∨ 8 ≤ 5 by decide)
  have o : va_at D vwCl (n0 + 5, .inr (0, [.int 0, .ref (n0 + 6), .ref (n0 + 7), .null, .null])) H1 := n1
  have hz := z1.trans hz
  refine lv_aload_n hx hb (dX0_init_p0 13 rfl) rfl (lv_at hl 0 rfl) ?_
  refine lv_bipush (v := 7) hx hb (dX0_init_p0 14 rfl) (by decide) ?_
  refine lv_bipush (v := 7) hx hb (dX0_init_p0 15 rfl) (by decide) ?_
  refine y_mna (ty := .int) (N := 7) (K := 7) (t0 := 3) (t1 := 0) (cO := ca 3) (cI := ca 0) (z := (7, .inl (fun _ => 0))) C tc_47 hKM.2.2.1 tc_39 rfl (fun h => h) rfl (fun h => h) (by decide) (by decide) (by decide) (by decide) (Nat.le_of_ble_eq_true rfl) (Nat.le_of_ble_eq_true rfl) (Nat.le_of_ble_eq_true rfl) rfl rfl (arrV_new _ _ _) hS hz (Nat.le_of_ble_eq_true rfl) (Nat.le_of_ble_eq_true rfl) (dX0_init_p0 16 rfl) (fun H1 z1 o1 n1 r1 hS => ?_)
  have o := va_at_kept o (o1 (n0 + 5) (Nat.add_lt_add_left (show 5 < 8 by decide) n0))
  have tg := va_at_kept tg (o1 (n0 + 6) (Nat.add_lt_add_left (show 6 < 8 by decide) n0))
  have dn0 := DN_lt dn0 o1 (Nat.add_le_add_left (show 8 ≤ 8 by decide) n0)
  have dn0 := DN_app dn0 (DN_mI (k := 8) (N := 7) (K := 7) rfl rfl (by decide) (by decide) (by decide) n1 r1)
  have hz : H1.size = n0 + 16 := z1
  refine W.widen (k := 10) (n := 70) (Nat.le_of_ble_eq_true rfl) (Nat.le_of_ble_eq_true rfl) ?_
  refine y_putF (ci := 0) (k := 3) C inX0 tyX0 tyX0_ok nmX0 rfl (by decide) tc_58 rfl hin rfl rfl rfl (Nat.le_of_ble_eq_true rfl) o (Nat.le_refl _) hS (dX0_init_p0 17 rfl) (fun H1 L1 z1 o1 n1 hS => ?_)
  have tg := va_at_kept tg (o1 (n0 + 6) (fun h => absurd (Nat.add_left_cancel h) (show ¬ (6 : Nat) = 5 by decide)))
  have dn0 := DN_ne dn0 o1 (show 5 < 7 ∨ 16 ≤ 5 by decide)
  have o : va_at D vwCl (n0 + 5, .inr (0, [.int 0, .ref (n0 + 6), .ref (n0 + 7), .ref (n0 + 8), .null])) H1 := n1
  have hz := z1.trans hz
  refine lv_aload_n hx hb (dX0_init_p0 18 rfl) rfl (lv_at hl 0 rfl) ?_
  refine lv_bipush (v := 7) hx hb (dX0_init_p0 19 rfl) (by decide) ?_
  refine lv_bipush (v := 7) hx hb (dX0_init_p0 20 rfl) (by decide) ?_
  refine y_mna (ty := .int) (N := 7) (K := 7) (t0 := 3) (t1 := 0) (cO := ca 3) (cI := ca 0) (z := (7, .inl (fun _ => 0))) C tc_47 hKM.2.2.1 tc_39 rfl (fun h => h) rfl (fun h => h) (by decide) (by decide) (by decide) (by decide) (Nat.le_of_ble_eq_true rfl) (Nat.le_of_ble_eq_true rfl) (Nat.le_of_ble_eq_true rfl) rfl rfl (arrV_new _ _ _) hS hz (Nat.le_of_ble_eq_true rfl) (Nat.le_of_ble_eq_true rfl) (dX0_init_p0 21 rfl) (fun H1 z1 o1 n1 r1 hS => ?_)
  have o := va_at_kept o (o1 (n0 + 5) (Nat.add_lt_add_left (show 5 < 16 by decide) n0))
  have tg := va_at_kept tg (o1 (n0 + 6) (Nat.add_lt_add_left (show 6 < 16 by decide) n0))
  have dn0 := DN_lt dn0 o1 (Nat.add_le_add_left (show 16 ≤ 16 by decide) n0)
  have dn0 := DN_app dn0 (DN_mI (k := 16) (N := 7) (K := 7) rfl rfl (by decide) (by decide) (by decide) n1 r1)
  have hz : H1.size = n0 + 24 := z1
  refine W.widen (k := 18) (n := 126) (Nat.le_of_ble_eq_true rfl) (Nat.le_of_ble_eq_true rfl) ?_
  refine y_putF (ci := 0) (k := 4) C inX0 tyX0 tyX0_ok nmX0 rfl (by decide) tc_60 rfl hin rfl rfl rfl (Nat.le_of_ble_eq_true rfl) o (Nat.le_refl _) hS (dX0_init_p0 22 rfl) (fun H1 L1 z1 o1 n1 hS => ?_)
  have tg := va_at_kept tg (o1 (n0 + 6) (fun h => absurd (Nat.add_left_cancel h) (show ¬ (6 : Nat) = 5 by decide)))
  have dn0 := DN_ne dn0 o1 (show 5 < 7 ∨ 24 ≤ 5 by decide)
  have o : va_at D vwCl (n0 + 5, .inr (0, [.int 0, .ref (n0 + 6), .ref (n0 + 7), .ref (n0 + 8), .ref (n0 + 16)])) H1 := n1
  have hz := z1.trans hz
  refine lv_aload_n hx hb (dX0_init_p0 23 rfl) rfl (lv_at hl 0 rfl) ?_
  refine y_get (ci := 0) (k := 1) C inX0 rfl (by decide) tc_52 o rfl (dX0_init_p0 24 rfl) ?_
  refine lv_iconst (v := 0) hx hb (dX0_init_p0 25 rfl) (by decide) ?_
  refine lv_bipush (v := 8) hx hb (dX0_init_p0 26 rfl) (by decide) ?_
  refine y_iast C rfl tg (Nat.add_le_add_left (show 5 ≤ 6 by decide) n0) (show vp_in (nI 0) 7 from vp_in_nI (by decide) (by decide)) hS (dX0_init_p0 27 rfl) (fun H1 L1 z1 o1 n1 hS => ?_)
  have o := va_at_kept o (o1 (n0 + 5) (fun h => absurd (Nat.add_left_cancel h) (show ¬ (5 : Nat) = 6 by decide)))
  have dn0 := DN_ne dn0 o1 (show 6 < 7 ∨ 24 ≤ 6 by decide)
  have tg := n1
  have hz := z1.trans hz
  exact y_ret C hr hlk hz (DN_app (DN_one (at_o (k := 5) rfl (by decide) rfl o)) (DN_app (DN_one (at_i (k := 6) (N := 7) rfl rfl tg_ok5 tg)) (dn0))) hS (dX0_init_p0 28 rfl)
set_option maxHeartbeats 4000000 in
set_option maxRecDepth 100000 in
theorem c_X0_init_24 (l : Launch) (n0 : Nat) (D : va_G) (ca : Nat → ClassId) : CtM l yX0_init cX0_init 1 1 18 126 [.ref (n0 + 24)] n0 24 43 0 [.int 0, .null, .null, .null, .null] D ca := by
  refine CtM_of (by decide) rfl (Nat.le_of_ble_eq_true rfl) ?_
  intro p e s m below meth c ls C hKM hml hr hlk hin hz o hl
  have hx := C.1
  have hb := C.2.1
  have hS : va_S (fun q => n0 + 24 ≤ q) s.heap s.heap [] := va_S.rf
  have hl : lv_has ls 1 [(0, .ref (n0 + 24))] := hl
  refine lv_aload_n hx hb (dX0_init_p0 0 rfl) rfl (lv_at hl 0 rfl) ?_
  refine y_obj C hml hl.1 tc_46 tc_19 tc_20 (Nat.le_of_ble_eq_true rfl) (Nat.le_of_ble_eq_true rfl) (dX0_init_p0 1 rfl) ?_
  refine lv_aload_n hx hb (dX0_init_p0 2 rfl) rfl (lv_at hl 0 rfl) ?_
  refine lv_iconst (v := 0) hx hb (dX0_init_p0 3 rfl) (by decide) ?_
  refine y_put (ci := 0) (k := 0) C inX0 tyX0 tyX0_ok nmX0 rfl (by decide) tc_49 rfl rfl rfl (Nat.le_of_ble_eq_true rfl) o (Nat.le_refl _) hS (dX0_init_p0 4 rfl) (fun H1 L1 z1 o1 n1 hS => ?_)
  have o : va_at D vwCl (n0 + 24, .inr (0, [.int 0, .null, .null, .null, .null])) H1 := n1
  have hz := z1.trans hz
  refine lv_aload_n hx hb (dX0_init_p0 5 rfl) rfl (lv_at hl 0 rfl) ?_
  refine lv_bipush (v := 7) hx hb (dX0_init_p0 6 rfl) (by decide) ?_
  refine y_newa (atype := .int) (N := 7) (t0 := 0) (cA := ca 0) (a0 := (7, .inl (fun _ => 0))) C tc_39 rfl (fun h => h) rfl (by decide) (by decide) (Nat.le_of_ble_eq_true rfl) hS hz (Nat.le_of_ble_eq_true rfl) (Nat.le_of_ble_eq_true rfl) (dX0_init_p0 7 rfl) (fun H1 z1 o1 n1 hS => ?_)
  have o := va_at_kept o (o1 (n0 + 24) (Nat.add_lt_add_left (show 24 < 25 by decide) n0))
  have tg : va_at D vwCl (n0 + 25, .inl (ca 0, 7, .inl (fun _ => 0))) H1 := n1
  have hz : H1.size = n0 + 26 := z1
  refine W.widen (k := 1) (n := 7) (Nat.le_of_ble_eq_true rfl) (Nat.le_of_ble_eq_true rfl) ?_
  refine y_putF (ci := 0) (k := 1) C inX0 tyX0 tyX0_ok nmX0 rfl (by decide) tc_52 rfl hin rfl rfl rfl (Nat.le_of_ble_eq_true rfl) o (Nat.le_refl _) hS (dX0_init_p0 8 rfl) (fun H1 L1 z1 o1 n1 hS => ?_)
  have tg := va_at_kept tg (o1 (n0 + 25) (fun h => absurd (Nat.add_left_cancel h) (show ¬ (25 : Nat) = 24 by decide)))
  have o : va_at D vwCl (n0 + 24, .inr (0, [.int 0, .ref (n0 + 25), .null, .null, .null])) H1 := n1
  have hz := z1.trans hz
  refine lv_aload_n hx hb (dX0_init_p0 9 rfl) rfl (lv_at hl 0 rfl) ?_
  refine lv_bipush (v := 7) hx hb (dX0_init_p0 10 rfl) (by decide) ?_
  refine y_newa (atype := .int) (N := 7) (t0 := 0) (cA := ca 0) (a0 := (7, .inl (fun _ => 0))) C tc_39 rfl (fun h => h) rfl (by decide) (by decide) (Nat.le_of_ble_eq_true rfl) hS hz (Nat.le_of_ble_eq_true rfl) (Nat.le_of_ble_eq_true rfl) (dX0_init_p0 11 rfl) (fun H1 z1 o1 n1 hS => ?_)
  have o := va_at_kept o (o1 (n0 + 24) (Nat.add_lt_add_left (show 24 < 26 by decide) n0))
  have tg := va_at_kept tg (o1 (n0 + 25) (Nat.add_lt_add_left (show 25 < 26 by decide) n0))
  have dn0 := DN_one (at_i (k := 26) (N := 7) rfl rfl (fun j _ => (s0_z (by decide)).symm) n1)
  have hz : H1.size = n0 + 27 := z1
  refine W.widen (k := 2) (n := 14) (Nat.le_of_ble_eq_true rfl) (Nat.le_of_ble_eq_true rfl) ?_
  refine y_putF (ci := 0) (k := 2) C inX0 tyX0 tyX0_ok nmX0 rfl (by decide) tc_55 rfl hin rfl rfl rfl (Nat.le_of_ble_eq_true rfl) o (Nat.le_refl _) hS (dX0_init_p0 12 rfl) (fun H1 L1 z1 o1 n1 hS => ?_)
  have tg := va_at_kept tg (o1 (n0 + 25) (fun h => absurd (Nat.add_left_cancel h) (show ¬ (25 : Nat) = 24 by decide)))
  have dn0 := DN_ne dn0 o1 (show 24 < 26 ∨ 27 ≤ 24 by decide)
  have o : va_at D vwCl (n0 + 24, .inr (0, [.int 0, .ref (n0 + 25), .ref (n0 + 26), .null, .null])) H1 := n1
  have hz := z1.trans hz
  refine lv_aload_n hx hb (dX0_init_p0 13 rfl) rfl (lv_at hl 0 rfl) ?_
  refine lv_bipush (v := 7) hx hb (dX0_init_p0 14 rfl) (by decide) ?_
  refine lv_bipush (v := 7) hx hb (dX0_init_p0 15 rfl) (by decide) ?_
  refine y_mna (ty := .int) (N := 7) (K := 7) (t0 := 3) (t1 := 0) (cO := ca 3) (cI := ca 0) (z := (7, .inl (fun _ => 0))) C tc_47 hKM.2.2.1 tc_39 rfl (fun h => h) rfl (fun h => h) (by decide) (by decide) (by decide) (by decide) (Nat.le_of_ble_eq_true rfl) (Nat.le_of_ble_eq_true rfl) (Nat.le_of_ble_eq_true rfl) rfl rfl (arrV_new _ _ _) hS hz (Nat.le_of_ble_eq_true rfl) (Nat.le_of_ble_eq_true rfl) (dX0_init_p0 16 rfl) (fun H1 z1 o1 n1 r1 hS => ?_)
  have o := va_at_kept o (o1 (n0 + 24) (Nat.add_lt_add_left (show 24 < 27 by decide) n0))
  have tg := va_at_kept tg (o1 (n0 + 25) (Nat.add_lt_add_left (show 25 < 27 by decide) n0))
  have dn0 := DN_lt dn0 o1 (Nat.add_le_add_left (show 27 ≤ 27 by decide) n0)
  have dn0 := DN_app dn0 (DN_mI (k := 27) (N := 7) (K := 7) rfl rfl (by decide) (by decide) (by decide) n1 r1)
  have hz : H1.size = n0 + 35 := z1
  refine W.widen (k := 10) (n := 70) (Nat.le_of_ble_eq_true rfl) (Nat.le_of_ble_eq_true rfl) ?_
  refine y_putF (ci := 0) (k := 3) C inX0 tyX0 tyX0_ok nmX0 rfl (by decide) tc_58 rfl hin rfl rfl rfl (Nat.le_of_ble_eq_true rfl) o (Nat.le_refl _) hS (dX0_init_p0 17 rfl) (fun H1 L1 z1 o1 n1 hS => ?_)
  have tg := va_at_kept tg (o1 (n0 + 25) (fun h => absurd (Nat.add_left_cancel h) (show ¬ (25 : Nat) = 24 by decide)))
  have dn0 := DN_ne dn0 o1 (show 24 < 26 ∨ 35 ≤ 24 by decide)
  have o : va_at D vwCl (n0 + 24, .inr (0, [.int 0, .ref (n0 + 25), .ref (n0 + 26), .ref (n0 + 27), .null])) H1 := n1
  have hz := z1.trans hz
  refine lv_aload_n hx hb (dX0_init_p0 18 rfl) rfl (lv_at hl 0 rfl) ?_
  refine lv_bipush (v := 7) hx hb (dX0_init_p0 19 rfl) (by decide) ?_
  refine lv_bipush (v := 7) hx hb (dX0_init_p0 20 rfl) (by decide) ?_
  refine y_mna (ty := .int) (N := 7) (K := 7) (t0 := 3) (t1 := 0) (cO := ca 3) (cI := ca 0) (z := (7, .inl (fun _ => 0))) C tc_47 hKM.2.2.1 tc_39 rfl (fun h => h) rfl (fun h => h) (by decide) (by decide) (by decide) (by decide) (Nat.le_of_ble_eq_true rfl) (Nat.le_of_ble_eq_true rfl) (Nat.le_of_ble_eq_true rfl) rfl rfl (arrV_new _ _ _) hS hz (Nat.le_of_ble_eq_true rfl) (Nat.le_of_ble_eq_true rfl) (dX0_init_p0 21 rfl) (fun H1 z1 o1 n1 r1 hS => ?_)
  have o := va_at_kept o (o1 (n0 + 24) (Nat.add_lt_add_left (show 24 < 35 by decide) n0))
  have tg := va_at_kept tg (o1 (n0 + 25) (Nat.add_lt_add_left (show 25 < 35 by decide) n0))
  have dn0 := DN_lt dn0 o1 (Nat.add_le_add_left (show 35 ≤ 35 by decide) n0)
  have dn0 := DN_app dn0 (DN_mI (k := 35) (N := 7) (K := 7) rfl rfl (by decide) (by decide) (by decide) n1 r1)
  have hz : H1.size = n0 + 43 := z1
  refine W.widen (k := 18) (n := 126) (Nat.le_of_ble_eq_true rfl) (Nat.le_of_ble_eq_true rfl) ?_
  refine y_putF (ci := 0) (k := 4) C inX0 tyX0 tyX0_ok nmX0 rfl (by decide) tc_60 rfl hin rfl rfl rfl (Nat.le_of_ble_eq_true rfl) o (Nat.le_refl _) hS (dX0_init_p0 22 rfl) (fun H1 L1 z1 o1 n1 hS => ?_)
  have tg := va_at_kept tg (o1 (n0 + 25) (fun h => absurd (Nat.add_left_cancel h) (show ¬ (25 : Nat) = 24 by decide)))
  have dn0 := DN_ne dn0 o1 (show 24 < 26 ∨ 43 ≤ 24 by decide)
  have o : va_at D vwCl (n0 + 24, .inr (0, [.int 0, .ref (n0 + 25), .ref (n0 + 26), .ref (n0 + 27), .ref (n0 + 35)])) H1 := n1
  have hz := z1.trans hz
  refine lv_aload_n hx hb (dX0_init_p0 23 rfl) rfl (lv_at hl 0 rfl) ?_
  refine y_get (ci := 0) (k := 1) C inX0 rfl (by decide) tc_52 o rfl (dX0_init_p0 24 rfl) ?_
  refine lv_iconst (v := 0) hx hb (dX0_init_p0 25 rfl) (by decide) ?_
  refine lv_bipush (v := 8) hx hb (dX0_init_p0 26 rfl) (by decide) ?_
  refine y_iast C rfl tg (Nat.add_le_add_left (show 24 ≤ 25 by decide) n0) (show vp_in (nI 0) 7 from vp_in_nI (by decide) (by decide)) hS (dX0_init_p0 27 rfl) (fun H1 L1 z1 o1 n1 hS => ?_)
  have o := va_at_kept o (o1 (n0 + 24) (fun h => absurd (Nat.add_left_cancel h) (show ¬ (24 : Nat) = 25 by decide)))
  have dn0 := DN_ne dn0 o1 (show 25 < 26 ∨ 43 ≤ 25 by decide)
  have tg := n1
  have hz := z1.trans hz
  exact y_ret C hr hlk hz (DN_app (DN_one (at_o (k := 24) rfl (by decide) rfl o)) (DN_app (DN_one (at_i (k := 25) (N := 7) rfl rfl tg_ok24 tg)) (dn0))) hS (dX0_init_p0 28 rfl)
set_option maxHeartbeats 4000000 in
set_option maxRecDepth 100000 in
theorem c_X0_init_43 (l : Launch) (n0 : Nat) (D : va_G) (ca : Nat → ClassId) : CtM l yX0_init cX0_init 1 1 18 126 [.ref (n0 + 43)] n0 43 62 0 [.int 0, .null, .null, .null, .null] D ca := by
  refine CtM_of (by decide) rfl (Nat.le_of_ble_eq_true rfl) ?_
  intro p e s m below meth c ls C hKM hml hr hlk hin hz o hl
  have hx := C.1
  have hb := C.2.1
  have hS : va_S (fun q => n0 + 43 ≤ q) s.heap s.heap [] := va_S.rf
  have hl : lv_has ls 1 [(0, .ref (n0 + 43))] := hl
  refine lv_aload_n hx hb (dX0_init_p0 0 rfl) rfl (lv_at hl 0 rfl) ?_
  refine y_obj C hml hl.1 tc_46 tc_19 tc_20 (Nat.le_of_ble_eq_true rfl) (Nat.le_of_ble_eq_true rfl) (dX0_init_p0 1 rfl) ?_
  refine lv_aload_n hx hb (dX0_init_p0 2 rfl) rfl (lv_at hl 0 rfl) ?_
  refine lv_iconst (v := 0) hx hb (dX0_init_p0 3 rfl) (by decide) ?_
  refine y_put (ci := 0) (k := 0) C inX0 tyX0 tyX0_ok nmX0 rfl (by decide) tc_49 rfl rfl rfl (Nat.le_of_ble_eq_true rfl) o (Nat.le_refl _) hS (dX0_init_p0 4 rfl) (fun H1 L1 z1 o1 n1 hS => ?_)
  have o : va_at D vwCl (n0 + 43, .inr (0, [.int 0, .null, .null, .null, .null])) H1 := n1
  have hz := z1.trans hz
  refine lv_aload_n hx hb (dX0_init_p0 5 rfl) rfl (lv_at hl 0 rfl) ?_
  refine lv_bipush (v := 7) hx hb (dX0_init_p0 6 rfl) (by decide) ?_
  refine y_newa (atype := .int) (N := 7) (t0 := 0) (cA := ca 0) (a0 := (7, .inl (fun _ => 0))) C tc_39 rfl (fun h => h) rfl (by decide) (by decide) (Nat.le_of_ble_eq_true rfl) hS hz (Nat.le_of_ble_eq_true rfl) (Nat.le_of_ble_eq_true rfl) (dX0_init_p0 7 rfl) (fun H1 z1 o1 n1 hS => ?_)
  have o := va_at_kept o (o1 (n0 + 43) (Nat.add_lt_add_left (show 43 < 44 by decide) n0))
  have tg : va_at D vwCl (n0 + 44, .inl (ca 0, 7, .inl (fun _ => 0))) H1 := n1
  have hz : H1.size = n0 + 45 := z1
  refine W.widen (k := 1) (n := 7) (Nat.le_of_ble_eq_true rfl) (Nat.le_of_ble_eq_true rfl) ?_
  refine y_putF (ci := 0) (k := 1) C inX0 tyX0 tyX0_ok nmX0 rfl (by decide) tc_52 rfl hin rfl rfl rfl (Nat.le_of_ble_eq_true rfl) o (Nat.le_refl _) hS (dX0_init_p0 8 rfl) (fun H1 L1 z1 o1 n1 hS => ?_)
  have tg := va_at_kept tg (o1 (n0 + 44) (fun h => absurd (Nat.add_left_cancel h) (show ¬ (44 : Nat) = 43 by decide)))
  have o : va_at D vwCl (n0 + 43, .inr (0, [.int 0, .ref (n0 + 44), .null, .null, .null])) H1 := n1
  have hz := z1.trans hz
  refine lv_aload_n hx hb (dX0_init_p0 9 rfl) rfl (lv_at hl 0 rfl) ?_
  refine lv_bipush (v := 7) hx hb (dX0_init_p0 10 rfl) (by decide) ?_
  refine y_newa (atype := .int) (N := 7) (t0 := 0) (cA := ca 0) (a0 := (7, .inl (fun _ => 0))) C tc_39 rfl (fun h => h) rfl (by decide) (by decide) (Nat.le_of_ble_eq_true rfl) hS hz (Nat.le_of_ble_eq_true rfl) (Nat.le_of_ble_eq_true rfl) (dX0_init_p0 11 rfl) (fun H1 z1 o1 n1 hS => ?_)
  have o := va_at_kept o (o1 (n0 + 43) (Nat.add_lt_add_left (show 43 < 45 by decide) n0))
  have tg := va_at_kept tg (o1 (n0 + 44) (Nat.add_lt_add_left (show 44 < 45 by decide) n0))
  have dn0 := DN_one (at_i (k := 45) (N := 7) rfl rfl (fun j _ => (s0_z (by decide)).symm) n1)
  have hz : H1.size = n0 + 46 := z1
  refine W.widen (k := 2) (n := 14) (Nat.le_of_ble_eq_true rfl) (Nat.le_of_ble_eq_true rfl) ?_
  refine y_putF (ci := 0) (k := 2) C inX0 tyX0 tyX0_ok nmX0 rfl (by decide) tc_55 rfl hin rfl rfl rfl (Nat.le_of_ble_eq_true rfl) o (Nat.le_refl _) hS (dX0_init_p0 12 rfl) (fun H1 L1 z1 o1 n1 hS => ?_)
  have tg := va_at_kept tg (o1 (n0 + 44) (fun h => absurd (Nat.add_left_cancel h) (show ¬ (44 : Nat) = 43 by decide)))
  have dn0 := DN_ne dn0 o1 (show 43 < 45 ∨ 46 ≤ 43 by decide)
  have o : va_at D vwCl (n0 + 43, .inr (0, [.int 0, .ref (n0 + 44), .ref (n0 + 45), .null, .null])) H1 := n1
  have hz := z1.trans hz
  refine lv_aload_n hx hb (dX0_init_p0 13 rfl) rfl (lv_at hl 0 rfl) ?_
  refine lv_bipush (v := 7) hx hb (dX0_init_p0 14 rfl) (by decide) ?_
  refine lv_bipush (v := 7) hx hb (dX0_init_p0 15 rfl) (by decide) ?_
  refine y_mna (ty := .int) (N := 7) (K := 7) (t0 := 3) (t1 := 0) (cO := ca 3) (cI := ca 0) (z := (7, .inl (fun _ => 0))) C tc_47 hKM.2.2.1 tc_39 rfl (fun h => h) rfl (fun h => h) (by decide) (by decide) (by decide) (by decide) (Nat.le_of_ble_eq_true rfl) (Nat.le_of_ble_eq_true rfl) (Nat.le_of_ble_eq_true rfl) rfl rfl (arrV_new _ _ _) hS hz (Nat.le_of_ble_eq_true rfl) (Nat.le_of_ble_eq_true rfl) (dX0_init_p0 16 rfl) (fun H1 z1 o1 n1 r1 hS => ?_)
  have o := va_at_kept o (o1 (n0 + 43) (Nat.add_lt_add_left (show 43 < 46 by decide) n0))
  have tg := va_at_kept tg (o1 (n0 + 44) (Nat.add_lt_add_left (show 44 < 46 by decide) n0))
  have dn0 := DN_lt dn0 o1 (Nat.add_le_add_left (show 46 ≤ 46 by decide) n0)
  have dn0 := DN_app dn0 (DN_mI (k := 46) (N := 7) (K := 7) rfl rfl (by decide) (by decide) (by decide) n1 r1)
  have hz : H1.size = n0 + 54 := z1
  refine W.widen (k := 10) (n := 70) (Nat.le_of_ble_eq_true rfl) (Nat.le_of_ble_eq_true rfl) ?_
  refine y_putF (ci := 0) (k := 3) C inX0 tyX0 tyX0_ok nmX0 rfl (by decide) tc_58 rfl hin rfl rfl rfl (Nat.le_of_ble_eq_true rfl) o (Nat.le_refl _) hS (dX0_init_p0 17 rfl) (fun H1 L1 z1 o1 n1 hS => ?_)
  have tg := va_at_kept tg (o1 (n0 + 44) (fun h => absurd (Nat.add_left_cancel h) (show ¬ (44 : Nat) = 43 by decide)))
  have dn0 := DN_ne dn0 o1 (show 43 < 45 ∨ 54 ≤ 43 by decide)
  have o : va_at D vwCl (n0 + 43, .inr (0, [.int 0, .ref (n0 + 44), .ref (n0 + 45), .ref (n0 + 46), .null])) H1 := n1
  have hz := z1.trans hz
  refine lv_aload_n hx hb (dX0_init_p0 18 rfl) rfl (lv_at hl 0 rfl) ?_
  refine lv_bipush (v := 7) hx hb (dX0_init_p0 19 rfl) (by decide) ?_
  refine lv_bipush (v := 7) hx hb (dX0_init_p0 20 rfl) (by decide) ?_
  refine y_mna (ty := .int) (N := 7) (K := 7) (t0 := 3) (t1 := 0) (cO := ca 3) (cI := ca 0) (z := (7, .inl (fun _ => 0))) C tc_47 hKM.2.2.1 tc_39 rfl (fun h => h) rfl (fun h => h) (by decide) (by decide) (by decide) (by decide) (Nat.le_of_ble_eq_true rfl) (Nat.le_of_ble_eq_true rfl) (Nat.le_of_ble_eq_true rfl) rfl rfl (arrV_new _ _ _) hS hz (Nat.le_of_ble_eq_true rfl) (Nat.le_of_ble_eq_true rfl) (dX0_init_p0 21 rfl) (fun H1 z1 o1 n1 r1 hS => ?_)
  have o := va_at_kept o (o1 (n0 + 43) (Nat.add_lt_add_left (show 43 < 54 by decide) n0))
  have tg := va_at_kept tg (o1 (n0 + 44) (Nat.add_lt_add_left (show 44 < 54 by decide) n0))
  have dn0 := DN_lt dn0 o1 (Nat.add_le_add_left (show 54 ≤ 54 by decide) n0)
  have dn0 := DN_app dn0 (DN_mI (k := 54) (N := 7) (K := 7) rfl rfl (by decide) (by decide) (by decide) n1 r1)
  have hz : H1.size = n0 + 62 := z1
  refine W.widen (k := 18) (n := 126) (Nat.le_of_ble_eq_true rfl) (Nat.le_of_ble_eq_true rfl) ?_
  refine y_putF (ci := 0) (k := 4) C inX0 tyX0 tyX0_ok nmX0 rfl (by decide) tc_60 rfl hin rfl rfl rfl (Nat.le_of_ble_eq_true rfl) o (Nat.le_refl _) hS (dX0_init_p0 22 rfl) (fun H1 L1 z1 o1 n1 hS => ?_)
  have tg := va_at_kept tg (o1 (n0 + 44) (fun h => absurd (Nat.add_left_cancel h) (show ¬ (44 : Nat) = 43 by decide)))
  have dn0 := DN_ne dn0 o1 (show 43 < 45 ∨ 62 ≤ 43 by decide)
  have o : va_at D vwCl (n0 + 43, .inr (0, [.int 0, .ref (n0 + 44), .ref (n0 + 45), .ref (n0 + 46), .ref (n0 + 54)])) H1 := n1
  have hz := z1.trans hz
  refine lv_aload_n hx hb (dX0_init_p0 23 rfl) rfl (lv_at hl 0 rfl) ?_
  refine y_get (ci := 0) (k := 1) C inX0 rfl (by decide) tc_52 o rfl (dX0_init_p0 24 rfl) ?_
  refine lv_iconst (v := 0) hx hb (dX0_init_p0 25 rfl) (by decide) ?_
  refine lv_bipush (v := 8) hx hb (dX0_init_p0 26 rfl) (by decide) ?_
  refine y_iast C rfl tg (Nat.add_le_add_left (show 43 ≤ 44 by decide) n0) (show vp_in (nI 0) 7 from vp_in_nI (by decide) (by decide)) hS (dX0_init_p0 27 rfl) (fun H1 L1 z1 o1 n1 hS => ?_)
  have o := va_at_kept o (o1 (n0 + 43) (fun h => absurd (Nat.add_left_cancel h) (show ¬ (43 : Nat) = 44 by decide)))
  have dn0 := DN_ne dn0 o1 (show 44 < 45 ∨ 62 ≤ 44 by decide)
  have tg := n1
  have hz := z1.trans hz
  exact y_ret C hr hlk hz (DN_app (DN_one (at_o (k := 43) rfl (by decide) rfl o)) (DN_app (DN_one (at_i (k := 44) (N := 7) rfl rfl tg_ok43 tg)) (dn0))) hS (dX0_init_p0 28 rfl)
set_option maxHeartbeats 4000000 in
set_option maxRecDepth 100000 in
theorem c_X0_init_62 (l : Launch) (n0 : Nat) (D : va_G) (ca : Nat → ClassId) : CtM l yX0_init cX0_init 1 1 18 126 [.ref (n0 + 62)] n0 62 81 0 [.int 0, .null, .null, .null, .null] D ca := by
  refine CtM_of (by decide) rfl (Nat.le_of_ble_eq_true rfl) ?_
  intro p e s m below meth c ls C hKM hml hr hlk hin hz o hl
  have hx := C.1
  have hb := C.2.1
  have hS : va_S (fun q => n0 + 62 ≤ q) s.heap s.heap [] := va_S.rf
  have hl : lv_has ls 1 [(0, .ref (n0 + 62))] := hl
  refine lv_aload_n hx hb (dX0_init_p0 0 rfl) rfl (lv_at hl 0 rfl) ?_
  refine y_obj C hml hl.1 tc_46 tc_19 tc_20 (Nat.le_of_ble_eq_true rfl) (Nat.le_of_ble_eq_true rfl) (dX0_init_p0 1 rfl) ?_
  refine lv_aload_n hx hb (dX0_init_p0 2 rfl) rfl (lv_at hl 0 rfl) ?_
  refine lv_iconst (v := 0) hx hb (dX0_init_p0 3 rfl) (by decide) ?_
  refine y_put (ci := 0) (k := 0) C inX0 tyX0 tyX0_ok nmX0 rfl (by decide) tc_49 rfl rfl rfl (Nat.le_of_ble_eq_true rfl) o (Nat.le_refl _) hS (dX0_init_p0 4 rfl) (fun H1 L1 z1 o1 n1 hS => ?_)
  have o : va_at D vwCl (n0 + 62, .inr (0, [.int 0, .null, .null, .null, .null])) H1 := n1
  have hz := z1.trans hz
  refine lv_aload_n hx hb (dX0_init_p0 5 rfl) rfl (lv_at hl 0 rfl) ?_
  refine lv_bipush (v := 7) hx hb (dX0_init_p0 6 rfl) (by decide) ?_
  refine y_newa (atype := .int) (N := 7) (t0 := 0) (cA := ca 0) (a0 := (7, .inl (fun _ => 0))) C tc_39 rfl (fun h => h) rfl (by decide) (by decide) (Nat.le_of_ble_eq_true rfl) hS hz (Nat.le_of_ble_eq_true rfl) (Nat.le_of_ble_eq_true rfl) (dX0_init_p0 7 rfl) (fun H1 z1 o1 n1 hS => ?_)
  have o := va_at_kept o (o1 (n0 + 62) (Nat.add_lt_add_left (show 62 < 63 by decide) n0))
  have tg : va_at D vwCl (n0 + 63, .inl (ca 0, 7, .inl (fun _ => 0))) H1 := n1
  have hz : H1.size = n0 + 64 := z1
  refine W.widen (k := 1) (n := 7) (Nat.le_of_ble_eq_true rfl) (Nat.le_of_ble_eq_true rfl) ?_
  refine y_putF (ci := 0) (k := 1) C inX0 tyX0 tyX0_ok nmX0 rfl (by decide) tc_52 rfl hin rfl rfl rfl (Nat.le_of_ble_eq_true rfl) o (Nat.le_refl _) hS (dX0_init_p0 8 rfl) (fun H1 L1 z1 o1 n1 hS => ?_)
  have tg := va_at_kept tg (o1 (n0 + 63) (fun h => absurd (Nat.add_left_cancel h) (show ¬ (63 : Nat) = 62 by decide)))
  have o : va_at D vwCl (n0 + 62, .inr (0, [.int 0, .ref (n0 + 63), .null, .null, .null])) H1 := n1
  have hz := z1.trans hz
  refine lv_aload_n hx hb (dX0_init_p0 9 rfl) rfl (lv_at hl 0 rfl) ?_
  refine lv_bipush (v := 7) hx hb (dX0_init_p0 10 rfl) (by decide) ?_
  refine y_newa (atype := .int) (N := 7) (t0 := 0) (cA := ca 0) (a0 := (7, .inl (fun _ => 0))) C tc_39 rfl (fun h => h) rfl (by decide) (by decide) (Nat.le_of_ble_eq_true rfl) hS hz (Nat.le_of_ble_eq_true rfl) (Nat.le_of_ble_eq_true rfl) (dX0_init_p0 11 rfl) (fun H1 z1 o1 n1 hS => ?_)
  have o := va_at_kept o (o1 (n0 + 62) (Nat.add_lt_add_left (show 62 < 64 by decide) n0))
  have tg := va_at_kept tg (o1 (n0 + 63) (Nat.add_lt_add_left (show 63 < 64 by decide) n0))
  have dn0 := DN_one (at_i (k := 64) (N := 7) rfl rfl (fun j _ => (s0_z (by decide)).symm) n1)
  have hz : H1.size = n0 + 65 := z1
  refine W.widen (k := 2) (n := 14) (Nat.le_of_ble_eq_true rfl) (Nat.le_of_ble_eq_true rfl) ?_
  refine y_putF (ci := 0) (k := 2) C inX0 tyX0 tyX0_ok nmX0 rfl (by decide) tc_55 rfl hin rfl rfl rfl (Nat.le_of_ble_eq_true rfl) o (Nat.le_refl _) hS (dX0_init_p0 12 rfl) (fun H1 L1 z1 o1 n1 hS => ?_)
  have tg := va_at_kept tg (o1 (n0 + 63) (fun h => absurd (Nat.add_left_cancel h) (show ¬ (63 : Nat) = 62 by decide)))
  have dn0 := DN_ne dn0 o1 (show 62 < 64 ∨ 65 ≤ 62 by decide)
  have o : va_at D vwCl (n0 + 62, .inr (0, [.int 0, .ref (n0 + 63), .ref (n0 + 64), .null, .null])) H1 := n1
  have hz := z1.trans hz
  refine lv_aload_n hx hb (dX0_init_p0 13 rfl) rfl (lv_at hl 0 rfl) ?_
  refine lv_bipush (v := 7) hx hb (dX0_init_p0 14 rfl) (by decide) ?_
  refine lv_bipush (v := 7) hx hb (dX0_init_p0 15 rfl) (by decide) ?_
  refine y_mna (ty := .int) (N := 7) (K := 7) (t0 := 3) (t1 := 0) (cO := ca 3) (cI := ca 0) (z := (7, .inl (fun _ => 0))) C tc_47 hKM.2.2.1 tc_39 rfl (fun h => h) rfl (fun h => h) (by decide) (by decide) (by decide) (by decide) (Nat.le_of_ble_eq_true rfl) (Nat.le_of_ble_eq_true rfl) (Nat.le_of_ble_eq_true rfl) rfl rfl (arrV_new _ _ _) hS hz (Nat.le_of_ble_eq_true rfl) (Nat.le_of_ble_eq_true rfl) (dX0_init_p0 16 rfl) (fun H1 z1 o1 n1 r1 hS => ?_)
  have o := va_at_kept o (o1 (n0 + 62) (Nat.add_lt_add_left (show 62 < 65 by decide) n0))
  have tg := va_at_kept tg (o1 (n0 + 63) (Nat.add_lt_add_left (show 63 < 65 by decide) n0))
  have dn0 := DN_lt dn0 o1 (Nat.add_le_add_left (show 65 ≤ 65 by decide) n0)
  have dn0 := DN_app dn0 (DN_mI (k := 65) (N := 7) (K := 7) rfl rfl (by decide) (by decide) (by decide) n1 r1)
  have hz : H1.size = n0 + 73 := z1
  refine W.widen (k := 10) (n := 70) (Nat.le_of_ble_eq_true rfl) (Nat.le_of_ble_eq_true rfl) ?_
  refine y_putF (ci := 0) (k := 3) C inX0 tyX0 tyX0_ok nmX0 rfl (by decide) tc_58 rfl hin rfl rfl rfl (Nat.le_of_ble_eq_true rfl) o (Nat.le_refl _) hS (dX0_init_p0 17 rfl) (fun H1 L1 z1 o1 n1 hS => ?_)
  have tg := va_at_kept tg (o1 (n0 + 63) (fun h => absurd (Nat.add_left_cancel h) (show ¬ (63 : Nat) = 62 by decide)))
  have dn0 := DN_ne dn0 o1 (show 62 < 64 ∨ 73 ≤ 62 by decide)
  have o : va_at D vwCl (n0 + 62, .inr (0, [.int 0, .ref (n0 + 63), .ref (n0 + 64), .ref (n0 + 65), .null])) H1 := n1
  have hz := z1.trans hz
  refine lv_aload_n hx hb (dX0_init_p0 18 rfl) rfl (lv_at hl 0 rfl) ?_
  refine lv_bipush (v := 7) hx hb (dX0_init_p0 19 rfl) (by decide) ?_
  refine lv_bipush (v := 7) hx hb (dX0_init_p0 20 rfl) (by decide) ?_
  refine y_mna (ty := .int) (N := 7) (K := 7) (t0 := 3) (t1 := 0) (cO := ca 3) (cI := ca 0) (z := (7, .inl (fun _ => 0))) C tc_47 hKM.2.2.1 tc_39 rfl (fun h => h) rfl (fun h => h) (by decide) (by decide) (by decide) (by decide) (Nat.le_of_ble_eq_true rfl) (Nat.le_of_ble_eq_true rfl) (Nat.le_of_ble_eq_true rfl) rfl rfl (arrV_new _ _ _) hS hz (Nat.le_of_ble_eq_true rfl) (Nat.le_of_ble_eq_true rfl) (dX0_init_p0 21 rfl) (fun H1 z1 o1 n1 r1 hS => ?_)
  have o := va_at_kept o (o1 (n0 + 62) (Nat.add_lt_add_left (show 62 < 73 by decide) n0))
  have tg := va_at_kept tg (o1 (n0 + 63) (Nat.add_lt_add_left (show 63 < 73 by decide) n0))
  have dn0 := DN_lt dn0 o1 (Nat.add_le_add_left (show 73 ≤ 73 by decide) n0)
  have dn0 := DN_app dn0 (DN_mI (k := 73) (N := 7) (K := 7) rfl rfl (by decide) (by decide) (by decide) n1 r1)
  have hz : H1.size = n0 + 81 := z1
  refine W.widen (k := 18) (n := 126) (Nat.le_of_ble_eq_true rfl) (Nat.le_of_ble_eq_true rfl) ?_
  refine y_putF (ci := 0) (k := 4) C inX0 tyX0 tyX0_ok nmX0 rfl (by decide) tc_60 rfl hin rfl rfl rfl (Nat.le_of_ble_eq_true rfl) o (Nat.le_refl _) hS (dX0_init_p0 22 rfl) (fun H1 L1 z1 o1 n1 hS => ?_)
  have tg := va_at_kept tg (o1 (n0 + 63) (fun h => absurd (Nat.add_left_cancel h) (show ¬ (63 : Nat) = 62 by decide)))
  have dn0 := DN_ne dn0 o1 (show 62 < 64 ∨ 81 ≤ 62 by decide)
  have o : va_at D vwCl (n0 + 62, .inr (0, [.int 0, .ref (n0 + 63), .ref (n0 + 64), .ref (n0 + 65), .ref (n0 + 73)])) H1 := n1
  have hz := z1.trans hz
  refine lv_aload_n hx hb (dX0_init_p0 23 rfl) rfl (lv_at hl 0 rfl) ?_
  refine y_get (ci := 0) (k := 1) C inX0 rfl (by decide) tc_52 o rfl (dX0_init_p0 24 rfl) ?_
  refine lv_iconst (v := 0) hx hb (dX0_init_p0 25 rfl) (by decide) ?_
  refine lv_bipush (v := 8) hx hb (dX0_init_p0 26 rfl) (by decide) ?_
  refine y_iast C rfl tg (Nat.add_le_add_left (show 62 ≤ 63 by decide) n0) (show vp_in (nI 0) 7 from vp_in_nI (by decide) (by decide)) hS (dX0_init_p0 27 rfl) (fun H1 L1 z1 o1 n1 hS => ?_)
  have o := va_at_kept o (o1 (n0 + 62) (fun h => absurd (Nat.add_left_cancel h) (show ¬ (62 : Nat) = 63 by decide)))
  have dn0 := DN_ne dn0 o1 (show 63 < 64 ∨ 81 ≤ 63 by decide)
  have tg := n1
  have hz := z1.trans hz
  exact y_ret C hr hlk hz (DN_app (DN_one (at_o (k := 62) rfl (by decide) rfl o)) (DN_app (DN_one (at_i (k := 63) (N := 7) rfl rfl tg_ok62 tg)) (dn0))) hS (dX0_init_p0 28 rfl)
set_option maxHeartbeats 4000000 in
set_option maxRecDepth 100000 in
theorem c_X6_init_81 (l : Launch) (n0 : Nat) (D : va_G) (ca : Nat → ClassId) : CtM l yX6_init cX6_init 1 1 13 97 [.ref (n0 + 81)] n0 81 95 6 [.null, .null] D ca := by
  refine CtM_of (by decide) rfl (Nat.le_of_ble_eq_true rfl) ?_
  intro p e s m below meth c ls C hKM hml hr hlk hin hz o hl
  have hx := C.1
  have hb := C.2.1
  have hS : va_S (fun q => n0 + 81 ≤ q) s.heap s.heap [] := va_S.rf
  have hl : lv_has ls 1 [(0, .ref (n0 + 81))] := hl
  refine lv_aload_n hx hb (dX6_init_p0 0 rfl) rfl (lv_at hl 0 rfl) ?_
  refine y_obj C hml hl.1 tc_78 tc_19 tc_20 (Nat.le_of_ble_eq_true rfl) (Nat.le_of_ble_eq_true rfl) (dX6_init_p0 1 rfl) ?_
  refine lv_aload_n hx hb (dX6_init_p0 2 rfl) rfl (lv_at hl 0 rfl) ?_
  refine lv_bipush (v := 9) hx hb (dX6_init_p0 3 rfl) (by decide) ?_
  refine lv_bipush (v := 8) hx hb (dX6_init_p0 4 rfl) (by decide) ?_
  refine y_mna (ty := .int) (N := 9) (K := 8) (t0 := 3) (t1 := 0) (cO := ca 3) (cI := ca 0) (z := (8, .inl (fun _ => 0))) C tc_79 hKM.2.2.1 tc_39 rfl (fun h => h) rfl (fun h => h) (by decide) (by decide) (by decide) (by decide) (Nat.le_of_ble_eq_true rfl) (Nat.le_of_ble_eq_true rfl) (Nat.le_of_ble_eq_true rfl) rfl rfl (arrV_new _ _ _) hS hz (Nat.le_of_ble_eq_true rfl) (Nat.le_of_ble_eq_true rfl) (dX6_init_p0 5 rfl) (fun H1 z1 o1 n1 r1 hS => ?_)
  have o := va_at_kept o (o1 (n0 + 81) (Nat.add_lt_add_left (show 81 < 82 by decide) n0))
  have dn0 := DN_mI (k := 82) (N := 9) (K := 8) rfl rfl (by decide) (by decide) (by decide) n1 r1
  have hz : H1.size = n0 + 92 := z1
  refine W.widen (k := 10) (n := 81) (Nat.le_of_ble_eq_true rfl) (Nat.le_of_ble_eq_true rfl) ?_
  refine y_putF (ci := 6) (k := 0) C inX6 tyX6 tyX6_ok nmX6 rfl (by decide) tc_80 rfl hin rfl rfl rfl (Nat.le_of_ble_eq_true rfl) o (Nat.le_refl _) hS (dX6_init_p0 6 rfl) (fun H1 L1 z1 o1 n1 hS => ?_)
  have dn0 := DN_ne dn0 o1 (show 81 < 82 ∨ 92 ≤ 81 by decide)
  have o : va_at D vwCl (n0 + 81, .inr (6, [.ref (n0 + 82), .null])) H1 := n1
  have hz := z1.trans hz
  refine lv_aload_n hx hb (dX6_init_p0 7 rfl) rfl (lv_at hl 0 rfl) ?_
  refine lv_iconst (v := 2) hx hb (dX6_init_p0 8 rfl) (by decide) ?_
  refine lv_bipush (v := 7) hx hb (dX6_init_p0 9 rfl) (by decide) ?_
  refine y_mna (ty := .int) (N := 2) (K := 7) (t0 := 3) (t1 := 0) (cO := ca 3) (cI := ca 0) (z := (7, .inl (fun _ => 0))) C tc_79 hKM.2.2.1 tc_39 rfl (fun h => h) rfl (fun h => h) (by decide) (by decide) (by decide) (by decide) (Nat.le_of_ble_eq_true rfl) (Nat.le_of_ble_eq_true rfl) (Nat.le_of_ble_eq_true rfl) rfl rfl (arrV_new _ _ _) hS hz (Nat.le_of_ble_eq_true rfl) (Nat.le_of_ble_eq_true rfl) (dX6_init_p0 10 rfl) (fun H1 z1 o1 n1 r1 hS => ?_)
  have o := va_at_kept o (o1 (n0 + 81) (Nat.add_lt_add_left (show 81 < 92 by decide) n0))
  have dn0 := DN_lt dn0 o1 (Nat.add_le_add_left (show 92 ≤ 92 by decide) n0)
  have dn0 := DN_app dn0 (DN_mI (k := 92) (N := 2) (K := 7) rfl rfl (by decide) (by decide) (by decide) n1 r1)
  have hz : H1.size = n0 + 95 := z1
  refine W.widen (k := 13) (n := 97) (Nat.le_of_ble_eq_true rfl) (Nat.le_of_ble_eq_true rfl) ?_
  refine y_putF (ci := 6) (k := 1) C inX6 tyX6 tyX6_ok nmX6 rfl (by decide) tc_82 rfl hin rfl rfl rfl (Nat.le_of_ble_eq_true rfl) o (Nat.le_refl _) hS (dX6_init_p0 11 rfl) (fun H1 L1 z1 o1 n1 hS => ?_)
  have dn0 := DN_ne dn0 o1 (show 81 < 82 ∨ 95 ≤ 81 by decide)
  have o : va_at D vwCl (n0 + 81, .inr (6, [.ref (n0 + 82), .ref (n0 + 92)])) H1 := n1
  have hz := z1.trans hz
  exact y_ret C hr hlk hz (DN_app (DN_one (at_o (k := 81) rfl (by decide) rfl o)) (dn0)) hS (dX6_init_p0 12 rfl)
set_option maxHeartbeats 4000000 in
set_option maxRecDepth 100000 in
theorem c_X6_init_96 (l : Launch) (n0 : Nat) (D : va_G) (ca : Nat → ClassId) : CtM l yX6_init cX6_init 1 1 13 97 [.ref (n0 + 96)] n0 96 110 6 [.null, .null] D ca := by
  refine CtM_of (by decide) rfl (Nat.le_of_ble_eq_true rfl) ?_
  intro p e s m below meth c ls C hKM hml hr hlk hin hz o hl
  have hx := C.1
  have hb := C.2.1
  have hS : va_S (fun q => n0 + 96 ≤ q) s.heap s.heap [] := va_S.rf
  have hl : lv_has ls 1 [(0, .ref (n0 + 96))] := hl
  refine lv_aload_n hx hb (dX6_init_p0 0 rfl) rfl (lv_at hl 0 rfl) ?_
  refine y_obj C hml hl.1 tc_78 tc_19 tc_20 (Nat.le_of_ble_eq_true rfl) (Nat.le_of_ble_eq_true rfl) (dX6_init_p0 1 rfl) ?_
  refine lv_aload_n hx hb (dX6_init_p0 2 rfl) rfl (lv_at hl 0 rfl) ?_
  refine lv_bipush (v := 9) hx hb (dX6_init_p0 3 rfl) (by decide) ?_
  refine lv_bipush (v := 8) hx hb (dX6_init_p0 4 rfl) (by decide) ?_
  refine y_mna (ty := .int) (N := 9) (K := 8) (t0 := 3) (t1 := 0) (cO := ca 3) (cI := ca 0) (z := (8, .inl (fun _ => 0))) C tc_79 hKM.2.2.1 tc_39 rfl (fun h => h) rfl (fun h => h) (by decide) (by decide) (by decide) (by decide) (Nat.le_of_ble_eq_true rfl) (Nat.le_of_ble_eq_true rfl) (Nat.le_of_ble_eq_true rfl) rfl rfl (arrV_new _ _ _) hS hz (Nat.le_of_ble_eq_true rfl) (Nat.le_of_ble_eq_true rfl) (dX6_init_p0 5 rfl) (fun H1 z1 o1 n1 r1 hS => ?_)
  have o := va_at_kept o (o1 (n0 + 96) (Nat.add_lt_add_left (show 96 < 97 by decide) n0))
  have dn0 := DN_mI (k := 97) (N := 9) (K := 8) rfl rfl (by decide) (by decide) (by decide) n1 r1
  have hz : H1.size = n0 + 107 := z1
  refine W.widen (k := 10) (n := 81) (Nat.le_of_ble_eq_true rfl) (Nat.le_of_ble_eq_true rfl) ?_
  refine y_putF (ci := 6) (k := 0) C inX6 tyX6 tyX6_ok nmX6 rfl (by decide) tc_80 rfl hin rfl rfl rfl (Nat.le_of_ble_eq_true rfl) o (Nat.le_refl _) hS (dX6_init_p0 6 rfl) (fun H1 L1 z1 o1 n1 hS => ?_)
  have dn0 := DN_ne dn0 o1 (show 96 < 97 ∨ 107 ≤ 96 by decide)
  have o : va_at D vwCl (n0 + 96, .inr (6, [.ref (n0 + 97), .null])) H1 := n1
  have hz := z1.trans hz
  refine lv_aload_n hx hb (dX6_init_p0 7 rfl) rfl (lv_at hl 0 rfl) ?_
  refine lv_iconst (v := 2) hx hb (dX6_init_p0 8 rfl) (by decide) ?_
  refine lv_bipush (v := 7) hx hb (dX6_init_p0 9 rfl) (by decide) ?_
  refine y_mna (ty := .int) (N := 2) (K := 7) (t0 := 3) (t1 := 0) (cO := ca 3) (cI := ca 0) (z := (7, .inl (fun _ => 0))) C tc_79 hKM.2.2.1 tc_39 rfl (fun h => h) rfl (fun h => h) (by decide) (by decide) (by decide) (by decide) (Nat.le_of_ble_eq_true rfl) (Nat.le_of_ble_eq_true rfl) (Nat.le_of_ble_eq_true rfl) rfl rfl (arrV_new _ _ _) hS hz (Nat.le_of_ble_eq_true rfl) (Nat.le_of_ble_eq_true rfl) (dX6_init_p0 10 rfl) (fun H1 z1 o1 n1 r1 hS => ?_)
  have o := va_at_kept o (o1 (n0 + 96) (Nat.add_lt_add_left (show 96 < 107 by decide) n0))
  have dn0 := DN_lt dn0 o1 (Nat.add_le_add_left (show 107 ≤ 107 by decide) n0)
  have dn0 := DN_app dn0 (DN_mI (k := 107) (N := 2) (K := 7) rfl rfl (by decide) (by decide) (by decide) n1 r1)
  have hz : H1.size = n0 + 110 := z1
  refine W.widen (k := 13) (n := 97) (Nat.le_of_ble_eq_true rfl) (Nat.le_of_ble_eq_true rfl) ?_
  refine y_putF (ci := 6) (k := 1) C inX6 tyX6 tyX6_ok nmX6 rfl (by decide) tc_82 rfl hin rfl rfl rfl (Nat.le_of_ble_eq_true rfl) o (Nat.le_refl _) hS (dX6_init_p0 11 rfl) (fun H1 L1 z1 o1 n1 hS => ?_)
  have dn0 := DN_ne dn0 o1 (show 96 < 97 ∨ 110 ≤ 96 by decide)
  have o : va_at D vwCl (n0 + 96, .inr (6, [.ref (n0 + 97), .ref (n0 + 107)])) H1 := n1
  have hz := z1.trans hz
  exact y_ret C hr hlk hz (DN_app (DN_one (at_o (k := 96) rfl (by decide) rfl o)) (dn0)) hS (dX6_init_p0 12 rfl)
set_option maxHeartbeats 4000000 in
set_option maxRecDepth 100000 in
theorem c_X6_init_110 (l : Launch) (n0 : Nat) (D : va_G) (ca : Nat → ClassId) : CtM l yX6_init cX6_init 1 1 13 97 [.ref (n0 + 110)] n0 110 124 6 [.null, .null] D ca := by
  refine CtM_of (by decide) rfl (Nat.le_of_ble_eq_true rfl) ?_
  intro p e s m below meth c ls C hKM hml hr hlk hin hz o hl
  have hx := C.1
  have hb := C.2.1
  have hS : va_S (fun q => n0 + 110 ≤ q) s.heap s.heap [] := va_S.rf
  have hl : lv_has ls 1 [(0, .ref (n0 + 110))] := hl
  refine lv_aload_n hx hb (dX6_init_p0 0 rfl) rfl (lv_at hl 0 rfl) ?_
  refine y_obj C hml hl.1 tc_78 tc_19 tc_20 (Nat.le_of_ble_eq_true rfl) (Nat.le_of_ble_eq_true rfl) (dX6_init_p0 1 rfl) ?_
  refine lv_aload_n hx hb (dX6_init_p0 2 rfl) rfl (lv_at hl 0 rfl) ?_
  refine lv_bipush (v := 9) hx hb (dX6_init_p0 3 rfl) (by decide) ?_
  refine lv_bipush (v := 8) hx hb (dX6_init_p0 4 rfl) (by decide) ?_
  refine y_mna (ty := .int) (N := 9) (K := 8) (t0 := 3) (t1 := 0) (cO := ca 3) (cI := ca 0) (z := (8, .inl (fun _ => 0))) C tc_79 hKM.2.2.1 tc_39 rfl (fun h => h) rfl (fun h => h) (by decide) (by decide) (by decide) (by decide) (Nat.le_of_ble_eq_true rfl) (Nat.le_of_ble_eq_true rfl) (Nat.le_of_ble_eq_true rfl) rfl rfl (arrV_new _ _ _) hS hz (Nat.le_of_ble_eq_true rfl) (Nat.le_of_ble_eq_true rfl) (dX6_init_p0 5 rfl) (fun H1 z1 o1 n1 r1 hS => ?_)
  have o := va_at_kept o (o1 (n0 + 110) (Nat.add_lt_add_left (show 110 < 111 by decide) n0))
  have dn0 := DN_mI (k := 111) (N := 9) (K := 8) rfl rfl (by decide) (by decide) (by decide) n1 r1
  have hz : H1.size = n0 + 121 := z1
  refine W.widen (k := 10) (n := 81) (Nat.le_of_ble_eq_true rfl) (Nat.le_of_ble_eq_true rfl) ?_
  refine y_putF (ci := 6) (k := 0) C inX6 tyX6 tyX6_ok nmX6 rfl (by decide) tc_80 rfl hin rfl rfl rfl (Nat.le_of_ble_eq_true rfl) o (Nat.le_refl _) hS (dX6_init_p0 6 rfl) (fun H1 L1 z1 o1 n1 hS => ?_)
  have dn0 := DN_ne dn0 o1 (show 110 < 111 ∨ 121 ≤ 110 by decide)
  have o : va_at D vwCl (n0 + 110, .inr (6, [.ref (n0 + 111), .null])) H1 := n1
  have hz := z1.trans hz
  refine lv_aload_n hx hb (dX6_init_p0 7 rfl) rfl (lv_at hl 0 rfl) ?_
  refine lv_iconst (v := 2) hx hb (dX6_init_p0 8 rfl) (by decide) ?_
  refine lv_bipush (v := 7) hx hb (dX6_init_p0 9 rfl) (by decide) ?_
  refine y_mna (ty := .int) (N := 2) (K := 7) (t0 := 3) (t1 := 0) (cO := ca 3) (cI := ca 0) (z := (7, .inl (fun _ => 0))) C tc_79 hKM.2.2.1 tc_39 rfl (fun h => h) rfl (fun h => h) (by decide) (by decide) (by decide) (by decide) (Nat.le_of_ble_eq_true rfl) (Nat.le_of_ble_eq_true rfl) (Nat.le_of_ble_eq_true rfl) rfl rfl (arrV_new _ _ _) hS hz (Nat.le_of_ble_eq_true rfl) (Nat.le_of_ble_eq_true rfl) (dX6_init_p0 10 rfl) (fun H1 z1 o1 n1 r1 hS => ?_)
  have o := va_at_kept o (o1 (n0 + 110) (Nat.add_lt_add_left (show 110 < 121 by decide) n0))
  have dn0 := DN_lt dn0 o1 (Nat.add_le_add_left (show 121 ≤ 121 by decide) n0)
  have dn0 := DN_app dn0 (DN_mI (k := 121) (N := 2) (K := 7) rfl rfl (by decide) (by decide) (by decide) n1 r1)
  have hz : H1.size = n0 + 124 := z1
  refine W.widen (k := 13) (n := 97) (Nat.le_of_ble_eq_true rfl) (Nat.le_of_ble_eq_true rfl) ?_
  refine y_putF (ci := 6) (k := 1) C inX6 tyX6 tyX6_ok nmX6 rfl (by decide) tc_82 rfl hin rfl rfl rfl (Nat.le_of_ble_eq_true rfl) o (Nat.le_refl _) hS (dX6_init_p0 11 rfl) (fun H1 L1 z1 o1 n1 hS => ?_)
  have dn0 := DN_ne dn0 o1 (show 110 < 111 ∨ 124 ≤ 110 by decide)
  have o : va_at D vwCl (n0 + 110, .inr (6, [.ref (n0 + 111), .ref (n0 + 121)])) H1 := n1
  have hz := z1.trans hz
  exact y_ret C hr hlk hz (DN_app (DN_one (at_o (k := 110) rfl (by decide) rfl o)) (dn0)) hS (dX6_init_p0 12 rfl)
set_option maxHeartbeats 4000000 in
set_option maxRecDepth 100000 in
theorem c_X4_init_126 (l : Launch) (n0 : Nat) (D : va_G) (ca : Nat → ClassId) : CtM l yX4_init cX4_init 2 1 20 140 [.ref (n0 + 126), .ref (n0 + 125)] n0 126 147 4 [.null, .int 0, .null, .null, .null, .null, .null, .null, .int 0, .int 0] D ca := by
  refine CtM_of (by decide) rfl (Nat.le_of_ble_eq_true rfl) ?_
  intro p e s m below meth c ls C hKM hml hr hlk hin hz o hl
  have hx := C.1
  have hb := C.2.1
  have hS : va_S (fun q => n0 + 126 ≤ q) s.heap s.heap [] := va_S.rf
  have hl : lv_has ls 2 [(0, .ref (n0 + 126)), (1, .ref (n0 + 125))] := hl
  refine lv_aload_n hx hb (dX4_init_p0 0 rfl) rfl (lv_at hl 0 rfl) ?_
  refine y_obj C hml hl.1 tc_119 tc_19 tc_20 (Nat.le_of_ble_eq_true rfl) (Nat.le_of_ble_eq_true rfl) (dX4_init_p0 1 rfl) ?_
  refine lv_aload_n hx hb (dX4_init_p0 2 rfl) rfl (lv_at hl 0 rfl) ?_
  refine lv_iconst (v := 0) hx hb (dX4_init_p0 3 rfl) (by decide) ?_
  refine y_put (ci := 4) (k := 1) C inX4 tyX4 tyX4_ok nmX4 rfl (by decide) tc_124 rfl rfl rfl (Nat.le_of_ble_eq_true rfl) o (Nat.le_refl _) hS (dX4_init_p0 4 rfl) (fun H1 L1 z1 o1 n1 hS => ?_)
  have o : va_at D vwCl (n0 + 126, .inr (4, [.null, .int 0, .null, .null, .null, .null, .null, .null, .int 0, .int 0])) H1 := n1
  have hz := z1.trans hz
  refine lv_aload_n hx hb (dX4_init_p0 5 rfl) rfl (lv_at hl 0 rfl) ?_
  refine lv_bipush (v := 7) hx hb (dX4_init_p0 6 rfl) (by decide) ?_
  refine lv_bipush (v := 7) hx hb (dX4_init_p0 7 rfl) (by decide) ?_
  refine y_mna (ty := .long) (N := 7) (K := 7) (t0 := 4) (t1 := 2) (cO := ca 4) (cI := ca 2) (z := (7, .inr (.inl (fun _ => 0)))) C tc_120 hKM.2.2.2 tc_155 rfl (fun h => h) rfl (fun h => h) (by decide) (by decide) (by decide) (by decide) (Nat.le_of_ble_eq_true rfl) (Nat.le_of_ble_eq_true rfl) (Nat.le_of_ble_eq_true rfl) rfl rfl (arrV_new _ _ _) hS hz (Nat.le_of_ble_eq_true rfl) (Nat.le_of_ble_eq_true rfl) (dX4_init_p0 8 rfl) (fun H1 z1 o1 n1 r1 hS => ?_)
  have o := va_at_kept o (o1 (n0 + 126) (Nat.add_lt_add_left (show 126 < 127 by decide) n0))
  have dn0 := DN_mL (k := 127) (N := 7) (K := 7) rfl rfl (by decide) (by decide) n1 r1
  have hz : H1.size = n0 + 135 := z1
  refine W.widen (k := 8) (n := 56) (Nat.le_of_ble_eq_true rfl) (Nat.le_of_ble_eq_true rfl) ?_
  refine y_putF (ci := 4) (k := 2) C inX4 tyX4 tyX4_ok nmX4 rfl (by decide) tc_125 rfl hin rfl rfl rfl (Nat.le_of_ble_eq_true rfl) o (Nat.le_refl _) hS (dX4_init_p0 9 rfl) (fun H1 L1 z1 o1 n1 hS => ?_)
  have dn0 := DN_ne dn0 o1 (show 126 < 127 ∨ 135 ≤ 126 by decide)
  have o : va_at D vwCl (n0 + 126, .inr (4, [.null, .int 0, .ref (n0 + 127), .null, .null, .null, .null, .null, .int 0, .int 0])) H1 := n1
  have hz := z1.trans hz
  refine lv_aload_n hx hb (dX4_init_p0 10 rfl) rfl (lv_at hl 0 rfl) ?_
  refine lv_bipush (v := 7) hx hb (dX4_init_p0 11 rfl) (by decide) ?_
  refine lv_bipush (v := 7) hx hb (dX4_init_p0 12 rfl) (by decide) ?_
  refine y_mna (ty := .int) (N := 7) (K := 7) (t0 := 3) (t1 := 0) (cO := ca 3) (cI := ca 0) (z := (7, .inl (fun _ => 0))) C tc_122 hKM.2.2.1 tc_39 rfl (fun h => h) rfl (fun h => h) (by decide) (by decide) (by decide) (by decide) (Nat.le_of_ble_eq_true rfl) (Nat.le_of_ble_eq_true rfl) (Nat.le_of_ble_eq_true rfl) rfl rfl (arrV_new _ _ _) hS hz (Nat.le_of_ble_eq_true rfl) (Nat.le_of_ble_eq_true rfl) (dX4_init_p0 13 rfl) (fun H1 z1 o1 n1 r1 hS => ?_)
  have o := va_at_kept o (o1 (n0 + 126) (Nat.add_lt_add_left (show 126 < 135 by decide) n0))
  have dn0 := DN_lt dn0 o1 (Nat.add_le_add_left (show 135 ≤ 135 by decide) n0)
  have dn0 := DN_app dn0 (DN_mI (k := 135) (N := 7) (K := 7) rfl rfl (by decide) (by decide) (by decide) n1 r1)
  have hz : H1.size = n0 + 143 := z1
  refine W.widen (k := 16) (n := 112) (Nat.le_of_ble_eq_true rfl) (Nat.le_of_ble_eq_true rfl) ?_
  refine y_putF (ci := 4) (k := 3) C inX4 tyX4 tyX4_ok nmX4 rfl (by decide) tc_126 rfl hin rfl rfl rfl (Nat.le_of_ble_eq_true rfl) o (Nat.le_refl _) hS (dX4_init_p0 14 rfl) (fun H1 L1 z1 o1 n1 hS => ?_)
  have dn0 := DN_ne dn0 o1 (show 126 < 127 ∨ 143 ≤ 126 by decide)
  have o : va_at D vwCl (n0 + 126, .inr (4, [.null, .int 0, .ref (n0 + 127), .ref (n0 + 135), .null, .null, .null, .null, .int 0, .int 0])) H1 := n1
  have hz := z1.trans hz
  refine lv_aload_n hx hb (dX4_init_p0 15 rfl) rfl (lv_at hl 0 rfl) ?_
  refine lv_bipush (v := 7) hx hb (dX4_init_p0 16 rfl) (by decide) ?_
  refine y_newa (atype := .int) (N := 7) (t0 := 0) (cA := ca 0) (a0 := (7, .inl (fun _ => 0))) C tc_39 rfl (fun h => h) rfl (by decide) (by decide) (Nat.le_of_ble_eq_true rfl) hS hz (Nat.le_of_ble_eq_true rfl) (Nat.le_of_ble_eq_true rfl) (dX4_init_p0 17 rfl) (fun H1 z1 o1 n1 hS => ?_)
  have o := va_at_kept o (o1 (n0 + 126) (Nat.add_lt_add_left (show 126 < 143 by decide) n0))
  have dn0 := DN_lt dn0 o1 (Nat.add_le_add_left (show 143 ≤ 143 by decide) n0)
  have dn0 := DN_app dn0 (DN_one (at_i (k := 143) (N := 7) rfl rfl (fun j _ => (s0_z (by decide)).symm) n1))
  have hz : H1.size = n0 + 144 := z1
  refine W.widen (k := 17) (n := 119) (Nat.le_of_ble_eq_true rfl) (Nat.le_of_ble_eq_true rfl) ?_
  refine y_putF (ci := 4) (k := 4) C inX4 tyX4 tyX4_ok nmX4 rfl (by decide) tc_127 rfl hin rfl rfl rfl (Nat.le_of_ble_eq_true rfl) o (Nat.le_refl _) hS (dX4_init_p0 18 rfl) (fun H1 L1 z1 o1 n1 hS => ?_)
  have dn0 := DN_ne dn0 o1 (show 126 < 127 ∨ 144 ≤ 126 by decide)
  have o : va_at D vwCl (n0 + 126, .inr (4, [.null, .int 0, .ref (n0 + 127), .ref (n0 + 135), .ref (n0 + 143), .null, .null, .null, .int 0, .int 0])) H1 := n1
  have hz := z1.trans hz
  refine lv_aload_n hx hb (dX4_init_p0 19 rfl) rfl (lv_at hl 0 rfl) ?_
  refine lv_bipush (v := 8) hx hb (dX4_init_p0 20 rfl) (by decide) ?_
  refine y_newa (atype := .long) (N := 8) (t0 := 2) (cA := ca 2) (a0 := (8, .inr (.inl (fun _ => 0)))) C tc_155 rfl (fun h => h) rfl (by decide) (by decide) (Nat.le_of_ble_eq_true rfl) hS hz (Nat.le_of_ble_eq_true rfl) (Nat.le_of_ble_eq_true rfl) (dX4_init_p0 21 rfl) (fun H1 z1 o1 n1 hS => ?_)
  have o := va_at_kept o (o1 (n0 + 126) (Nat.add_lt_add_left (show 126 < 144 by decide) n0))
  have dn0 := DN_lt dn0 o1 (Nat.add_le_add_left (show 144 ≤ 144 by decide) n0)
  have dn0 := DN_app dn0 (DN_one (at_l (k := 144) (N := 8) rfl rfl (fun j _ => rfl) n1))
  have hz : H1.size = n0 + 145 := z1
  refine W.widen (k := 18) (n := 127) (Nat.le_of_ble_eq_true rfl) (Nat.le_of_ble_eq_true rfl) ?_
  refine y_putF (ci := 4) (k := 5) C inX4 tyX4 tyX4_ok nmX4 rfl (by decide) tc_128 rfl hin rfl rfl rfl (Nat.le_of_ble_eq_true rfl) o (Nat.le_refl _) hS (dX4_init_p0 22 rfl) (fun H1 L1 z1 o1 n1 hS => ?_)
  have dn0 := DN_ne dn0 o1 (show 126 < 127 ∨ 145 ≤ 126 by decide)
  have o : va_at D vwCl (n0 + 126, .inr (4, [.null, .int 0, .ref (n0 + 127), .ref (n0 + 135), .ref (n0 + 143), .ref (n0 + 144), .null, .null, .int 0, .int 0])) H1 := n1
  have hz := z1.trans hz
  refine lv_aload_n hx hb (dX4_init_p0 23 rfl) rfl (lv_at hl 0 rfl) ?_
  refine lv_bipush (v := 7) hx hb (dX4_init_p0 24 rfl) (by decide) ?_
  refine y_newa (atype := .int) (N := 7) (t0 := 0) (cA := ca 0) (a0 := (7, .inl (fun _ => 0))) C tc_39 rfl (fun h => h) rfl (by decide) (by decide) (Nat.le_of_ble_eq_true rfl) hS hz (Nat.le_of_ble_eq_true rfl) (Nat.le_of_ble_eq_true rfl) (dX4_init_p0 25 rfl) (fun H1 z1 o1 n1 hS => ?_)
  have o := va_at_kept o (o1 (n0 + 126) (Nat.add_lt_add_left (show 126 < 145 by decide) n0))
  have dn0 := DN_lt dn0 o1 (Nat.add_le_add_left (show 145 ≤ 145 by decide) n0)
  have dn0 := DN_app dn0 (DN_one (at_i (k := 145) (N := 7) rfl rfl (fun j _ => (s0_z (by decide)).symm) n1))
  have hz : H1.size = n0 + 146 := z1
  refine W.widen (k := 19) (n := 134) (Nat.le_of_ble_eq_true rfl) (Nat.le_of_ble_eq_true rfl) ?_
  refine y_putF (ci := 4) (k := 6) C inX4 tyX4 tyX4_ok nmX4 rfl (by decide) tc_129 rfl hin rfl rfl rfl (Nat.le_of_ble_eq_true rfl) o (Nat.le_refl _) hS (dX4_init_p0 26 rfl) (fun H1 L1 z1 o1 n1 hS => ?_)
  have dn0 := DN_ne dn0 o1 (show 126 < 127 ∨ 146 ≤ 126 by decide)
  have o : va_at D vwCl (n0 + 126, .inr (4, [.null, .int 0, .ref (n0 + 127), .ref (n0 + 135), .ref (n0 + 143), .ref (n0 + 144), .ref (n0 + 145), .null, .int 0, .int 0])) H1 := n1
  have hz := z1.trans hz
  refine lv_aload_n hx hb (dX4_init_p0 27 rfl) rfl (lv_at hl 0 rfl) ?_
  refine lv_bipush (v := 6) hx hb (dX4_init_p0 28 rfl) (by decide) ?_
  refine y_newa (atype := .long) (N := 6) (t0 := 2) (cA := ca 2) (a0 := (6, .inr (.inl (fun _ => 0)))) C tc_155 rfl (fun h => h) rfl (by decide) (by decide) (Nat.le_of_ble_eq_true rfl) hS hz (Nat.le_of_ble_eq_true rfl) (Nat.le_of_ble_eq_true rfl) (dX4_init_p0 29 rfl) (fun H1 z1 o1 n1 hS => ?_)
  have o := va_at_kept o (o1 (n0 + 126) (Nat.add_lt_add_left (show 126 < 146 by decide) n0))
  have dn0 := DN_lt dn0 o1 (Nat.add_le_add_left (show 146 ≤ 146 by decide) n0)
  have dn0 := DN_app dn0 (DN_one (at_l (k := 146) (N := 6) rfl rfl (fun j _ => rfl) n1))
  have hz : H1.size = n0 + 147 := z1
  refine W.widen (k := 20) (n := 140) (Nat.le_of_ble_eq_true rfl) (Nat.le_of_ble_eq_true rfl) ?_
  refine y_putF (ci := 4) (k := 7) C inX4 tyX4 tyX4_ok nmX4 rfl (by decide) tc_130 rfl hin rfl rfl rfl (Nat.le_of_ble_eq_true rfl) o (Nat.le_refl _) hS (dX4_init_p0 30 rfl) (fun H1 L1 z1 o1 n1 hS => ?_)
  have dn0 := DN_ne dn0 o1 (show 126 < 127 ∨ 147 ≤ 126 by decide)
  have o : va_at D vwCl (n0 + 126, .inr (4, [.null, .int 0, .ref (n0 + 127), .ref (n0 + 135), .ref (n0 + 143), .ref (n0 + 144), .ref (n0 + 145), .ref (n0 + 146), .int 0, .int 0])) H1 := n1
  have hz := z1.trans hz
  refine lv_aload_n hx hb (dX4_init_p0 31 rfl) rfl (lv_at hl 0 rfl) ?_
  refine lv_iconst (v := 0) hx hb (dX4_init_p0 32 rfl) (by decide) ?_
  refine y_put (ci := 4) (k := 8) C inX4 tyX4 tyX4_ok nmX4 rfl (by decide) tc_131 rfl rfl rfl (Nat.le_of_ble_eq_true rfl) o (Nat.le_refl _) hS (dX4_init_p0 33 rfl) (fun H1 L1 z1 o1 n1 hS => ?_)
  have dn0 := DN_ne dn0 o1 (show 126 < 127 ∨ 147 ≤ 126 by decide)
  have o : va_at D vwCl (n0 + 126, .inr (4, [.null, .int 0, .ref (n0 + 127), .ref (n0 + 135), .ref (n0 + 143), .ref (n0 + 144), .ref (n0 + 145), .ref (n0 + 146), .int 0, .int 0])) H1 := n1
  have hz := z1.trans hz
  refine lv_aload_n hx hb (dX4_init_p0 34 rfl) rfl (lv_at hl 0 rfl) ?_
  refine lv_iconst (v := 0) hx hb (dX4_init_p0 35 rfl) (by decide) ?_
  refine y_put (ci := 4) (k := 9) C inX4 tyX4 tyX4_ok nmX4 rfl (by decide) tc_132 rfl rfl rfl (Nat.le_of_ble_eq_true rfl) o (Nat.le_refl _) hS (dX4_init_p0 36 rfl) (fun H1 L1 z1 o1 n1 hS => ?_)
  have dn0 := DN_ne dn0 o1 (show 126 < 127 ∨ 147 ≤ 126 by decide)
  have o : va_at D vwCl (n0 + 126, .inr (4, [.null, .int 0, .ref (n0 + 127), .ref (n0 + 135), .ref (n0 + 143), .ref (n0 + 144), .ref (n0 + 145), .ref (n0 + 146), .int 0, .int 0])) H1 := n1
  have hz := z1.trans hz
  refine lv_aload_n hx hb (dX4_init_p0 37 rfl) rfl (lv_at hl 0 rfl) ?_
  refine lv_aload_n hx hb (dX4_init_p0 38 rfl) rfl (lv_at hl 1 rfl) ?_
  refine y_putF (ci := 4) (k := 0) C inX4 tyX4 tyX4_ok nmX4 rfl (by decide) tc_123 rfl hin rfl rfl rfl (Nat.le_of_ble_eq_true rfl) o (Nat.le_refl _) hS (dX4_init_p0 39 rfl) (fun H1 L1 z1 o1 n1 hS => ?_)
  have dn0 := DN_ne dn0 o1 (show 126 < 127 ∨ 147 ≤ 126 by decide)
  have o : va_at D vwCl (n0 + 126, .inr (4, [.ref (n0 + 125), .int 0, .ref (n0 + 127), .ref (n0 + 135), .ref (n0 + 143), .ref (n0 + 144), .ref (n0 + 145), .ref (n0 + 146), .int 0, .int 0])) H1 := n1
  have hz := z1.trans hz
  exact y_ret C hr hlk hz (DN_app (DN_one (at_o (k := 126) rfl (by decide) rfl o)) (dn0)) hS (dX4_init_p0 40 rfl)
set_option maxHeartbeats 4000000 in
set_option maxRecDepth 100000 in
theorem c_X5_init_147 (l : Launch) (n0 : Nat) (D : va_G) (ca : Nat → ClassId) : CtM l yX5_init cX5_init 2 1 48 1932 [.ref (n0 + 147), .ref (n0 + 125)] n0 147 196 5 [.null, .int 0, .null, .null, .null, .null, .null, .null] D ca := by
  refine CtM_of (by decide) rfl (Nat.le_of_ble_eq_true rfl) ?_
  intro p e s m below meth c ls C hKM hml hr hlk hin hz o hl
  have hx := C.1
  have hb := C.2.1
  have hS : va_S (fun q => n0 + 147 ≤ q) s.heap s.heap [] := va_S.rf
  have hl : lv_has ls 2 [(0, .ref (n0 + 147)), (1, .ref (n0 + 125))] := hl
  refine lv_aload_n hx hb (dX5_init_p0 0 rfl) rfl (lv_at hl 0 rfl) ?_
  refine y_obj C hml hl.1 tc_161 tc_19 tc_20 (Nat.le_of_ble_eq_true rfl) (Nat.le_of_ble_eq_true rfl) (dX5_init_p0 1 rfl) ?_
  refine lv_aload_n hx hb (dX5_init_p0 2 rfl) rfl (lv_at hl 0 rfl) ?_
  refine lv_iconst (v := 0) hx hb (dX5_init_p0 3 rfl) (by decide) ?_
  refine y_put (ci := 5) (k := 1) C inX5 tyX5 tyX5_ok nmX5 rfl (by decide) tc_164 rfl rfl rfl (Nat.le_of_ble_eq_true rfl) o (Nat.le_refl _) hS (dX5_init_p0 4 rfl) (fun H1 L1 z1 o1 n1 hS => ?_)
  have o : va_at D vwCl (n0 + 147, .inr (5, [.null, .int 0, .null, .null, .null, .null, .null, .null])) H1 := n1
  have hz := z1.trans hz
  refine lv_aload_n hx hb (dX5_init_p0 5 rfl) rfl (lv_at hl 0 rfl) ?_
  refine lv_bipush (v := 7) hx hb (dX5_init_p0 6 rfl) (by decide) ?_
  refine lv_bipush (v := 7) hx hb (dX5_init_p0 7 rfl) (by decide) ?_
  refine y_mna (ty := .long) (N := 7) (K := 7) (t0 := 4) (t1 := 2) (cO := ca 4) (cI := ca 2) (z := (7, .inr (.inl (fun _ => 0)))) C tc_162 hKM.2.2.2 tc_155 rfl (fun h => h) rfl (fun h => h) (by decide) (by decide) (by decide) (by decide) (Nat.le_of_ble_eq_true rfl) (Nat.le_of_ble_eq_true rfl) (Nat.le_of_ble_eq_true rfl) rfl rfl (arrV_new _ _ _) hS hz (Nat.le_of_ble_eq_true rfl) (Nat.le_of_ble_eq_true rfl) (dX5_init_p0 8 rfl) (fun H1 z1 o1 n1 r1 hS => ?_)
  have o := va_at_kept o (o1 (n0 + 147) (Nat.add_lt_add_left (show 147 < 148 by decide) n0))
  have dn0 := DN_mL (k := 148) (N := 7) (K := 7) rfl rfl (by decide) (by decide) n1 r1
  have hz : H1.size = n0 + 156 := z1
  refine W.widen (k := 8) (n := 56) (Nat.le_of_ble_eq_true rfl) (Nat.le_of_ble_eq_true rfl) ?_
  refine y_putF (ci := 5) (k := 2) C inX5 tyX5 tyX5_ok nmX5 rfl (by decide) tc_165 rfl hin rfl rfl rfl (Nat.le_of_ble_eq_true rfl) o (Nat.le_refl _) hS (dX5_init_p0 9 rfl) (fun H1 L1 z1 o1 n1 hS => ?_)
  have dn0 := DN_ne dn0 o1 (show 147 < 148 ∨ 156 ≤ 147 by decide)
  have o : va_at D vwCl (n0 + 147, .inr (5, [.null, .int 0, .ref (n0 + 148), .null, .null, .null, .null, .null])) H1 := n1
  have hz := z1.trans hz
  refine lv_aload_n hx hb (dX5_init_p0 10 rfl) rfl (lv_at hl 0 rfl) ?_
  refine lv_bipush (v := 7) hx hb (dX5_init_p0 11 rfl) (by decide) ?_
  refine lv_bipush (v := 64) hx hb (dX5_init_p0 12 rfl) (by decide) ?_
  refine y_mna (ty := .long) (N := 7) (K := 64) (t0 := 4) (t1 := 2) (cO := ca 4) (cI := ca 2) (z := (64, .inr (.inl (fun _ => 0)))) C tc_162 hKM.2.2.2 tc_155 rfl (fun h => h) rfl (fun h => h) (by decide) (by decide) (by decide) (by decide) (Nat.le_of_ble_eq_true rfl) (Nat.le_of_ble_eq_true rfl) (Nat.le_of_ble_eq_true rfl) rfl rfl (arrV_new _ _ _) hS hz (Nat.le_of_ble_eq_true rfl) (Nat.le_of_ble_eq_true rfl) (dX5_init_p0 13 rfl) (fun H1 z1 o1 n1 r1 hS => ?_)
  have o := va_at_kept o (o1 (n0 + 147) (Nat.add_lt_add_left (show 147 < 156 by decide) n0))
  have dn0 := DN_lt dn0 o1 (Nat.add_le_add_left (show 156 ≤ 156 by decide) n0)
  have dn0 := DN_app dn0 (DN_mL (k := 156) (N := 7) (K := 64) rfl rfl (by decide) (by decide) n1 r1)
  have hz : H1.size = n0 + 164 := z1
  refine W.widen (k := 16) (n := 511) (Nat.le_of_ble_eq_true rfl) (Nat.le_of_ble_eq_true rfl) ?_
  refine y_putF (ci := 5) (k := 3) C inX5 tyX5 tyX5_ok nmX5 rfl (by decide) tc_166 rfl hin rfl rfl rfl (Nat.le_of_ble_eq_true rfl) o (Nat.le_refl _) hS (dX5_init_p0 14 rfl) (fun H1 L1 z1 o1 n1 hS => ?_)
  have dn0 := DN_ne dn0 o1 (show 147 < 148 ∨ 164 ≤ 147 by decide)
  have o : va_at D vwCl (n0 + 147, .inr (5, [.null, .int 0, .ref (n0 + 148), .ref (n0 + 156), .null, .null, .null, .null])) H1 := n1
  have hz := z1.trans hz
  refine lv_aload_n hx hb (dX5_init_p0 15 rfl) rfl (lv_at hl 0 rfl) ?_
  refine lv_bipush (v := 7) hx hb (dX5_init_p0 16 rfl) (by decide) ?_
  refine lv_bipush (v := 64) hx hb (dX5_init_p0 17 rfl) (by decide) ?_
  refine y_mna (ty := .long) (N := 7) (K := 64) (t0 := 4) (t1 := 2) (cO := ca 4) (cI := ca 2) (z := (64, .inr (.inl (fun _ => 0)))) C tc_162 hKM.2.2.2 tc_155 rfl (fun h => h) rfl (fun h => h) (by decide) (by decide) (by decide) (by decide) (Nat.le_of_ble_eq_true rfl) (Nat.le_of_ble_eq_true rfl) (Nat.le_of_ble_eq_true rfl) rfl rfl (arrV_new _ _ _) hS hz (Nat.le_of_ble_eq_true rfl) (Nat.le_of_ble_eq_true rfl) (dX5_init_p0 18 rfl) (fun H1 z1 o1 n1 r1 hS => ?_)
  have o := va_at_kept o (o1 (n0 + 147) (Nat.add_lt_add_left (show 147 < 164 by decide) n0))
  have dn0 := DN_lt dn0 o1 (Nat.add_le_add_left (show 164 ≤ 164 by decide) n0)
  have dn0 := DN_app dn0 (DN_mL (k := 164) (N := 7) (K := 64) rfl rfl (by decide) (by decide) n1 r1)
  have hz : H1.size = n0 + 172 := z1
  refine W.widen (k := 24) (n := 966) (Nat.le_of_ble_eq_true rfl) (Nat.le_of_ble_eq_true rfl) ?_
  refine y_putF (ci := 5) (k := 4) C inX5 tyX5 tyX5_ok nmX5 rfl (by decide) tc_167 rfl hin rfl rfl rfl (Nat.le_of_ble_eq_true rfl) o (Nat.le_refl _) hS (dX5_init_p0 19 rfl) (fun H1 L1 z1 o1 n1 hS => ?_)
  have dn0 := DN_ne dn0 o1 (show 147 < 148 ∨ 172 ≤ 147 by decide)
  have o : va_at D vwCl (n0 + 147, .inr (5, [.null, .int 0, .ref (n0 + 148), .ref (n0 + 156), .ref (n0 + 164), .null, .null, .null])) H1 := n1
  have hz := z1.trans hz
  refine lv_aload_n hx hb (dX5_init_p0 20 rfl) rfl (lv_at hl 0 rfl) ?_
  refine lv_bipush (v := 7) hx hb (dX5_init_p0 21 rfl) (by decide) ?_
  refine lv_bipush (v := 64) hx hb (dX5_init_p0 22 rfl) (by decide) ?_
  refine y_mna (ty := .long) (N := 7) (K := 64) (t0 := 4) (t1 := 2) (cO := ca 4) (cI := ca 2) (z := (64, .inr (.inl (fun _ => 0)))) C tc_162 hKM.2.2.2 tc_155 rfl (fun h => h) rfl (fun h => h) (by decide) (by decide) (by decide) (by decide) (Nat.le_of_ble_eq_true rfl) (Nat.le_of_ble_eq_true rfl) (Nat.le_of_ble_eq_true rfl) rfl rfl (arrV_new _ _ _) hS hz (Nat.le_of_ble_eq_true rfl) (Nat.le_of_ble_eq_true rfl) (dX5_init_p0 23 rfl) (fun H1 z1 o1 n1 r1 hS => ?_)
  have o := va_at_kept o (o1 (n0 + 147) (Nat.add_lt_add_left (show 147 < 172 by decide) n0))
  have dn0 := DN_lt dn0 o1 (Nat.add_le_add_left (show 172 ≤ 172 by decide) n0)
  have dn0 := DN_app dn0 (DN_mL (k := 172) (N := 7) (K := 64) rfl rfl (by decide) (by decide) n1 r1)
  have hz : H1.size = n0 + 180 := z1
  refine W.widen (k := 32) (n := 1421) (Nat.le_of_ble_eq_true rfl) (Nat.le_of_ble_eq_true rfl) ?_
  refine y_putF (ci := 5) (k := 5) C inX5 tyX5 tyX5_ok nmX5 rfl (by decide) tc_168 rfl hin rfl rfl rfl (Nat.le_of_ble_eq_true rfl) o (Nat.le_refl _) hS (dX5_init_p0 24 rfl) (fun H1 L1 z1 o1 n1 hS => ?_)
  have dn0 := DN_ne dn0 o1 (show 147 < 148 ∨ 180 ≤ 147 by decide)
  have o : va_at D vwCl (n0 + 147, .inr (5, [.null, .int 0, .ref (n0 + 148), .ref (n0 + 156), .ref (n0 + 164), .ref (n0 + 172), .null, .null])) H1 := n1
  have hz := z1.trans hz
  refine lv_aload_n hx hb (dX5_init_p0 25 rfl) rfl (lv_at hl 0 rfl) ?_
  refine lv_bipush (v := 7) hx hb (dX5_init_p0 26 rfl) (by decide) ?_
  refine lv_bipush (v := 64) hx hb (dX5_init_p0 27 rfl) (by decide) ?_
  refine y_mna (ty := .long) (N := 7) (K := 64) (t0 := 4) (t1 := 2) (cO := ca 4) (cI := ca 2) (z := (64, .inr (.inl (fun _ => 0)))) C tc_162 hKM.2.2.2 tc_155 rfl (fun h => h) rfl (fun h => h) (by decide) (by decide) (by decide) (by decide) (Nat.le_of_ble_eq_true rfl) (Nat.le_of_ble_eq_true rfl) (Nat.le_of_ble_eq_true rfl) rfl rfl (arrV_new _ _ _) hS hz (Nat.le_of_ble_eq_true rfl) (Nat.le_of_ble_eq_true rfl) (dX5_init_p0 28 rfl) (fun H1 z1 o1 n1 r1 hS => ?_)
  have o := va_at_kept o (o1 (n0 + 147) (Nat.add_lt_add_left (show 147 < 180 by decide) n0))
  have dn0 := DN_lt dn0 o1 (Nat.add_le_add_left (show 180 ≤ 180 by decide) n0)
  have dn0 := DN_app dn0 (DN_mL (k := 180) (N := 7) (K := 64) rfl rfl (by decide) (by decide) n1 r1)
  have hz : H1.size = n0 + 188 := z1
  refine W.widen (k := 40) (n := 1876) (Nat.le_of_ble_eq_true rfl) (Nat.le_of_ble_eq_true rfl) ?_
  refine y_putF (ci := 5) (k := 6) C inX5 tyX5 tyX5_ok nmX5 rfl (by decide) tc_169 rfl hin rfl rfl rfl (Nat.le_of_ble_eq_true rfl) o (Nat.le_refl _) hS (dX5_init_p0 29 rfl) (fun H1 L1 z1 o1 n1 hS => ?_)
  have dn0 := DN_ne dn0 o1 (show 147 < 148 ∨ 188 ≤ 147 by decide)
  have o : va_at D vwCl (n0 + 147, .inr (5, [.null, .int 0, .ref (n0 + 148), .ref (n0 + 156), .ref (n0 + 164), .ref (n0 + 172), .ref (n0 + 180), .null])) H1 := n1
  have hz := z1.trans hz
  refine lv_aload_n hx hb (dX5_init_p0 30 rfl) rfl (lv_at hl 0 rfl) ?_
  refine lv_bipush (v := 7) hx hb (dX5_init_p0 31 rfl) (by decide) ?_
  refine lv_bipush (v := 7) hx hb (dX5_init_p0 32 rfl) (by decide) ?_
  refine y_mna (ty := .long) (N := 7) (K := 7) (t0 := 4) (t1 := 2) (cO := ca 4) (cI := ca 2) (z := (7, .inr (.inl (fun _ => 0)))) C tc_162 hKM.2.2.2 tc_155 rfl (fun h => h) rfl (fun h => h) (by decide) (by decide) (by decide) (by decide) (Nat.le_of_ble_eq_true rfl) (Nat.le_of_ble_eq_true rfl) (Nat.le_of_ble_eq_true rfl) rfl rfl (arrV_new _ _ _) hS hz (Nat.le_of_ble_eq_true rfl) (Nat.le_of_ble_eq_true rfl) (dX5_init_p0 33 rfl) (fun H1 z1 o1 n1 r1 hS => ?_)
  have o := va_at_kept o (o1 (n0 + 147) (Nat.add_lt_add_left (show 147 < 188 by decide) n0))
  have dn0 := DN_lt dn0 o1 (Nat.add_le_add_left (show 188 ≤ 188 by decide) n0)
  have dn0 := DN_app dn0 (DN_mL (k := 188) (N := 7) (K := 7) rfl rfl (by decide) (by decide) n1 r1)
  have hz : H1.size = n0 + 196 := z1
  refine W.widen (k := 48) (n := 1932) (Nat.le_of_ble_eq_true rfl) (Nat.le_of_ble_eq_true rfl) ?_
  refine y_putF (ci := 5) (k := 7) C inX5 tyX5 tyX5_ok nmX5 rfl (by decide) tc_170 rfl hin rfl rfl rfl (Nat.le_of_ble_eq_true rfl) o (Nat.le_refl _) hS (dX5_init_p0 34 rfl) (fun H1 L1 z1 o1 n1 hS => ?_)
  have dn0 := DN_ne dn0 o1 (show 147 < 148 ∨ 196 ≤ 147 by decide)
  have o : va_at D vwCl (n0 + 147, .inr (5, [.null, .int 0, .ref (n0 + 148), .ref (n0 + 156), .ref (n0 + 164), .ref (n0 + 172), .ref (n0 + 180), .ref (n0 + 188)])) H1 := n1
  have hz := z1.trans hz
  refine lv_aload_n hx hb (dX5_init_p0 35 rfl) rfl (lv_at hl 0 rfl) ?_
  refine lv_aload_n hx hb (dX5_init_p0 36 rfl) rfl (lv_at hl 1 rfl) ?_
  refine y_putF (ci := 5) (k := 0) C inX5 tyX5 tyX5_ok nmX5 rfl (by decide) tc_163 rfl hin rfl rfl rfl (Nat.le_of_ble_eq_true rfl) o (Nat.le_refl _) hS (dX5_init_p0 37 rfl) (fun H1 L1 z1 o1 n1 hS => ?_)
  have dn0 := DN_ne dn0 o1 (show 147 < 148 ∨ 196 ≤ 147 by decide)
  have o : va_at D vwCl (n0 + 147, .inr (5, [.ref (n0 + 125), .int 0, .ref (n0 + 148), .ref (n0 + 156), .ref (n0 + 164), .ref (n0 + 172), .ref (n0 + 180), .ref (n0 + 188)])) H1 := n1
  have hz := z1.trans hz
  exact y_ret C hr hlk hz (DN_app (DN_one (at_o (k := 147) rfl (by decide) rfl o)) (dn0)) hS (dX5_init_p0 38 rfl)
set_option maxHeartbeats 4000000 in
set_option maxRecDepth 100000 in
theorem c_X3_init_196 (l : Launch) (n0 : Nat) (D : va_G) (ca : Nat → ClassId) : CtM l yX3_init cX3_init 1 1 7 106 [.ref (n0 + 196)] n0 196 204 3 [.int 0, .null, .null, .int 0, .null, .null, .int 0, .null, .int 0, .null, .int 0, .null] D ca := by
  refine CtM_of (by decide) rfl (Nat.le_of_ble_eq_true rfl) ?_
  intro p e s m below meth c ls C hKM hml hr hlk hin hz o hl
  have hx := C.1
  have hb := C.2.1
  have hS : va_S (fun q => n0 + 196 ≤ q) s.heap s.heap [] := va_S.rf
  have hl : lv_has ls 1 [(0, .ref (n0 + 196))] := hl
  refine lv_aload_n hx hb (dX3_init_p0 0 rfl) rfl (lv_at hl 0 rfl) ?_
  refine y_obj C hml hl.1 tc_193 tc_19 tc_20 (Nat.le_of_ble_eq_true rfl) (Nat.le_of_ble_eq_true rfl) (dX3_init_p0 1 rfl) ?_
  refine lv_aload_n hx hb (dX3_init_p0 2 rfl) rfl (lv_at hl 0 rfl) ?_
  refine lv_iconst (v := 0) hx hb (dX3_init_p0 3 rfl) (by decide) ?_
  refine y_put (ci := 3) (k := 0) C inX3 tyX3 tyX3_ok nmX3 rfl (by decide) tc_194 rfl rfl rfl (Nat.le_of_ble_eq_true rfl) o (Nat.le_refl _) hS (dX3_init_p0 4 rfl) (fun H1 L1 z1 o1 n1 hS => ?_)
  have o : va_at D vwCl (n0 + 196, .inr (3, [.int 0, .null, .null, .int 0, .null, .null, .int 0, .null, .int 0, .null, .int 0, .null])) H1 := n1
  have hz := z1.trans hz
  refine lv_aload_n hx hb (dX3_init_p0 5 rfl) rfl (lv_at hl 0 rfl) ?_
  refine lv_bipush (v := 7) hx hb (dX3_init_p0 6 rfl) (by decide) ?_
  refine y_newa (atype := .int) (N := 7) (t0 := 0) (cA := ca 0) (a0 := (7, .inl (fun _ => 0))) C tc_39 rfl (fun h => h) rfl (by decide) (by decide) (Nat.le_of_ble_eq_true rfl) hS hz (Nat.le_of_ble_eq_true rfl) (Nat.le_of_ble_eq_true rfl) (dX3_init_p0 7 rfl) (fun H1 z1 o1 n1 hS => ?_)
  have o := va_at_kept o (o1 (n0 + 196) (Nat.add_lt_add_left (show 196 < 197 by decide) n0))
  have dn0 := DN_one (at_i (k := 197) (N := 7) rfl rfl (fun j _ => (s0_z (by decide)).symm) n1)
  have hz : H1.size = n0 + 198 := z1
  refine W.widen (k := 1) (n := 7) (Nat.le_of_ble_eq_true rfl) (Nat.le_of_ble_eq_true rfl) ?_
  refine y_putF (ci := 3) (k := 1) C inX3 tyX3 tyX3_ok nmX3 rfl (by decide) tc_195 rfl hin rfl rfl rfl (Nat.le_of_ble_eq_true rfl) o (Nat.le_refl _) hS (dX3_init_p0 8 rfl) (fun H1 L1 z1 o1 n1 hS => ?_)
  have dn0 := DN_ne dn0 o1 (show 196 < 197 ∨ 198 ≤ 196 by decide)
  have o : va_at D vwCl (n0 + 196, .inr (3, [.int 0, .ref (n0 + 197), .null, .int 0, .null, .null, .int 0, .null, .int 0, .null, .int 0, .null])) H1 := n1
  have hz := z1.trans hz
  refine lv_aload_n hx hb (dX3_init_p0 9 rfl) rfl (lv_at hl 0 rfl) ?_
  refine lv_bipush (v := 7) hx hb (dX3_init_p0 10 rfl) (by decide) ?_
  refine y_newa (atype := .int) (N := 7) (t0 := 0) (cA := ca 0) (a0 := (7, .inl (fun _ => 0))) C tc_39 rfl (fun h => h) rfl (by decide) (by decide) (Nat.le_of_ble_eq_true rfl) hS hz (Nat.le_of_ble_eq_true rfl) (Nat.le_of_ble_eq_true rfl) (dX3_init_p0 11 rfl) (fun H1 z1 o1 n1 hS => ?_)
  have o := va_at_kept o (o1 (n0 + 196) (Nat.add_lt_add_left (show 196 < 198 by decide) n0))
  have dn0 := DN_lt dn0 o1 (Nat.add_le_add_left (show 198 ≤ 198 by decide) n0)
  have dn0 := DN_app dn0 (DN_one (at_i (k := 198) (N := 7) rfl rfl (fun j _ => (s0_z (by decide)).symm) n1))
  have hz : H1.size = n0 + 199 := z1
  refine W.widen (k := 2) (n := 14) (Nat.le_of_ble_eq_true rfl) (Nat.le_of_ble_eq_true rfl) ?_
  refine y_putF (ci := 3) (k := 2) C inX3 tyX3 tyX3_ok nmX3 rfl (by decide) tc_196 rfl hin rfl rfl rfl (Nat.le_of_ble_eq_true rfl) o (Nat.le_refl _) hS (dX3_init_p0 12 rfl) (fun H1 L1 z1 o1 n1 hS => ?_)
  have dn0 := DN_ne dn0 o1 (show 196 < 197 ∨ 199 ≤ 196 by decide)
  have o : va_at D vwCl (n0 + 196, .inr (3, [.int 0, .ref (n0 + 197), .ref (n0 + 198), .int 0, .null, .null, .int 0, .null, .int 0, .null, .int 0, .null])) H1 := n1
  have hz := z1.trans hz
  refine lv_aload_n hx hb (dX3_init_p0 13 rfl) rfl (lv_at hl 0 rfl) ?_
  refine lv_iconst (v := 0) hx hb (dX3_init_p0 14 rfl) (by decide) ?_
  refine y_put (ci := 3) (k := 3) C inX3 tyX3 tyX3_ok nmX3 rfl (by decide) tc_198 rfl rfl rfl (Nat.le_of_ble_eq_true rfl) o (Nat.le_refl _) hS (dX3_init_p0 15 rfl) (fun H1 L1 z1 o1 n1 hS => ?_)
  have dn0 := DN_ne dn0 o1 (show 196 < 197 ∨ 199 ≤ 196 by decide)
  have o : va_at D vwCl (n0 + 196, .inr (3, [.int 0, .ref (n0 + 197), .ref (n0 + 198), .int 0, .null, .null, .int 0, .null, .int 0, .null, .int 0, .null])) H1 := n1
  have hz := z1.trans hz
  refine lv_aload_n hx hb (dX3_init_p0 16 rfl) rfl (lv_at hl 0 rfl) ?_
  refine lv_bipush (v := 7) hx hb (dX3_init_p0 17 rfl) (by decide) ?_
  refine y_newa (atype := .int) (N := 7) (t0 := 0) (cA := ca 0) (a0 := (7, .inl (fun _ => 0))) C tc_39 rfl (fun h => h) rfl (by decide) (by decide) (Nat.le_of_ble_eq_true rfl) hS hz (Nat.le_of_ble_eq_true rfl) (Nat.le_of_ble_eq_true rfl) (dX3_init_p0 18 rfl) (fun H1 z1 o1 n1 hS => ?_)
  have o := va_at_kept o (o1 (n0 + 196) (Nat.add_lt_add_left (show 196 < 199 by decide) n0))
  have dn0 := DN_lt dn0 o1 (Nat.add_le_add_left (show 199 ≤ 199 by decide) n0)
  have dn0 := DN_app dn0 (DN_one (at_i (k := 199) (N := 7) rfl rfl (fun j _ => (s0_z (by decide)).symm) n1))
  have hz : H1.size = n0 + 200 := z1
  refine W.widen (k := 3) (n := 21) (Nat.le_of_ble_eq_true rfl) (Nat.le_of_ble_eq_true rfl) ?_
  refine y_putF (ci := 3) (k := 4) C inX3 tyX3 tyX3_ok nmX3 rfl (by decide) tc_199 rfl hin rfl rfl rfl (Nat.le_of_ble_eq_true rfl) o (Nat.le_refl _) hS (dX3_init_p0 19 rfl) (fun H1 L1 z1 o1 n1 hS => ?_)
  have dn0 := DN_ne dn0 o1 (show 196 < 197 ∨ 200 ≤ 196 by decide)
  have o : va_at D vwCl (n0 + 196, .inr (3, [.int 0, .ref (n0 + 197), .ref (n0 + 198), .int 0, .ref (n0 + 199), .null, .int 0, .null, .int 0, .null, .int 0, .null])) H1 := n1
  have hz := z1.trans hz
  refine lv_aload_n hx hb (dX3_init_p0 20 rfl) rfl (lv_at hl 0 rfl) ?_
  refine lv_bipush (v := 64) hx hb (dX3_init_p0 21 rfl) (by decide) ?_
  refine y_newa (atype := .int) (N := 64) (t0 := 0) (cA := ca 0) (a0 := (64, .inl (fun _ => 0))) C tc_39 rfl (fun h => h) rfl (by decide) (by decide) (Nat.le_of_ble_eq_true rfl) hS hz (Nat.le_of_ble_eq_true rfl) (Nat.le_of_ble_eq_true rfl) (dX3_init_p0 22 rfl) (fun H1 z1 o1 n1 hS => ?_)
  have o := va_at_kept o (o1 (n0 + 196) (Nat.add_lt_add_left (show 196 < 200 by decide) n0))
  have dn0 := DN_lt dn0 o1 (Nat.add_le_add_left (show 200 ≤ 200 by decide) n0)
  have dn0 := DN_app dn0 (DN_one (at_i (k := 200) (N := 64) rfl rfl (fun j _ => (s0_z (by decide)).symm) n1))
  have hz : H1.size = n0 + 201 := z1
  refine W.widen (k := 4) (n := 85) (Nat.le_of_ble_eq_true rfl) (Nat.le_of_ble_eq_true rfl) ?_
  refine y_putF (ci := 3) (k := 5) C inX3 tyX3 tyX3_ok nmX3 rfl (by decide) tc_200 rfl hin rfl rfl rfl (Nat.le_of_ble_eq_true rfl) o (Nat.le_refl _) hS (dX3_init_p0 23 rfl) (fun H1 L1 z1 o1 n1 hS => ?_)
  have dn0 := DN_ne dn0 o1 (show 196 < 197 ∨ 201 ≤ 196 by decide)
  have o : va_at D vwCl (n0 + 196, .inr (3, [.int 0, .ref (n0 + 197), .ref (n0 + 198), .int 0, .ref (n0 + 199), .ref (n0 + 200), .int 0, .null, .int 0, .null, .int 0, .null])) H1 := n1
  have hz := z1.trans hz
  refine lv_aload_n hx hb (dX3_init_p0 24 rfl) rfl (lv_at hl 0 rfl) ?_
  refine lv_iconst (v := 0) hx hb (dX3_init_p0 25 rfl) (by decide) ?_
  refine y_put (ci := 3) (k := 6) C inX3 tyX3 tyX3_ok nmX3 rfl (by decide) tc_202 rfl rfl rfl (Nat.le_of_ble_eq_true rfl) o (Nat.le_refl _) hS (dX3_init_p0 26 rfl) (fun H1 L1 z1 o1 n1 hS => ?_)
  have dn0 := DN_ne dn0 o1 (show 196 < 197 ∨ 201 ≤ 196 by decide)
  have o : va_at D vwCl (n0 + 196, .inr (3, [.int 0, .ref (n0 + 197), .ref (n0 + 198), .int 0, .ref (n0 + 199), .ref (n0 + 200), .int 0, .null, .int 0, .null, .int 0, .null])) H1 := n1
  have hz := z1.trans hz
  refine lv_aload_n hx hb (dX3_init_p0 27 rfl) rfl (lv_at hl 0 rfl) ?_
  refine lv_bipush (v := 7) hx hb (dX3_init_p0 28 rfl) (by decide) ?_
  refine y_newa (atype := .int) (N := 7) (t0 := 0) (cA := ca 0) (a0 := (7, .inl (fun _ => 0))) C tc_39 rfl (fun h => h) rfl (by decide) (by decide) (Nat.le_of_ble_eq_true rfl) hS hz (Nat.le_of_ble_eq_true rfl) (Nat.le_of_ble_eq_true rfl) (dX3_init_p0 29 rfl) (fun H1 z1 o1 n1 hS => ?_)
  have o := va_at_kept o (o1 (n0 + 196) (Nat.add_lt_add_left (show 196 < 201 by decide) n0))
  have dn0 := DN_lt dn0 o1 (Nat.add_le_add_left (show 201 ≤ 201 by decide) n0)
  have dn0 := DN_app dn0 (DN_one (at_i (k := 201) (N := 7) rfl rfl (fun j _ => (s0_z (by decide)).symm) n1))
  have hz : H1.size = n0 + 202 := z1
  refine W.widen (k := 5) (n := 92) (Nat.le_of_ble_eq_true rfl) (Nat.le_of_ble_eq_true rfl) ?_
  refine y_putF (ci := 3) (k := 7) C inX3 tyX3 tyX3_ok nmX3 rfl (by decide) tc_204 rfl hin rfl rfl rfl (Nat.le_of_ble_eq_true rfl) o (Nat.le_refl _) hS (dX3_init_p0 30 rfl) (fun H1 L1 z1 o1 n1 hS => ?_)
  have dn0 := DN_ne dn0 o1 (show 196 < 197 ∨ 202 ≤ 196 by decide)
  have o : va_at D vwCl (n0 + 196, .inr (3, [.int 0, .ref (n0 + 197), .ref (n0 + 198), .int 0, .ref (n0 + 199), .ref (n0 + 200), .int 0, .ref (n0 + 201), .int 0, .null, .int 0, .null])) H1 := n1
  have hz := z1.trans hz
  refine lv_aload_n hx hb (dX3_init_p0 31 rfl) rfl (lv_at hl 0 rfl) ?_
  refine lv_iconst (v := 0) hx hb (dX3_init_p0 32 rfl) (by decide) ?_
  refine y_put (ci := 3) (k := 8) C inX3 tyX3 tyX3_ok nmX3 rfl (by decide) tc_205 rfl rfl rfl (Nat.le_of_ble_eq_true rfl) o (Nat.le_refl _) hS (dX3_init_p0 33 rfl) (fun H1 L1 z1 o1 n1 hS => ?_)
  have dn0 := DN_ne dn0 o1 (show 196 < 197 ∨ 202 ≤ 196 by decide)
  have o : va_at D vwCl (n0 + 196, .inr (3, [.int 0, .ref (n0 + 197), .ref (n0 + 198), .int 0, .ref (n0 + 199), .ref (n0 + 200), .int 0, .ref (n0 + 201), .int 0, .null, .int 0, .null])) H1 := n1
  have hz := z1.trans hz
  refine lv_aload_n hx hb (dX3_init_p0 34 rfl) rfl (lv_at hl 0 rfl) ?_
  refine lv_bipush (v := 7) hx hb (dX3_init_p0 35 rfl) (by decide) ?_
  refine y_newa (atype := .int) (N := 7) (t0 := 0) (cA := ca 0) (a0 := (7, .inl (fun _ => 0))) C tc_39 rfl (fun h => h) rfl (by decide) (by decide) (Nat.le_of_ble_eq_true rfl) hS hz (Nat.le_of_ble_eq_true rfl) (Nat.le_of_ble_eq_true rfl) (dX3_init_p0 36 rfl) (fun H1 z1 o1 n1 hS => ?_)
  have o := va_at_kept o (o1 (n0 + 196) (Nat.add_lt_add_left (show 196 < 202 by decide) n0))
  have dn0 := DN_lt dn0 o1 (Nat.add_le_add_left (show 202 ≤ 202 by decide) n0)
  have dn0 := DN_app dn0 (DN_one (at_i (k := 202) (N := 7) rfl rfl (fun j _ => (s0_z (by decide)).symm) n1))
  have hz : H1.size = n0 + 203 := z1
  refine W.widen (k := 6) (n := 99) (Nat.le_of_ble_eq_true rfl) (Nat.le_of_ble_eq_true rfl) ?_
  refine y_putF (ci := 3) (k := 9) C inX3 tyX3 tyX3_ok nmX3 rfl (by decide) tc_206 rfl hin rfl rfl rfl (Nat.le_of_ble_eq_true rfl) o (Nat.le_refl _) hS (dX3_init_p0 37 rfl) (fun H1 L1 z1 o1 n1 hS => ?_)
  have dn0 := DN_ne dn0 o1 (show 196 < 197 ∨ 203 ≤ 196 by decide)
  have o : va_at D vwCl (n0 + 196, .inr (3, [.int 0, .ref (n0 + 197), .ref (n0 + 198), .int 0, .ref (n0 + 199), .ref (n0 + 200), .int 0, .ref (n0 + 201), .int 0, .ref (n0 + 202), .int 0, .null])) H1 := n1
  have hz := z1.trans hz
  refine lv_aload_n hx hb (dX3_init_p0 38 rfl) rfl (lv_at hl 0 rfl) ?_
  refine lv_iconst (v := 0) hx hb (dX3_init_p0 39 rfl) (by decide) ?_
  refine y_put (ci := 3) (k := 10) C inX3 tyX3 tyX3_ok nmX3 rfl (by decide) tc_207 rfl rfl rfl (Nat.le_of_ble_eq_true rfl) o (Nat.le_refl _) hS (dX3_init_p0 40 rfl) (fun H1 L1 z1 o1 n1 hS => ?_)
  have dn0 := DN_ne dn0 o1 (show 196 < 197 ∨ 203 ≤ 196 by decide)
  have o : va_at D vwCl (n0 + 196, .inr (3, [.int 0, .ref (n0 + 197), .ref (n0 + 198), .int 0, .ref (n0 + 199), .ref (n0 + 200), .int 0, .ref (n0 + 201), .int 0, .ref (n0 + 202), .int 0, .null])) H1 := n1
  have hz := z1.trans hz
  refine lv_aload_n hx hb (dX3_init_p0 41 rfl) rfl (lv_at hl 0 rfl) ?_
  refine lv_bipush (v := 7) hx hb (dX3_init_p0 42 rfl) (by decide) ?_
  refine y_newa (atype := .boolean) (N := 7) (t0 := 1) (cA := ca 1) (a0 := (7, .inl (fun _ => 0))) C tc_113 rfl (fun h => h) rfl (by decide) (by decide) (Nat.le_of_ble_eq_true rfl) hS hz (Nat.le_of_ble_eq_true rfl) (Nat.le_of_ble_eq_true rfl) (dX3_init_p0 43 rfl) (fun H1 z1 o1 n1 hS => ?_)
  have o := va_at_kept o (o1 (n0 + 196) (Nat.add_lt_add_left (show 196 < 203 by decide) n0))
  have dn0 := DN_lt dn0 o1 (Nat.add_le_add_left (show 203 ≤ 203 by decide) n0)
  have dn0 := DN_app dn0 (DN_one (at_z (k := 203) (N := 7) rfl rfl (fun j _ => (s0_z (by decide)).symm) n1))
  have hz : H1.size = n0 + 204 := z1
  refine W.widen (k := 7) (n := 106) (Nat.le_of_ble_eq_true rfl) (Nat.le_of_ble_eq_true rfl) ?_
  refine y_putF (ci := 3) (k := 11) C inX3 tyX3 tyX3_ok nmX3 rfl (by decide) tc_208 rfl hin rfl rfl rfl (Nat.le_of_ble_eq_true rfl) o (Nat.le_refl _) hS (dX3_init_p0 44 rfl) (fun H1 L1 z1 o1 n1 hS => ?_)
  have dn0 := DN_ne dn0 o1 (show 196 < 197 ∨ 204 ≤ 196 by decide)
  have o : va_at D vwCl (n0 + 196, .inr (3, [.int 0, .ref (n0 + 197), .ref (n0 + 198), .int 0, .ref (n0 + 199), .ref (n0 + 200), .int 0, .ref (n0 + 201), .int 0, .ref (n0 + 202), .int 0, .ref (n0 + 203)])) H1 := n1
  have hz := z1.trans hz
  exact y_ret C hr hlk hz (DN_app (DN_one (at_o (k := 196) rfl (by decide) rfl o)) (dn0)) hS (dX3_init_p0 45 rfl)
