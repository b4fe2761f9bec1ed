/-! the reference's constructor -/
set_option maxHeartbeats 4000000 in
set_option maxRecDepth 100000 in
theorem c_X8_init_204 (l : Launch) (n0 : Nat) (D : va_G) (ca : Nat → ClassId) : CtM l yX8_init cX8_init 1 1 25 1409 [.ref (n0 + 204)] n0 204 230 8 [.null, .int 0, .int 0, .null, .null, .null, .null, .null, .null, .null, .null, .int 0, .int 0, .int 0, .int 0, .null, .null, .null, .null, .null, .null, .int 0, .null, .null, .int 0, .long 0, .null, .null, .int 0, .long 0, .null, .null, .null, .int 0, .null, .null, .int 0, .null, .int 0, .int 0] D ca := by
  refine CtM_of (by decide) rfl (Nat.le_of_ble_eq_true rfl) ?_
  intro p e s m below meth c ls C hKM hml hr hlk hin hz o hl
  have hx := C.1
  have hb := C.2.1
  have hS : va_S (fun q => n0 + 204 ≤ q) s.heap s.heap [] := va_S.rf
  have hl : lv_has ls 1 [(0, .ref (n0 + 204))] := hl
  refine lv_aload_n hx hb (dX8_init_p0 0 rfl) rfl (lv_at hl 0 rfl) ?_
  refine y_obj C hml hl.1 tc_747 tc_19 tc_20 (Nat.le_of_ble_eq_true rfl) (Nat.le_of_ble_eq_true rfl) (dX8_init_p0 1 rfl) ?_
  refine lv_aload_n hx hb (dX8_init_p0 2 rfl) rfl (lv_at hl 0 rfl) ?_
  refine lv_bipush (v := 100) hx hb (dX8_init_p0 3 rfl) (by decide) ?_
  refine y_newa (atype := .int) (N := 100) (t0 := 0) (cA := ca 0) (a0 := (100, .inl (fun _ => 0))) C tc_39 rfl (fun h => h) rfl (by decide) (by decide) (Nat.le_of_ble_eq_true rfl) hS hz (Nat.le_of_ble_eq_true rfl) (Nat.le_of_ble_eq_true rfl) (dX8_init_p0 4 rfl) (fun H1 z1 o1 n1 hS => ?_)
  have o := va_at_kept o (o1 (n0 + 204) (Nat.add_lt_add_left (show 204 < 205 by decide) n0))
  have dn0 := DN_one (at_i (k := 205) (N := 100) rfl rfl (fun j _ => (s0_z (by decide)).symm) n1)
  have hz : H1.size = n0 + 206 := z1
  refine W.widen (k := 1) (n := 100) (Nat.le_of_ble_eq_true rfl) (Nat.le_of_ble_eq_true rfl) ?_
  refine y_putF (ci := 8) (k := 0) C inX8 tyX8 tyX8_ok nmX8 rfl (by decide) tc_748 rfl hin rfl rfl rfl (Nat.le_of_ble_eq_true rfl) o (Nat.le_refl _) hS (dX8_init_p0 5 rfl) (fun H1 L1 z1 o1 n1 hS => ?_)
  have dn0 := DN_ne dn0 o1 (show 204 < 205 ∨ 206 ≤ 204 by decide)
  have o : va_at D vwCl (n0 + 204, .inr (8, [.ref (n0 + 205), .int 0, .int 0, .null, .null, .null, .null, .null, .null, .null, .null, .int 0, .int 0, .int 0, .int 0, .null, .null, .null, .null, .null, .null, .int 0, .null, .null, .int 0, .long 0, .null, .null, .int 0, .long 0, .null, .null, .null, .int 0, .null, .null, .int 0, .null, .int 0, .int 0])) H1 := n1
  have hz := z1.trans hz
  refine lv_aload_n hx hb (dX8_init_p0 6 rfl) rfl (lv_at hl 0 rfl) ?_
  refine lv_iconst (v := 4) hx hb (dX8_init_p0 7 rfl) (by decide) ?_
  refine y_newa (atype := .int) (N := 4) (t0 := 0) (cA := ca 0) (a0 := (4, .inl (fun _ => 0))) C tc_39 rfl (fun h => h) rfl (by decide) (by decide) (Nat.le_of_ble_eq_true rfl) hS hz (Nat.le_of_ble_eq_true rfl) (Nat.le_of_ble_eq_true rfl) (dX8_init_p0 8 rfl) (fun H1 z1 o1 n1 hS => ?_)
  have o := va_at_kept o (o1 (n0 + 204) (Nat.add_lt_add_left (show 204 < 206 by decide) n0))
  have dn0 := DN_lt dn0 o1 (Nat.add_le_add_left (show 206 ≤ 206 by decide) n0)
  have dn0 := DN_app dn0 (DN_one (at_i (k := 206) (N := 4) rfl rfl (fun j _ => (s0_z (by decide)).symm) n1))
  have hz : H1.size = n0 + 207 := z1
  refine W.widen (k := 2) (n := 104) (Nat.le_of_ble_eq_true rfl) (Nat.le_of_ble_eq_true rfl) ?_
  refine y_putF (ci := 8) (k := 3) C inX8 tyX8 tyX8_ok nmX8 rfl (by decide) tc_751 rfl hin rfl rfl rfl (Nat.le_of_ble_eq_true rfl) o (Nat.le_refl _) hS (dX8_init_p0 9 rfl) (fun H1 L1 z1 o1 n1 hS => ?_)
  have dn0 := DN_ne dn0 o1 (show 204 < 205 ∨ 207 ≤ 204 by decide)
  have o : va_at D vwCl (n0 + 204, .inr (8, [.ref (n0 + 205), .int 0, .int 0, .ref (n0 + 206), .null, .null, .null, .null, .null, .null, .null, .int 0, .int 0, .int 0, .int 0, .null, .null, .null, .null, .null, .null, .int 0, .null, .null, .int 0, .long 0, .null, .null, .int 0, .long 0, .null, .null, .null, .int 0, .null, .null, .int 0, .null, .int 0, .int 0])) H1 := n1
  have hz := z1.trans hz
  refine lv_aload_n hx hb (dX8_init_p0 10 rfl) rfl (lv_at hl 0 rfl) ?_
  refine lv_bipush (v := 28) hx hb (dX8_init_p0 11 rfl) (by decide) ?_
  refine y_newa (atype := .int) (N := 28) (t0 := 0) (cA := ca 0) (a0 := (28, .inl (fun _ => 0))) C tc_39 rfl (fun h => h) rfl (by decide) (by decide) (Nat.le_of_ble_eq_true rfl) hS hz (Nat.le_of_ble_eq_true rfl) (Nat.le_of_ble_eq_true rfl) (dX8_init_p0 12 rfl) (fun H1 z1 o1 n1 hS => ?_)
  have o := va_at_kept o (o1 (n0 + 204) (Nat.add_lt_add_left (show 204 < 207 by decide) n0))
  have dn0 := DN_lt dn0 o1 (Nat.add_le_add_left (show 207 ≤ 207 by decide) n0)
  have dn0 := DN_app dn0 (DN_one (at_i (k := 207) (N := 28) rfl rfl (fun j _ => (s0_z (by decide)).symm) n1))
  have hz : H1.size = n0 + 208 := z1
  refine W.widen (k := 3) (n := 132) (Nat.le_of_ble_eq_true rfl) (Nat.le_of_ble_eq_true rfl) ?_
  refine y_putF (ci := 8) (k := 4) C inX8 tyX8 tyX8_ok nmX8 rfl (by decide) tc_752 rfl hin rfl rfl rfl (Nat.le_of_ble_eq_true rfl) o (Nat.le_refl _) hS (dX8_init_p0 13 rfl) (fun H1 L1 z1 o1 n1 hS => ?_)
  have dn0 := DN_ne dn0 o1 (show 204 < 205 ∨ 208 ≤ 204 by decide)
  have o : va_at D vwCl (n0 + 204, .inr (8, [.ref (n0 + 205), .int 0, .int 0, .ref (n0 + 206), .ref (n0 + 207), .null, .null, .null, .null, .null, .null, .int 0, .int 0, .int 0, .int 0, .null, .null, .null, .null, .null, .null, .int 0, .null, .null, .int 0, .long 0, .null, .null, .int 0, .long 0, .null, .null, .null, .int 0, .null, .null, .int 0, .null, .int 0, .int 0])) H1 := n1
  have hz := z1.trans hz
  refine lv_aload_n hx hb (dX8_init_p0 14 rfl) rfl (lv_at hl 0 rfl) ?_
  refine lv_bipush (v := 28) hx hb (dX8_init_p0 15 rfl) (by decide) ?_
  refine y_newa (atype := .int) (N := 28) (t0 := 0) (cA := ca 0) (a0 := (28, .inl (fun _ => 0))) C tc_39 rfl (fun h => h) rfl (by decide) (by decide) (Nat.le_of_ble_eq_true rfl) hS hz (Nat.le_of_ble_eq_true rfl) (Nat.le_of_ble_eq_true rfl) (dX8_init_p0 16 rfl) (fun H1 z1 o1 n1 hS => ?_)
  have o := va_at_kept o (o1 (n0 + 204) (Nat.add_lt_add_left (show 204 < 208 by decide) n0))
  have dn0 := DN_lt dn0 o1 (Nat.add_le_add_left (show 208 ≤ 208 by decide) n0)
  have dn0 := DN_app dn0 (DN_one (at_i (k := 208) (N := 28) rfl rfl (fun j _ => (s0_z (by decide)).symm) n1))
  have hz : H1.size = n0 + 209 := z1
  refine W.widen (k := 4) (n := 160) (Nat.le_of_ble_eq_true rfl) (Nat.le_of_ble_eq_true rfl) ?_
  refine y_putF (ci := 8) (k := 5) C inX8 tyX8 tyX8_ok nmX8 rfl (by decide) tc_753 rfl hin rfl rfl rfl (Nat.le_of_ble_eq_true rfl) o (Nat.le_refl _) hS (dX8_init_p0 17 rfl) (fun H1 L1 z1 o1 n1 hS => ?_)
  have dn0 := DN_ne dn0 o1 (show 204 < 205 ∨ 209 ≤ 204 by decide)
  have o : va_at D vwCl (n0 + 204, .inr (8, [.ref (n0 + 205), .int 0, .int 0, .ref (n0 + 206), .ref (n0 + 207), .ref (n0 + 208), .null, .null, .null, .null, .null, .int 0, .int 0, .int 0, .int 0, .null, .null, .null, .null, .null, .null, .int 0, .null, .null, .int 0, .long 0, .null, .null, .int 0, .long 0, .null, .null, .null, .int 0, .null, .null, .int 0, .null, .int 0, .int 0])) H1 := n1
  have hz := z1.trans hz
  refine lv_aload_n hx hb (dX8_init_p0 18 rfl) rfl (lv_at hl 0 rfl) ?_
  refine lv_sipush (v := 196) hx hb (dX8_init_p0 19 rfl) (by decide) ?_
  refine y_newa (atype := .int) (N := 196) (t0 := 0) (cA := ca 0) (a0 := (196, .inl (fun _ => 0))) C tc_39 rfl (fun h => h) rfl (by decide) (by decide) (Nat.le_of_ble_eq_true rfl) hS hz (Nat.le_of_ble_eq_true rfl) (Nat.le_of_ble_eq_true rfl) (dX8_init_p0 20 rfl) (fun H1 z1 o1 n1 hS => ?_)
  have o := va_at_kept o (o1 (n0 + 204) (Nat.add_lt_add_left (show 204 < 209 by decide) n0))
  have dn0 := DN_lt dn0 o1 (Nat.add_le_add_left (show 209 ≤ 209 by decide) n0)
  have dn0 := DN_app dn0 (DN_one (at_i (k := 209) (N := 196) rfl rfl (fun j _ => (s0_z (by decide)).symm) n1))
  have hz : H1.size = n0 + 210 := z1
  refine W.widen (k := 5) (n := 356) (Nat.le_of_ble_eq_true rfl) (Nat.le_of_ble_eq_true rfl) ?_
  refine y_putF (ci := 8) (k := 6) C inX8 tyX8 tyX8_ok nmX8 rfl (by decide) tc_754 rfl hin rfl rfl rfl (Nat.le_of_ble_eq_true rfl) o (Nat.le_refl _) hS (dX8_init_p0 21 rfl) (fun H1 L1 z1 o1 n1 hS => ?_)
  have dn0 := DN_ne dn0 o1 (show 204 < 205 ∨ 210 ≤ 204 by decide)
  have o : va_at D vwCl (n0 + 204, .inr (8, [.ref (n0 + 205), .int 0, .int 0, .ref (n0 + 206), .ref (n0 + 207), .ref (n0 + 208), .ref (n0 + 209), .null, .null, .null, .null, .int 0, .int 0, .int 0, .int 0, .null, .null, .null, .null, .null, .null, .int 0, .null, .null, .int 0, .long 0, .null, .null, .int 0, .long 0, .null, .null, .null, .int 0, .null, .null, .int 0, .null, .int 0, .int 0])) H1 := n1
  have hz := z1.trans hz
  refine lv_aload_n hx hb (dX8_init_p0 22 rfl) rfl (lv_at hl 0 rfl) ?_
  refine lv_sipush (v := 196) hx hb (dX8_init_p0 23 rfl) (by decide) ?_
  refine y_newa (atype := .int) (N := 196) (t0 := 0) (cA := ca 0) (a0 := (196, .inl (fun _ => 0))) C tc_39 rfl (fun h => h) rfl (by decide) (by decide) (Nat.le_of_ble_eq_true rfl) hS hz (Nat.le_of_ble_eq_true rfl) (Nat.le_of_ble_eq_true rfl) (dX8_init_p0 24 rfl) (fun H1 z1 o1 n1 hS => ?_)
  have o := va_at_kept o (o1 (n0 + 204) (Nat.add_lt_add_left (show 204 < 210 by decide) n0))
  have dn0 := DN_lt dn0 o1 (Nat.add_le_add_left (show 210 ≤ 210 by decide) n0)
  have dn0 := DN_app dn0 (DN_one (at_i (k := 210) (N := 196) rfl rfl (fun j _ => (s0_z (by decide)).symm) n1))
  have hz : H1.size = n0 + 211 := z1
  refine W.widen (k := 6) (n := 552) (Nat.le_of_ble_eq_true rfl) (Nat.le_of_ble_eq_true rfl) ?_
  refine y_putF (ci := 8) (k := 7) C inX8 tyX8 tyX8_ok nmX8 rfl (by decide) tc_755 rfl hin rfl rfl rfl (Nat.le_of_ble_eq_true rfl) o (Nat.le_refl _) hS (dX8_init_p0 25 rfl) (fun H1 L1 z1 o1 n1 hS => ?_)
  have dn0 := DN_ne dn0 o1 (show 204 < 205 ∨ 211 ≤ 204 by decide)
  have o : va_at D vwCl (n0 + 204, .inr (8, [.ref (n0 + 205), .int 0, .int 0, .ref (n0 + 206), .ref (n0 + 207), .ref (n0 + 208), .ref (n0 + 209), .ref (n0 + 210), .null, .null, .null, .int 0, .int 0, .int 0, .int 0, .null, .null, .null, .null, .null, .null, .int 0, .null, .null, .int 0, .long 0, .null, .null, .int 0, .long 0, .null, .null, .null, .int 0, .null, .null, .int 0, .null, .int 0, .int 0])) H1 := n1
  have hz := z1.trans hz
  refine lv_aload_n hx hb (dX8_init_p0 26 rfl) rfl (lv_at hl 0 rfl) ?_
  refine lv_bipush (v := 84) hx hb (dX8_init_p0 27 rfl) (by decide) ?_
  refine y_newa (atype := .int) (N := 84) (t0 := 0) (cA := ca 0) (a0 := (84, .inl (fun _ => 0))) C tc_39 rfl (fun h => h) rfl (by decide) (by decide) (Nat.le_of_ble_eq_true rfl) hS hz (Nat.le_of_ble_eq_true rfl) (Nat.le_of_ble_eq_true rfl) (dX8_init_p0 28 rfl) (fun H1 z1 o1 n1 hS => ?_)
  have o := va_at_kept o (o1 (n0 + 204) (Nat.add_lt_add_left (show 204 < 211 by decide) n0))
  have dn0 := DN_lt dn0 o1 (Nat.add_le_add_left (show 211 ≤ 211 by decide) n0)
  have dn0 := DN_app dn0 (DN_one (at_i (k := 211) (N := 84) rfl rfl (fun j _ => (s0_z (by decide)).symm) n1))
  have hz : H1.size = n0 + 212 := z1
  refine W.widen (k := 7) (n := 636) (Nat.le_of_ble_eq_true rfl) (Nat.le_of_ble_eq_true rfl) ?_
  refine y_putF (ci := 8) (k := 8) C inX8 tyX8 tyX8_ok nmX8 rfl (by decide) tc_756 rfl hin rfl rfl rfl (Nat.le_of_ble_eq_true rfl) o (Nat.le_refl _) hS (dX8_init_p0 29 rfl) (fun H1 L1 z1 o1 n1 hS => ?_)
  have dn0 := DN_ne dn0 o1 (show 204 < 205 ∨ 212 ≤ 204 by decide)
  have o : va_at D vwCl (n0 + 204, .inr (8, [.ref (n0 + 205), .int 0, .int 0, .ref (n0 + 206), .ref (n0 + 207), .ref (n0 + 208), .ref (n0 + 209), .ref (n0 + 210), .ref (n0 + 211), .null, .null, .int 0, .int 0, .int 0, .int 0, .null, .null, .null, .null, .null, .null, .int 0, .null, .null, .int 0, .long 0, .null, .null, .int 0, .long 0, .null, .null, .null, .int 0, .null, .null, .int 0, .null, .int 0, .int 0])) H1 := n1
  have hz := z1.trans hz
  refine lv_aload_n hx hb (dX8_init_p0 30 rfl) rfl (lv_at hl 0 rfl) ?_
  refine lv_sipush (v := 168) hx hb (dX8_init_p0 31 rfl) (by decide) ?_
  refine y_newa (atype := .int) (N := 168) (t0 := 0) (cA := ca 0) (a0 := (168, .inl (fun _ => 0))) C tc_39 rfl (fun h => h) rfl (by decide) (by decide) (Nat.le_of_ble_eq_true rfl) hS hz (Nat.le_of_ble_eq_true rfl) (Nat.le_of_ble_eq_true rfl) (dX8_init_p0 32 rfl) (fun H1 z1 o1 n1 hS => ?_)
  have o := va_at_kept o (o1 (n0 + 204) (Nat.add_lt_add_left (show 204 < 212 by decide) n0))
  have dn0 := DN_lt dn0 o1 (Nat.add_le_add_left (show 212 ≤ 212 by decide) n0)
  have dn0 := DN_app dn0 (DN_one (at_i (k := 212) (N := 168) rfl rfl (fun j _ => (s0_z (by decide)).symm) n1))
  have hz : H1.size = n0 + 213 := z1
  refine W.widen (k := 8) (n := 804) (Nat.le_of_ble_eq_true rfl) (Nat.le_of_ble_eq_true rfl) ?_
  refine y_putF (ci := 8) (k := 9) C inX8 tyX8 tyX8_ok nmX8 rfl (by decide) tc_757 rfl hin rfl rfl rfl (Nat.le_of_ble_eq_true rfl) o (Nat.le_refl _) hS (dX8_init_p0 33 rfl) (fun H1 L1 z1 o1 n1 hS => ?_)
  have dn0 := DN_ne dn0 o1 (show 204 < 205 ∨ 213 ≤ 204 by decide)
  have o : va_at D vwCl (n0 + 204, .inr (8, [.ref (n0 + 205), .int 0, .int 0, .ref (n0 + 206), .ref (n0 + 207), .ref (n0 + 208), .ref (n0 + 209), .ref (n0 + 210), .ref (n0 + 211), .ref (n0 + 212), .null, .int 0, .int 0, .int 0, .int 0, .null, .null, .null, .null, .null, .null, .int 0, .null, .null, .int 0, .long 0, .null, .null, .int 0, .long 0, .null, .null, .null, .int 0, .null, .null, .int 0, .null, .int 0, .int 0])) H1 := n1
  have hz := z1.trans hz
  refine lv_aload_n hx hb (dX8_init_p0 34 rfl) rfl (lv_at hl 0 rfl) ?_
  refine lv_iconst (v := 2) hx hb (dX8_init_p0 35 rfl) (by decide) ?_
  refine y_newa (atype := .boolean) (N := 2) (t0 := 1) (cA := ca 1) (a0 := (2, .inl (fun _ => 0))) C tc_113 rfl (fun h => h) rfl (by decide) (by decide) (Nat.le_of_ble_eq_true rfl) hS hz (Nat.le_of_ble_eq_true rfl) (Nat.le_of_ble_eq_true rfl) (dX8_init_p0 36 rfl) (fun H1 z1 o1 n1 hS => ?_)
  have o := va_at_kept o (o1 (n0 + 204) (Nat.add_lt_add_left (show 204 < 213 by decide) n0))
  have dn0 := DN_lt dn0 o1 (Nat.add_le_add_left (show 213 ≤ 213 by decide) n0)
  have dn0 := DN_app dn0 (DN_one (at_z (k := 213) (N := 2) rfl rfl (fun j _ => (s0_z (by decide)).symm) n1))
  have hz : H1.size = n0 + 214 := z1
  refine W.widen (k := 9) (n := 806) (Nat.le_of_ble_eq_true rfl) (Nat.le_of_ble_eq_true rfl) ?_
  refine y_putF (ci := 8) (k := 10) C inX8 tyX8 tyX8_ok nmX8 rfl (by decide) tc_758 rfl hin rfl rfl rfl (Nat.le_of_ble_eq_true rfl) o (Nat.le_refl _) hS (dX8_init_p0 37 rfl) (fun H1 L1 z1 o1 n1 hS => ?_)
  have dn0 := DN_ne dn0 o1 (show 204 < 205 ∨ 214 ≤ 204 by decide)
  have o : va_at D vwCl (n0 + 204, .inr (8, [.ref (n0 + 205), .int 0, .int 0, .ref (n0 + 206), .ref (n0 + 207), .ref (n0 + 208), .ref (n0 + 209), .ref (n0 + 210), .ref (n0 + 211), .ref (n0 + 212), .ref (n0 + 213), .int 0, .int 0, .int 0, .int 0, .null, .null, .null, .null, .null, .null, .int 0, .null, .null, .int 0, .long 0, .null, .null, .int 0, .long 0, .null, .null, .null, .int 0, .null, .null, .int 0, .null, .int 0, .int 0])) H1 := n1
  have hz := z1.trans hz
  refine lv_aload_n hx hb (dX8_init_p0 38 rfl) rfl (lv_at hl 0 rfl) ?_
  refine lv_bipush (v := 10) hx hb (dX8_init_p0 39 rfl) (by decide) ?_
  refine y_put (ci := 8) (k := 13) C inX8 tyX8 tyX8_ok nmX8 rfl (by decide) tc_761 rfl rfl rfl (Nat.le_of_ble_eq_true rfl) o (Nat.le_refl _) hS (dX8_init_p0 40 rfl) (fun H1 L1 z1 o1 n1 hS => ?_)
  have dn0 := DN_ne dn0 o1 (show 204 < 205 ∨ 214 ≤ 204 by decide)
  have o : va_at D vwCl (n0 + 204, .inr (8, [.ref (n0 + 205), .int 0, .int 0, .ref (n0 + 206), .ref (n0 + 207), .ref (n0 + 208), .ref (n0 + 209), .ref (n0 + 210), .ref (n0 + 211), .ref (n0 + 212), .ref (n0 + 213), .int 0, .int 0, .int 10, .int 0, .null, .null, .null, .null, .null, .null, .int 0, .null, .null, .int 0, .long 0, .null, .null, .int 0, .long 0, .null, .null, .null, .int 0, .null, .null, .int 0, .null, .int 0, .int 0])) H1 := n1
  have hz := z1.trans hz
  refine lv_aload_n hx hb (dX8_init_p0 41 rfl) rfl (lv_at hl 0 rfl) ?_
  refine lv_bipush (v := 50) hx hb (dX8_init_p0 42 rfl) (by decide) ?_
  refine y_newa (atype := .int) (N := 50) (t0 := 0) (cA := ca 0) (a0 := (50, .inl (fun _ => 0))) C tc_39 rfl (fun h => h) rfl (by decide) (by decide) (Nat.le_of_ble_eq_true rfl) hS hz (Nat.le_of_ble_eq_true rfl) (Nat.le_of_ble_eq_true rfl) (dX8_init_p0 43 rfl) (fun H1 z1 o1 n1 hS => ?_)
  have o := va_at_kept o (o1 (n0 + 204) (Nat.add_lt_add_left (show 204 < 214 by decide) n0))
  have dn0 := DN_lt dn0 o1 (Nat.add_le_add_left (show 214 ≤ 214 by decide) n0)
  have dn0 := DN_app dn0 (DN_one (at_i (k := 214) (N := 50) rfl rfl (fun j _ => (s0_z (by decide)).symm) n1))
  have hz : H1.size = n0 + 215 := z1
  refine W.widen (k := 10) (n := 856) (Nat.le_of_ble_eq_true rfl) (Nat.le_of_ble_eq_true rfl) ?_
  refine y_putF (ci := 8) (k := 15) C inX8 tyX8 tyX8_ok nmX8 rfl (by decide) tc_763 rfl hin rfl rfl rfl (Nat.le_of_ble_eq_true rfl) o (Nat.le_refl _) hS (dX8_init_p0 44 rfl) (fun H1 L1 z1 o1 n1 hS => ?_)
  have dn0 := DN_ne dn0 o1 (show 204 < 205 ∨ 215 ≤ 204 by decide)
  have o : va_at D vwCl (n0 + 204, .inr (8, [.ref (n0 + 205), .int 0, .int 0, .ref (n0 + 206), .ref (n0 + 207), .ref (n0 + 208), .ref (n0 + 209), .ref (n0 + 210), .ref (n0 + 211), .ref (n0 + 212), .ref (n0 + 213), .int 0, .int 0, .int 10, .int 0, .ref (n0 + 214), .null, .null, .null, .null, .null, .int 0, .null, .null, .int 0, .long 0, .null, .null, .int 0, .long 0, .null, .null, .null, .int 0, .null, .null, .int 0, .null, .int 0, .int 0])) H1 := n1
  have hz := z1.trans hz
  refine lv_aload_n hx hb (dX8_init_p0 45 rfl) rfl (lv_at hl 0 rfl) ?_
  refine lv_bipush (v := 50) hx hb (dX8_init_p0 46 rfl) (by decide) ?_
  refine y_newa (atype := .int) (N := 50) (t0 := 0) (cA := ca 0) (a0 := (50, .inl (fun _ => 0))) C tc_39 rfl (fun h => h) rfl (by decide) (by decide) (Nat.le_of_ble_eq_true rfl) hS hz (Nat.le_of_ble_eq_true rfl) (Nat.le_of_ble_eq_true rfl) (dX8_init_p0 47 rfl) (fun H1 z1 o1 n1 hS => ?_)
  have o := va_at_kept o (o1 (n0 + 204) (Nat.add_lt_add_left (show 204 < 215 by decide) n0))
  have dn0 := DN_lt dn0 o1 (Nat.add_le_add_left (show 215 ≤ 215 by decide) n0)
  have dn0 := DN_app dn0 (DN_one (at_i (k := 215) (N := 50) rfl rfl (fun j _ => (s0_z (by decide)).symm) n1))
  have hz : H1.size = n0 + 216 := z1
  refine W.widen (k := 11) (n := 906) (Nat.le_of_ble_eq_true rfl) (Nat.le_of_ble_eq_true rfl) ?_
  refine y_putF (ci := 8) (k := 16) C inX8 tyX8 tyX8_ok nmX8 rfl (by decide) tc_764 rfl hin rfl rfl rfl (Nat.le_of_ble_eq_true rfl) o (Nat.le_refl _) hS (dX8_init_p0 48 rfl) (fun H1 L1 z1 o1 n1 hS => ?_)
  have dn0 := DN_ne dn0 o1 (show 204 < 205 ∨ 216 ≤ 204 by decide)
  have o : va_at D vwCl (n0 + 204, .inr (8, [.ref (n0 + 205), .int 0, .int 0, .ref (n0 + 206), .ref (n0 + 207), .ref (n0 + 208), .ref (n0 + 209), .ref (n0 + 210), .ref (n0 + 211), .ref (n0 + 212), .ref (n0 + 213), .int 0, .int 0, .int 10, .int 0, .ref (n0 + 214), .ref (n0 + 215), .null, .null, .null, .null, .int 0, .null, .null, .int 0, .long 0, .null, .null, .int 0, .long 0, .null, .null, .null, .int 0, .null, .null, .int 0, .null, .int 0, .int 0])) H1 := n1
  have hz := z1.trans hz
  refine lv_aload_n hx hb (dX8_init_p0 49 rfl) rfl (lv_at hl 0 rfl) ?_
  refine lv_bipush (v := 7) hx hb (dX8_init_p0 50 rfl) (by decide) ?_
  refine y_newa (atype := .int) (N := 7) (t0 := 0) (cA := ca 0) (a0 := (7, .inl (fun _ => 0))) C tc_39 rfl (fun h => h) rfl (by decide) (by decide) (Nat.le_of_ble_eq_true rfl) hS hz (Nat.le_of_ble_eq_true rfl) (Nat.le_of_ble_eq_true rfl) (dX8_init_p0 51 rfl) (fun H1 z1 o1 n1 hS => ?_)
  have o := va_at_kept o (o1 (n0 + 204) (Nat.add_lt_add_left (show 204 < 216 by decide) n0))
  have dn0 := DN_lt dn0 o1 (Nat.add_le_add_left (show 216 ≤ 216 by decide) n0)
  have dn0 := DN_app dn0 (DN_one (at_i (k := 216) (N := 7) rfl rfl (fun j _ => (s0_z (by decide)).symm) n1))
  have hz : H1.size = n0 + 217 := z1
  refine W.widen (k := 12) (n := 913) (Nat.le_of_ble_eq_true rfl) (Nat.le_of_ble_eq_true rfl) ?_
  refine y_putF (ci := 8) (k := 17) C inX8 tyX8 tyX8_ok nmX8 rfl (by decide) tc_765 rfl hin rfl rfl rfl (Nat.le_of_ble_eq_true rfl) o (Nat.le_refl _) hS (dX8_init_p0 52 rfl) (fun H1 L1 z1 o1 n1 hS => ?_)
  have dn0 := DN_ne dn0 o1 (show 204 < 205 ∨ 217 ≤ 204 by decide)
  have o : va_at D vwCl (n0 + 204, .inr (8, [.ref (n0 + 205), .int 0, .int 0, .ref (n0 + 206), .ref (n0 + 207), .ref (n0 + 208), .ref (n0 + 209), .ref (n0 + 210), .ref (n0 + 211), .ref (n0 + 212), .ref (n0 + 213), .int 0, .int 0, .int 10, .int 0, .ref (n0 + 214), .ref (n0 + 215), .ref (n0 + 216), .null, .null, .null, .int 0, .null, .null, .int 0, .long 0, .null, .null, .int 0, .long 0, .null, .null, .null, .int 0, .null, .null, .int 0, .null, .int 0, .int 0])) H1 := n1
  have hz := z1.trans hz
  refine lv_aload_n hx hb (dX8_init_p0 53 rfl) rfl (lv_at hl 0 rfl) ?_
  refine lv_bipush (v := 49) hx hb (dX8_init_p0 54 rfl) (by decide) ?_
  refine y_newa (atype := .int) (N := 49) (t0 := 0) (cA := ca 0) (a0 := (49, .inl (fun _ => 0))) C tc_39 rfl (fun h => h) rfl (by decide) (by decide) (Nat.le_of_ble_eq_true rfl) hS hz (Nat.le_of_ble_eq_true rfl) (Nat.le_of_ble_eq_true rfl) (dX8_init_p0 55 rfl) (fun H1 z1 o1 n1 hS => ?_)
  have o := va_at_kept o (o1 (n0 + 204) (Nat.add_lt_add_left (show 204 < 217 by decide) n0))
  have dn0 := DN_lt dn0 o1 (Nat.add_le_add_left (show 217 ≤ 217 by decide) n0)
  have dn0 := DN_app dn0 (DN_one (at_i (k := 217) (N := 49) rfl rfl (fun j _ => (s0_z (by decide)).symm) n1))
  have hz : H1.size = n0 + 218 := z1
  refine W.widen (k := 13) (n := 962) (Nat.le_of_ble_eq_true rfl) (Nat.le_of_ble_eq_true rfl) ?_
  refine y_putF (ci := 8) (k := 18) C inX8 tyX8 tyX8_ok nmX8 rfl (by decide) tc_766 rfl hin rfl rfl rfl (Nat.le_of_ble_eq_true rfl) o (Nat.le_refl _) hS (dX8_init_p0 56 rfl) (fun H1 L1 z1 o1 n1 hS => ?_)
  have dn0 := DN_ne dn0 o1 (show 204 < 205 ∨ 218 ≤ 204 by decide)
  have o : va_at D vwCl (n0 + 204, .inr (8, [.ref (n0 + 205), .int 0, .int 0, .ref (n0 + 206), .ref (n0 + 207), .ref (n0 + 208), .ref (n0 + 209), .ref (n0 + 210), .ref (n0 + 211), .ref (n0 + 212), .ref (n0 + 213), .int 0, .int 0, .int 10, .int 0, .ref (n0 + 214), .ref (n0 + 215), .ref (n0 + 216), .ref (n0 + 217), .null, .null, .int 0, .null, .null, .int 0, .long 0, .null, .null, .int 0, .long 0, .null, .null, .null, .int 0, .null, .null, .int 0, .null, .int 0, .int 0])) H1 := n1
  have hz := z1.trans hz
  refine lv_aload_n hx hb (dX8_init_p0 57 rfl) rfl (lv_at hl 0 rfl) ?_
  refine lv_bipush (v := 49) hx hb (dX8_init_p0 58 rfl) (by decide) ?_
  refine y_newa (atype := .int) (N := 49) (t0 := 0) (cA := ca 0) (a0 := (49, .inl (fun _ => 0))) C tc_39 rfl (fun h => h) rfl (by decide) (by decide) (Nat.le_of_ble_eq_true rfl) hS hz (Nat.le_of_ble_eq_true rfl) (Nat.le_of_ble_eq_true rfl) (dX8_init_p0 59 rfl) (fun H1 z1 o1 n1 hS => ?_)
  have o := va_at_kept o (o1 (n0 + 204) (Nat.add_lt_add_left (show 204 < 218 by decide) n0))
  have dn0 := DN_lt dn0 o1 (Nat.add_le_add_left (show 218 ≤ 218 by decide) n0)
  have dn0 := DN_app dn0 (DN_one (at_i (k := 218) (N := 49) rfl rfl (fun j _ => (s0_z (by decide)).symm) n1))
  have hz : H1.size = n0 + 219 := z1
  refine W.widen (k := 14) (n := 1011) (Nat.le_of_ble_eq_true rfl) (Nat.le_of_ble_eq_true rfl) ?_
  refine y_putF (ci := 8) (k := 19) C inX8 tyX8 tyX8_ok nmX8 rfl (by decide) tc_767 rfl hin rfl rfl rfl (Nat.le_of_ble_eq_true rfl) o (Nat.le_refl _) hS (dX8_init_p0 60 rfl) (fun H1 L1 z1 o1 n1 hS => ?_)
  have dn0 := DN_ne dn0 o1 (show 204 < 205 ∨ 219 ≤ 204 by decide)
  have o : va_at D vwCl (n0 + 204, .inr (8, [.ref (n0 + 205), .int 0, .int 0, .ref (n0 + 206), .ref (n0 + 207), .ref (n0 + 208), .ref (n0 + 209), .ref (n0 + 210), .ref (n0 + 211), .ref (n0 + 212), .ref (n0 + 213), .int 0, .int 0, .int 10, .int 0, .ref (n0 + 214), .ref (n0 + 215), .ref (n0 + 216), .ref (n0 + 217), .ref (n0 + 218), .null, .int 0, .null, .null, .int 0, .long 0, .null, .null, .int 0, .long 0, .null, .null, .null, .int 0, .null, .null, .int 0, .null, .int 0, .int 0])) H1 := n1
  have hz := z1.trans hz
  refine lv_aload_n hx hb (dX8_init_p0 61 rfl) rfl (lv_at hl 0 rfl) ?_
  refine lv_bipush (v := 7) hx hb (dX8_init_p0 62 rfl) (by decide) ?_
  refine y_newa (atype := .int) (N := 7) (t0 := 0) (cA := ca 0) (a0 := (7, .inl (fun _ => 0))) C tc_39 rfl (fun h => h) rfl (by decide) (by decide) (Nat.le_of_ble_eq_true rfl) hS hz (Nat.le_of_ble_eq_true rfl) (Nat.le_of_ble_eq_true rfl) (dX8_init_p0 63 rfl) (fun H1 z1 o1 n1 hS => ?_)
  have o := va_at_kept o (o1 (n0 + 204) (Nat.add_lt_add_left (show 204 < 219 by decide) n0))
  have dn0 := DN_lt dn0 o1 (Nat.add_le_add_left (show 219 ≤ 219 by decide) n0)
  have dn0 := DN_app dn0 (DN_one (at_i (k := 219) (N := 7) rfl rfl (fun j _ => (s0_z (by decide)).symm) n1))
  have hz : H1.size = n0 + 220 := z1
  refine W.widen (k := 15) (n := 1018) (Nat.le_of_ble_eq_true rfl) (Nat.le_of_ble_eq_true rfl) ?_
  refine y_putF (ci := 8) (k := 20) C inX8 tyX8 tyX8_ok nmX8 rfl (by decide) tc_768 rfl hin rfl rfl rfl (Nat.le_of_ble_eq_true rfl) o (Nat.le_refl _) hS (dX8_init_p1 0 rfl) (fun H1 L1 z1 o1 n1 hS => ?_)
  have dn0 := DN_ne dn0 o1 (show 204 < 205 ∨ 220 ≤ 204 by decide)
  have o : va_at D vwCl (n0 + 204, .inr (8, [.ref (n0 + 205), .int 0, .int 0, .ref (n0 + 206), .ref (n0 + 207), .ref (n0 + 208), .ref (n0 + 209), .ref (n0 + 210), .ref (n0 + 211), .ref (n0 + 212), .ref (n0 + 213), .int 0, .int 0, .int 10, .int 0, .ref (n0 + 214), .ref (n0 + 215), .ref (n0 + 216), .ref (n0 + 217), .ref (n0 + 218), .ref (n0 + 219), .int 0, .null, .null, .int 0, .long 0, .null, .null, .int 0, .long 0, .null, .null, .null, .int 0, .null, .null, .int 0, .null, .int 0, .int 0])) H1 := n1
  have hz := z1.trans hz
  refine lv_aload_n hx hb (dX8_init_p1 1 rfl) rfl (lv_at hl 0 rfl) ?_
  refine lv_bipush (v := 7) hx hb (dX8_init_p1 2 rfl) (by decide) ?_
  refine y_newa (atype := .int) (N := 7) (t0 := 0) (cA := ca 0) (a0 := (7, .inl (fun _ => 0))) C tc_39 rfl (fun h => h) rfl (by decide) (by decide) (Nat.le_of_ble_eq_true rfl) hS hz (Nat.le_of_ble_eq_true rfl) (Nat.le_of_ble_eq_true rfl) (dX8_init_p1 3 rfl) (fun H1 z1 o1 n1 hS => ?_)
  have o := va_at_kept o (o1 (n0 + 204) (Nat.add_lt_add_left (show 204 < 220 by decide) n0))
  have dn0 := DN_lt dn0 o1 (Nat.add_le_add_left (show 220 ≤ 220 by decide) n0)
  have dn0 := DN_app dn0 (DN_one (at_i (k := 220) (N := 7) rfl rfl (fun j _ => (s0_z (by decide)).symm) n1))
  have hz : H1.size = n0 + 221 := z1
  refine W.widen (k := 16) (n := 1025) (Nat.le_of_ble_eq_true rfl) (Nat.le_of_ble_eq_true rfl) ?_
  refine y_putF (ci := 8) (k := 22) C inX8 tyX8 tyX8_ok nmX8 rfl (by decide) tc_770 rfl hin rfl rfl rfl (Nat.le_of_ble_eq_true rfl) o (Nat.le_refl _) hS (dX8_init_p1 4 rfl) (fun H1 L1 z1 o1 n1 hS => ?_)
  have dn0 := DN_ne dn0 o1 (show 204 < 205 ∨ 221 ≤ 204 by decide)
  have o : va_at D vwCl (n0 + 204, .inr (8, [.ref (n0 + 205), .int 0, .int 0, .ref (n0 + 206), .ref (n0 + 207), .ref (n0 + 208), .ref (n0 + 209), .ref (n0 + 210), .ref (n0 + 211), .ref (n0 + 212), .ref (n0 + 213), .int 0, .int 0, .int 10, .int 0, .ref (n0 + 214), .ref (n0 + 215), .ref (n0 + 216), .ref (n0 + 217), .ref (n0 + 218), .ref (n0 + 219), .int 0, .ref (n0 + 220), .null, .int 0, .long 0, .null, .null, .int 0, .long 0, .null, .null, .null, .int 0, .null, .null, .int 0, .null, .int 0, .int 0])) H1 := n1
  have hz := z1.trans hz
  refine lv_aload_n hx hb (dX8_init_p1 5 rfl) rfl (lv_at hl 0 rfl) ?_
  refine lv_bipush (v := 49) hx hb (dX8_init_p1 6 rfl) (by decide) ?_
  refine y_newa (atype := .int) (N := 49) (t0 := 0) (cA := ca 0) (a0 := (49, .inl (fun _ => 0))) C tc_39 rfl (fun h => h) rfl (by decide) (by decide) (Nat.le_of_ble_eq_true rfl) hS hz (Nat.le_of_ble_eq_true rfl) (Nat.le_of_ble_eq_true rfl) (dX8_init_p1 7 rfl) (fun H1 z1 o1 n1 hS => ?_)
  have o := va_at_kept o (o1 (n0 + 204) (Nat.add_lt_add_left (show 204 < 221 by decide) n0))
  have dn0 := DN_lt dn0 o1 (Nat.add_le_add_left (show 221 ≤ 221 by decide) n0)
  have dn0 := DN_app dn0 (DN_one (at_i (k := 221) (N := 49) rfl rfl (fun j _ => (s0_z (by decide)).symm) n1))
  have hz : H1.size = n0 + 222 := z1
  refine W.widen (k := 17) (n := 1074) (Nat.le_of_ble_eq_true rfl) (Nat.le_of_ble_eq_true rfl) ?_
  refine y_putF (ci := 8) (k := 23) C inX8 tyX8 tyX8_ok nmX8 rfl (by decide) tc_771 rfl hin rfl rfl rfl (Nat.le_of_ble_eq_true rfl) o (Nat.le_refl _) hS (dX8_init_p1 8 rfl) (fun H1 L1 z1 o1 n1 hS => ?_)
  have dn0 := DN_ne dn0 o1 (show 204 < 205 ∨ 222 ≤ 204 by decide)
  have o : va_at D vwCl (n0 + 204, .inr (8, [.ref (n0 + 205), .int 0, .int 0, .ref (n0 + 206), .ref (n0 + 207), .ref (n0 + 208), .ref (n0 + 209), .ref (n0 + 210), .ref (n0 + 211), .ref (n0 + 212), .ref (n0 + 213), .int 0, .int 0, .int 10, .int 0, .ref (n0 + 214), .ref (n0 + 215), .ref (n0 + 216), .ref (n0 + 217), .ref (n0 + 218), .ref (n0 + 219), .int 0, .ref (n0 + 220), .ref (n0 + 221), .int 0, .long 0, .null, .null, .int 0, .long 0, .null, .null, .null, .int 0, .null, .null, .int 0, .null, .int 0, .int 0])) H1 := n1
  have hz := z1.trans hz
  refine lv_aload_n hx hb (dX8_init_p1 9 rfl) rfl (lv_at hl 0 rfl) ?_
  refine lv_bipush (v := 49) hx hb (dX8_init_p1 10 rfl) (by decide) ?_
  refine y_newa (atype := .int) (N := 49) (t0 := 0) (cA := ca 0) (a0 := (49, .inl (fun _ => 0))) C tc_39 rfl (fun h => h) rfl (by decide) (by decide) (Nat.le_of_ble_eq_true rfl) hS hz (Nat.le_of_ble_eq_true rfl) (Nat.le_of_ble_eq_true rfl) (dX8_init_p1 11 rfl) (fun H1 z1 o1 n1 hS => ?_)
  have o := va_at_kept o (o1 (n0 + 204) (Nat.add_lt_add_left (show 204 < 222 by decide) n0))
  have dn0 := DN_lt dn0 o1 (Nat.add_le_add_left (show 222 ≤ 222 by decide) n0)
  have dn0 := DN_app dn0 (DN_one (at_i (k := 222) (N := 49) rfl rfl (fun j _ => (s0_z (by decide)).symm) n1))
  have hz : H1.size = n0 + 223 := z1
  refine W.widen (k := 18) (n := 1123) (Nat.le_of_ble_eq_true rfl) (Nat.le_of_ble_eq_true rfl) ?_
  refine y_putF (ci := 8) (k := 26) C inX8 tyX8 tyX8_ok nmX8 rfl (by decide) tc_774 rfl hin rfl rfl rfl (Nat.le_of_ble_eq_true rfl) o (Nat.le_refl _) hS (dX8_init_p1 12 rfl) (fun H1 L1 z1 o1 n1 hS => ?_)
  have dn0 := DN_ne dn0 o1 (show 204 < 205 ∨ 223 ≤ 204 by decide)
  have o : va_at D vwCl (n0 + 204, .inr (8, [.ref (n0 + 205), .int 0, .int 0, .ref (n0 + 206), .ref (n0 + 207), .ref (n0 + 208), .ref (n0 + 209), .ref (n0 + 210), .ref (n0 + 211), .ref (n0 + 212), .ref (n0 + 213), .int 0, .int 0, .int 10, .int 0, .ref (n0 + 214), .ref (n0 + 215), .ref (n0 + 216), .ref (n0 + 217), .ref (n0 + 218), .ref (n0 + 219), .int 0, .ref (n0 + 220), .ref (n0 + 221), .int 0, .long 0, .ref (n0 + 222), .null, .int 0, .long 0, .null, .null, .null, .int 0, .null, .null, .int 0, .null, .int 0, .int 0])) H1 := n1
  have hz := z1.trans hz
  refine lv_aload_n hx hb (dX8_init_p1 13 rfl) rfl (lv_at hl 0 rfl) ?_
  refine lv_bipush (v := 49) hx hb (dX8_init_p1 14 rfl) (by decide) ?_
  refine y_newa (atype := .long) (N := 49) (t0 := 2) (cA := ca 2) (a0 := (49, .inr (.inl (fun _ => 0)))) C tc_155 rfl (fun h => h) rfl (by decide) (by decide) (Nat.le_of_ble_eq_true rfl) hS hz (Nat.le_of_ble_eq_true rfl) (Nat.le_of_ble_eq_true rfl) (dX8_init_p1 15 rfl) (fun H1 z1 o1 n1 hS => ?_)
  have o := va_at_kept o (o1 (n0 + 204) (Nat.add_lt_add_left (show 204 < 223 by decide) n0))
  have dn0 := DN_lt dn0 o1 (Nat.add_le_add_left (show 223 ≤ 223 by decide) n0)
  have dn0 := DN_app dn0 (DN_one (at_l (k := 223) (N := 49) rfl rfl (fun j _ => rfl) n1))
  have hz : H1.size = n0 + 224 := z1
  refine W.widen (k := 19) (n := 1172) (Nat.le_of_ble_eq_true rfl) (Nat.le_of_ble_eq_true rfl) ?_
  refine y_putF (ci := 8) (k := 27) C inX8 tyX8 tyX8_ok nmX8 rfl (by decide) tc_775 rfl hin rfl rfl rfl (Nat.le_of_ble_eq_true rfl) o (Nat.le_refl _) hS (dX8_init_p1 16 rfl) (fun H1 L1 z1 o1 n1 hS => ?_)
  have dn0 := DN_ne dn0 o1 (show 204 < 205 ∨ 224 ≤ 204 by decide)
  have o : va_at D vwCl (n0 + 204, .inr (8, [.ref (n0 + 205), .int 0, .int 0, .ref (n0 + 206), .ref (n0 + 207), .ref (n0 + 208), .ref (n0 + 209), .ref (n0 + 210), .ref (n0 + 211), .ref (n0 + 212), .ref (n0 + 213), .int 0, .int 0, .int 10, .int 0, .ref (n0 + 214), .ref (n0 + 215), .ref (n0 + 216), .ref (n0 + 217), .ref (n0 + 218), .ref (n0 + 219), .int 0, .ref (n0 + 220), .ref (n0 + 221), .int 0, .long 0, .ref (n0 + 222), .ref (n0 + 223), .int 0, .long 0, .null, .null, .null, .int 0, .null, .null, .int 0, .null, .int 0, .int 0])) H1 := n1
  have hz := z1.trans hz
  refine lv_aload_n hx hb (dX8_init_p1 17 rfl) rfl (lv_at hl 0 rfl) ?_
  refine lv_bipush (v := 7) hx hb (dX8_init_p1 18 rfl) (by decide) ?_
  refine y_newa (atype := .int) (N := 7) (t0 := 0) (cA := ca 0) (a0 := (7, .inl (fun _ => 0))) C tc_39 rfl (fun h => h) rfl (by decide) (by decide) (Nat.le_of_ble_eq_true rfl) hS hz (Nat.le_of_ble_eq_true rfl) (Nat.le_of_ble_eq_true rfl) (dX8_init_p1 19 rfl) (fun H1 z1 o1 n1 hS => ?_)
  have o := va_at_kept o (o1 (n0 + 204) (Nat.add_lt_add_left (show 204 < 224 by decide) n0))
  have dn0 := DN_lt dn0 o1 (Nat.add_le_add_left (show 224 ≤ 224 by decide) n0)
  have dn0 := DN_app dn0 (DN_one (at_i (k := 224) (N := 7) rfl rfl (fun j _ => (s0_z (by decide)).symm) n1))
  have hz : H1.size = n0 + 225 := z1
  refine W.widen (k := 20) (n := 1179) (Nat.le_of_ble_eq_true rfl) (Nat.le_of_ble_eq_true rfl) ?_
  refine y_putF (ci := 8) (k := 30) C inX8 tyX8 tyX8_ok nmX8 rfl (by decide) tc_778 rfl hin rfl rfl rfl (Nat.le_of_ble_eq_true rfl) o (Nat.le_refl _) hS (dX8_init_p1 20 rfl) (fun H1 L1 z1 o1 n1 hS => ?_)
  have dn0 := DN_ne dn0 o1 (show 204 < 205 ∨ 225 ≤ 204 by decide)
  have o : va_at D vwCl (n0 + 204, .inr (8, [.ref (n0 + 205), .int 0, .int 0, .ref (n0 + 206), .ref (n0 + 207), .ref (n0 + 208), .ref (n0 + 209), .ref (n0 + 210), .ref (n0 + 211), .ref (n0 + 212), .ref (n0 + 213), .int 0, .int 0, .int 10, .int 0, .ref (n0 + 214), .ref (n0 + 215), .ref (n0 + 216), .ref (n0 + 217), .ref (n0 + 218), .ref (n0 + 219), .int 0, .ref (n0 + 220), .ref (n0 + 221), .int 0, .long 0, .ref (n0 + 222), .ref (n0 + 223), .int 0, .long 0, .ref (n0 + 224), .null, .null, .int 0, .null, .null, .int 0, .null, .int 0, .int 0])) H1 := n1
  have hz := z1.trans hz
  refine lv_aload_n hx hb (dX8_init_p1 21 rfl) rfl (lv_at hl 0 rfl) ?_
  refine lv_bipush (v := 7) hx hb (dX8_init_p1 22 rfl) (by decide) ?_
  refine y_newa (atype := .int) (N := 7) (t0 := 0) (cA := ca 0) (a0 := (7, .inl (fun _ => 0))) C tc_39 rfl (fun h => h) rfl (by decide) (by decide) (Nat.le_of_ble_eq_true rfl) hS hz (Nat.le_of_ble_eq_true rfl) (Nat.le_of_ble_eq_true rfl) (dX8_init_p1 23 rfl) (fun H1 z1 o1 n1 hS => ?_)
  have o := va_at_kept o (o1 (n0 + 204) (Nat.add_lt_add_left (show 204 < 225 by decide) n0))
  have dn0 := DN_lt dn0 o1 (Nat.add_le_add_left (show 225 ≤ 225 by decide) n0)
  have dn0 := DN_app dn0 (DN_one (at_i (k := 225) (N := 7) rfl rfl (fun j _ => (s0_z (by decide)).symm) n1))
  have hz : H1.size = n0 + 226 := z1
  refine W.widen (k := 21) (n := 1186) (Nat.le_of_ble_eq_true rfl) (Nat.le_of_ble_eq_true rfl) ?_
  refine y_putF (ci := 8) (k := 31) C inX8 tyX8 tyX8_ok nmX8 rfl (by decide) tc_779 rfl hin rfl rfl rfl (Nat.le_of_ble_eq_true rfl) o (Nat.le_refl _) hS (dX8_init_p1 24 rfl) (fun H1 L1 z1 o1 n1 hS => ?_)
  have dn0 := DN_ne dn0 o1 (show 204 < 205 ∨ 226 ≤ 204 by decide)
  have o : va_at D vwCl (n0 + 204, .inr (8, [.ref (n0 + 205), .int 0, .int 0, .ref (n0 + 206), .ref (n0 + 207), .ref (n0 + 208), .ref (n0 + 209), .ref (n0 + 210), .ref (n0 + 211), .ref (n0 + 212), .ref (n0 + 213), .int 0, .int 0, .int 10, .int 0, .ref (n0 + 214), .ref (n0 + 215), .ref (n0 + 216), .ref (n0 + 217), .ref (n0 + 218), .ref (n0 + 219), .int 0, .ref (n0 + 220), .ref (n0 + 221), .int 0, .long 0, .ref (n0 + 222), .ref (n0 + 223), .int 0, .long 0, .ref (n0 + 224), .ref (n0 + 225), .null, .int 0, .null, .null, .int 0, .null, .int 0, .int 0])) H1 := n1
  have hz := z1.trans hz
  refine lv_aload_n hx hb (dX8_init_p1 25 rfl) rfl (lv_at hl 0 rfl) ?_
  refine lv_bipush (v := 7) hx hb (dX8_init_p1 26 rfl) (by decide) ?_
  refine y_newa (atype := .int) (N := 7) (t0 := 0) (cA := ca 0) (a0 := (7, .inl (fun _ => 0))) C tc_39 rfl (fun h => h) rfl (by decide) (by decide) (Nat.le_of_ble_eq_true rfl) hS hz (Nat.le_of_ble_eq_true rfl) (Nat.le_of_ble_eq_true rfl) (dX8_init_p1 27 rfl) (fun H1 z1 o1 n1 hS => ?_)
  have o := va_at_kept o (o1 (n0 + 204) (Nat.add_lt_add_left (show 204 < 226 by decide) n0))
  have dn0 := DN_lt dn0 o1 (Nat.add_le_add_left (show 226 ≤ 226 by decide) n0)
  have dn0 := DN_app dn0 (DN_one (at_i (k := 226) (N := 7) rfl rfl (fun j _ => (s0_z (by decide)).symm) n1))
  have hz : H1.size = n0 + 227 := z1
  refine W.widen (k := 22) (n := 1193) (Nat.le_of_ble_eq_true rfl) (Nat.le_of_ble_eq_true rfl) ?_
  refine y_putF (ci := 8) (k := 32) C inX8 tyX8 tyX8_ok nmX8 rfl (by decide) tc_780 rfl hin rfl rfl rfl (Nat.le_of_ble_eq_true rfl) o (Nat.le_refl _) hS (dX8_init_p1 28 rfl) (fun H1 L1 z1 o1 n1 hS => ?_)
  have dn0 := DN_ne dn0 o1 (show 204 < 205 ∨ 227 ≤ 204 by decide)
  have o : va_at D vwCl (n0 + 204, .inr (8, [.ref (n0 + 205), .int 0, .int 0, .ref (n0 + 206), .ref (n0 + 207), .ref (n0 + 208), .ref (n0 + 209), .ref (n0 + 210), .ref (n0 + 211), .ref (n0 + 212), .ref (n0 + 213), .int 0, .int 0, .int 10, .int 0, .ref (n0 + 214), .ref (n0 + 215), .ref (n0 + 216), .ref (n0 + 217), .ref (n0 + 218), .ref (n0 + 219), .int 0, .ref (n0 + 220), .ref (n0 + 221), .int 0, .long 0, .ref (n0 + 222), .ref (n0 + 223), .int 0, .long 0, .ref (n0 + 224), .ref (n0 + 225), .ref (n0 + 226), .int 0, .null, .null, .int 0, .null, .int 0, .int 0])) H1 := n1
  have hz := z1.trans hz
  refine lv_aload_n hx hb (dX8_init_p1 29 rfl) rfl (lv_at hl 0 rfl) ?_
  refine lv_sipush (v := 200) hx hb (dX8_init_p1 30 rfl) (by decide) ?_
  refine y_newa (atype := .int) (N := 200) (t0 := 0) (cA := ca 0) (a0 := (200, .inl (fun _ => 0))) C tc_39 rfl (fun h => h) rfl (by decide) (by decide) (Nat.le_of_ble_eq_true rfl) hS hz (Nat.le_of_ble_eq_true rfl) (Nat.le_of_ble_eq_true rfl) (dX8_init_p1 31 rfl) (fun H1 z1 o1 n1 hS => ?_)
  have o := va_at_kept o (o1 (n0 + 204) (Nat.add_lt_add_left (show 204 < 227 by decide) n0))
  have dn0 := DN_lt dn0 o1 (Nat.add_le_add_left (show 227 ≤ 227 by decide) n0)
  have dn0 := DN_app dn0 (DN_one (at_i (k := 227) (N := 200) rfl rfl (fun j _ => (s0_z (by decide)).symm) n1))
  have hz : H1.size = n0 + 228 := z1
  refine W.widen (k := 23) (n := 1393) (Nat.le_of_ble_eq_true rfl) (Nat.le_of_ble_eq_true rfl) ?_
  refine y_putF (ci := 8) (k := 34) C inX8 tyX8 tyX8_ok nmX8 rfl (by decide) tc_782 rfl hin rfl rfl rfl (Nat.le_of_ble_eq_true rfl) o (Nat.le_refl _) hS (dX8_init_p1 32 rfl) (fun H1 L1 z1 o1 n1 hS => ?_)
  have dn0 := DN_ne dn0 o1 (show 204 < 205 ∨ 228 ≤ 204 by decide)
  have o : va_at D vwCl (n0 + 204, .inr (8, [.ref (n0 + 205), .int 0, .int 0, .ref (n0 + 206), .ref (n0 + 207), .ref (n0 + 208), .ref (n0 + 209), .ref (n0 + 210), .ref (n0 + 211), .ref (n0 + 212), .ref (n0 + 213), .int 0, .int 0, .int 10, .int 0, .ref (n0 + 214), .ref (n0 + 215), .ref (n0 + 216), .ref (n0 + 217), .ref (n0 + 218), .ref (n0 + 219), .int 0, .ref (n0 + 220), .ref (n0 + 221), .int 0, .long 0, .ref (n0 + 222), .ref (n0 + 223), .int 0, .long 0, .ref (n0 + 224), .ref (n0 + 225), .ref (n0 + 226), .int 0, .ref (n0 + 227), .null, .int 0, .null, .int 0, .int 0])) H1 := n1
  have hz := z1.trans hz
  refine lv_aload_n hx hb (dX8_init_p1 33 rfl) rfl (lv_at hl 0 rfl) ?_
  refine lv_bipush (v := 8) hx hb (dX8_init_p1 34 rfl) (by decide) ?_
  refine y_newa (atype := .int) (N := 8) (t0 := 0) (cA := ca 0) (a0 := (8, .inl (fun _ => 0))) C tc_39 rfl (fun h => h) rfl (by decide) (by decide) (Nat.le_of_ble_eq_true rfl) hS hz (Nat.le_of_ble_eq_true rfl) (Nat.le_of_ble_eq_true rfl) (dX8_init_p1 35 rfl) (fun H1 z1 o1 n1 hS => ?_)
  have o := va_at_kept o (o1 (n0 + 204) (Nat.add_lt_add_left (show 204 < 228 by decide) n0))
  have dn0 := DN_lt dn0 o1 (Nat.add_le_add_left (show 228 ≤ 228 by decide) n0)
  have dn0 := DN_app dn0 (DN_one (at_i (k := 228) (N := 8) rfl rfl (fun j _ => (s0_z (by decide)).symm) n1))
  have hz : H1.size = n0 + 229 := z1
  refine W.widen (k := 24) (n := 1401) (Nat.le_of_ble_eq_true rfl) (Nat.le_of_ble_eq_true rfl) ?_
  refine y_putF (ci := 8) (k := 35) C inX8 tyX8 tyX8_ok nmX8 rfl (by decide) tc_783 rfl hin rfl rfl rfl (Nat.le_of_ble_eq_true rfl) o (Nat.le_refl _) hS (dX8_init_p1 36 rfl) (fun H1 L1 z1 o1 n1 hS => ?_)
  have dn0 := DN_ne dn0 o1 (show 204 < 205 ∨ 229 ≤ 204 by decide)
  have o : va_at D vwCl (n0 + 204, .inr (8, [.ref (n0 + 205), .int 0, .int 0, .ref (n0 + 206), .ref (n0 + 207), .ref (n0 + 208), .ref (n0 + 209), .ref (n0 + 210), .ref (n0 + 211), .ref (n0 + 212), .ref (n0 + 213), .int 0, .int 0, .int 10, .int 0, .ref (n0 + 214), .ref (n0 + 215), .ref (n0 + 216), .ref (n0 + 217), .ref (n0 + 218), .ref (n0 + 219), .int 0, .ref (n0 + 220), .ref (n0 + 221), .int 0, .long 0, .ref (n0 + 222), .ref (n0 + 223), .int 0, .long 0, .ref (n0 + 224), .ref (n0 + 225), .ref (n0 + 226), .int 0, .ref (n0 + 227), .ref (n0 + 228), .int 0, .null, .int 0, .int 0])) H1 := n1
  have hz := z1.trans hz
  refine lv_aload_n hx hb (dX8_init_p1 37 rfl) rfl (lv_at hl 0 rfl) ?_
  refine lv_bipush (v := 8) hx hb (dX8_init_p1 38 rfl) (by decide) ?_
  refine y_newa (atype := .int) (N := 8) (t0 := 0) (cA := ca 0) (a0 := (8, .inl (fun _ => 0))) C tc_39 rfl (fun h => h) rfl (by decide) (by decide) (Nat.le_of_ble_eq_true rfl) hS hz (Nat.le_of_ble_eq_true rfl) (Nat.le_of_ble_eq_true rfl) (dX8_init_p1 39 rfl) (fun H1 z1 o1 n1 hS => ?_)
  have o := va_at_kept o (o1 (n0 + 204) (Nat.add_lt_add_left (show 204 < 229 by decide) n0))
  have dn0 := DN_lt dn0 o1 (Nat.add_le_add_left (show 229 ≤ 229 by decide) n0)
  have dn0 := DN_app dn0 (DN_one (at_i (k := 229) (N := 8) rfl rfl (fun j _ => (s0_z (by decide)).symm) n1))
  have hz : H1.size = n0 + 230 := z1
  refine W.widen (k := 25) (n := 1409) (Nat.le_of_ble_eq_true rfl) (Nat.le_of_ble_eq_true rfl) ?_
  refine y_putF (ci := 8) (k := 37) C inX8 tyX8 tyX8_ok nmX8 rfl (by decide) tc_785 rfl hin rfl rfl rfl (Nat.le_of_ble_eq_true rfl) o (Nat.le_refl _) hS (dX8_init_p1 40 rfl) (fun H1 L1 z1 o1 n1 hS => ?_)
  have dn0 := DN_ne dn0 o1 (show 204 < 205 ∨ 230 ≤ 204 by decide)
  have o : va_at D vwCl (n0 + 204, .inr (8, [.ref (n0 + 205), .int 0, .int 0, .ref (n0 + 206), .ref (n0 + 207), .ref (n0 + 208), .ref (n0 + 209), .ref (n0 + 210), .ref (n0 + 211), .ref (n0 + 212), .ref (n0 + 213), .int 0, .int 0, .int 10, .int 0, .ref (n0 + 214), .ref (n0 + 215), .ref (n0 + 216), .ref (n0 + 217), .ref (n0 + 218), .ref (n0 + 219), .int 0, .ref (n0 + 220), .ref (n0 + 221), .int 0, .long 0, .ref (n0 + 222), .ref (n0 + 223), .int 0, .long 0, .ref (n0 + 224), .ref (n0 + 225), .ref (n0 + 226), .int 0, .ref (n0 + 227), .ref (n0 + 228), .int 0, .ref (n0 + 229), .int 0, .int 0])) H1 := n1
  have hz := z1.trans hz
  exact y_ret C hr hlk hz (DN_app (DN_one (at_o (k := 204) rfl (by decide) rfl o)) (dn0)) hS (dX8_init_p1 41 rfl)
