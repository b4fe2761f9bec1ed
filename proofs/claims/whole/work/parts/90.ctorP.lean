/-! the class's constructor -/
set_option maxHeartbeats 4000000 in
set_option maxRecDepth 100000 in
theorem c_X7_init_0 (l : Launch) (n0 : Nat) (D : va_G) (ca : Nat → ClassId) : CtM l yX7_init cX7_init 2 2 203 3150 [.ref (n0 + 0)] n0 0 204 7 [.null, .null, .int 0, .null, .null, .null, .null, .null, .null, .null] D ca := by
  refine CtM_of (by decide) rfl (Nat.le_of_ble_eq_true rfl) ?_
  intro p e s m below meth c ls C hKM hml hr hlk hin hz o hl
  have hx := C.1
  have hb := C.2.1
  have hS : va_S (fun q => n0 + 0 ≤ q) s.heap s.heap [] := va_S.rf
  have hl : lv_has ls 2 [(0, .ref (n0 + 0))] := hl
  refine lv_aload_n hx hb (dX7_init_p0 0 rfl) rfl (lv_at hl 0 rfl) ?_
  refine y_obj C hml hl.1 tc_18 tc_19 tc_20 (Nat.le_of_ble_eq_true rfl) (Nat.le_of_ble_eq_true rfl) (dX7_init_p0 1 rfl) ?_
  refine lv_aload_n hx hb (dX7_init_p0 2 rfl) rfl (lv_at hl 0 rfl) ?_
  refine y_new (ci := 2) (fs := [.null, .int 0, .null]) C inX2 tyX2 tyX2_ok tc_21 tc_22 tc_2 rfl dfX2 hS hz (Nat.le_of_ble_eq_true rfl) (Nat.le_of_ble_eq_true rfl) (dX7_init_p0 3 rfl) (fun H1 z1 o1 n1 hS => ?_)
  have o := va_at_kept o (o1 (n0 + 0) (Nat.add_lt_add_left (show 0 < 1 by decide) n0))
  have nw : va_at D vwCl (n0 + 1, .inr (2, [.null, .int 0, .null])) H1 := n1
  have hz : H1.size = n0 + 2 := z1
  refine W.widen (k := 1) (n := 3) (Nat.le_of_ble_eq_true rfl) (Nat.le_of_ble_eq_true rfl) ?_
  refine lv_dup hx hb (dX7_init_p0 4 rfl) rfl ?_
  refine y_ctor (As := []) (rest := [.ref (n0 + 1), .ref (n0 + 0)]) (n := 0) C hKM hml hl.1 (c_X2_init_1 l n0 D ca) tc_25 tc_2 tc_23 tc_24 rfl (by decide +kernel) ⟨(Nat.le_of_ble_eq_true rfl), (Nat.le_of_ble_eq_true rfl)⟩ rfl (Nat.le_of_ble_eq_true rfl) hz nw (fun q (h : n0 + 1 ≤ q) => Nat.le_trans (Nat.add_le_add_left (show 0 ≤ 1 by decide) n0) h) hS (Nat.le_of_ble_eq_true rfl) (Nat.le_of_ble_eq_true rfl) rfl (dX7_init_p0 5 rfl) (fun H1 L1 z1 o1 nb hS => ?_)
  have o := va_at_kept o (o1 (n0 + 0) (Nat.add_lt_add_left (show 0 < 1 by decide) n0))
  have dn0 := nb
  have hz : H1.size = n0 + 4 := z1
  refine W.widen (k := 3) (n := 110) (Nat.le_of_ble_eq_true rfl) (Nat.le_of_ble_eq_true rfl) ?_
  refine y_putF (ci := 7) (k := 0) C inX7 tyX7 tyX7_ok nmX7 rfl (by decide) tc_234 rfl hin rfl rfl rfl (Nat.le_of_ble_eq_true rfl) o (Nat.le_refl _) hS (dX7_init_p0 6 rfl) (fun H1 L1 z1 o1 n1 hS => ?_)
  have dn0 := DN_ne dn0 o1 (show 0 < 1 ∨ 4 ≤ 0 by decide)
  have o : va_at D vwCl (n0 + 0, .inr (7, [.ref (n0 + 1), .null, .int 0, .null, .null, .null, .null, .null, .null, .null])) H1 := n1
  have hz := z1.trans hz
  refine lv_aload_n hx hb (dX7_init_p0 7 rfl) rfl (lv_at hl 0 rfl) ?_
  refine lv_iconst (v := 4) hx hb (dX7_init_p0 8 rfl) (by decide) ?_
  refine y_newq (N := 4) (t0 := 5) (cA := ca 5) C tc_40 hKM.2.1.1 rfl (by decide) (by decide) (Nat.le_of_ble_eq_true rfl) hS hz (Nat.le_of_ble_eq_true rfl) (Nat.le_of_ble_eq_true rfl) (dX7_init_p0 9 rfl) (fun H1 z1 o1 n1 hS => ?_)
  have o := va_at_kept o (o1 (n0 + 0) (Nat.add_lt_add_left (show 0 < 4 by decide) n0))
  have dn0 := DN_lt dn0 o1 (Nat.add_le_add_left (show 4 ≤ 4 by decide) n0)
  have s4 : va_at D vwCl (n0 + 4, .inl (ca 5, 4, .inr (.inr (.inr (.inr (fun _ => none)))))) H1 := n1
  have hz : H1.size = n0 + 5 := z1
  refine W.widen (k := 4) (n := 114) (Nat.le_of_ble_eq_true rfl) (Nat.le_of_ble_eq_true rfl) ?_
  refine y_putF (ci := 7) (k := 1) C inX7 tyX7 tyX7_ok nmX7 rfl (by decide) tc_235 rfl hin rfl rfl rfl (Nat.le_of_ble_eq_true rfl) o (Nat.le_refl _) hS (dX7_init_p0 10 rfl) (fun H1 L1 z1 o1 n1 hS => ?_)
  have s4 := va_at_kept s4 (o1 (n0 + 4) (fun h => absurd (Nat.add_left_cancel h) (show ¬ (4 : Nat) = 0 by decide)))
  have dn0 := DN_ne dn0 o1 (show 0 < 1 ∨ 4 ≤ 0 by decide)
  have o : va_at D vwCl (n0 + 0, .inr (7, [.ref (n0 + 1), .ref (n0 + 4), .int 0, .null, .null, .null, .null, .null, .null, .null])) H1 := n1
  have hz := z1.trans hz
  refine lv_iconst (v := 0) hx hb (dX7_init_p0 11 rfl) (by decide) ?_
  refine lv_istore_n (lv' := [(1, .int 0), (0, .ref (n0 + 0))]) hx hb (dX7_init_p0 12 rfl) rfl hl (by decide) rfl (fun ls hl => ?_)
  refine lv_iload_n hx hb (dX7_init_p0 13 rfl) rfl (lv_at hl 0 rfl) ?_
  refine lv_iconst (v := 4) hx hb (dX7_init_p0 14 rfl) (by decide) ?_
  refine lv_icmp_ge (tgt := 49) hx hb (dX7_init_p0 15 rfl) (by decide) (fun z => absurd z (by decide)) (fun _ => ?_)
  refine lv_aload_n hx hb (dX7_init_p0 16 rfl) rfl (lv_at hl 1 rfl) ?_
  refine y_get (ci := 7) (k := 1) C inX7 rfl (by decide) tc_235 o rfl (dX7_init_p0 17 rfl) ?_
  refine lv_iload_n hx hb (dX7_init_p0 18 rfl) rfl (lv_at hl 0 rfl) ?_
  refine y_new (ci := 0) (fs := [.int 0, .null, .null, .null, .null]) C inX0 tyX0 tyX0_ok tc_40 tc_42 tc_3 rfl dfX0 hS hz (Nat.le_of_ble_eq_true rfl) (Nat.le_of_ble_eq_true rfl) (dX7_init_p0 19 rfl) (fun H1 z1 o1 n1 hS => ?_)
  have o := va_at_kept o (o1 (n0 + 0) (Nat.add_lt_add_left (show 0 < 5 by decide) n0))
  have s4 := va_at_kept s4 (o1 (n0 + 4) (Nat.add_lt_add_left (show 4 < 5 by decide) n0))
  have dn0 := DN_lt dn0 o1 (Nat.add_le_add_left (show 4 ≤ 5 by decide) n0)
  have nw : va_at D vwCl (n0 + 5, .inr (0, [.int 0, .null, .null, .null, .null])) H1 := n1
  have hz : H1.size = n0 + 6 := z1
  refine W.widen (k := 5) (n := 119) (Nat.le_of_ble_eq_true rfl) (Nat.le_of_ble_eq_true rfl) ?_
  refine lv_dup hx hb (dX7_init_p0 20 rfl) rfl ?_
  refine y_ctor (As := []) (rest := [.ref (n0 + 5), .int 0, .ref (n0 + 4)]) (n := 0) C hKM hml hl.1 (c_X0_init_5 l n0 D ca) tc_45 tc_3 tc_43 tc_44 rfl (by decide +kernel) ⟨(Nat.le_of_ble_eq_true rfl), (Nat.le_of_ble_eq_true rfl)⟩ rfl (Nat.le_of_ble_eq_true rfl) hz nw (fun q (h : n0 + 5 ≤ q) => Nat.le_trans (Nat.add_le_add_left (show 0 ≤ 5 by decide) n0) h) hS (Nat.le_of_ble_eq_true rfl) (Nat.le_of_ble_eq_true rfl) rfl (dX7_init_p0 21 rfl) (fun H1 L1 z1 o1 nb hS => ?_)
  have o := va_at_kept o (o1 (n0 + 0) (Nat.add_lt_add_left (show 0 < 5 by decide) n0))
  have s4 := va_at_kept s4 (o1 (n0 + 4) (Nat.add_lt_add_left (show 4 < 5 by decide) n0))
  have dn0 := DN_lt dn0 o1 (Nat.add_le_add_left (show 4 ≤ 5 by decide) n0)
  have dn1 := nb
  have hz : H1.size = n0 + 24 := z1
  refine W.widen (k := 23) (n := 245) (Nat.le_of_ble_eq_true rfl) (Nat.le_of_ble_eq_true rfl) ?_
  refine y_astq (r := (RX0, TX0, 5)) (ci := 0) (t0 := 5) C rfl rfl s4 (DN_obj (k := 5) rfl (by decide) (dn1 5 (by decide) (by decide))) (Nat.add_le_add_left (show 0 ≤ 4 by decide) n0) (show vp_in (nI 0) 4 from vp_in_nI (by decide) (by decide)) hS (dX7_init_p0 22 rfl) (fun H1 L1 z1 o1 n1 hS => ?_)
  have o := va_at_kept o (o1 (n0 + 0) (fun h => absurd (Nat.add_left_cancel h) (show ¬ (0 : Nat) = 4 by decide)))
  have dn0 := DN_ne dn0 o1 (show 4 < 1 ∨ 4 ≤ 4 by decide)
  have dn1 := DN_ne dn1 o1 (show 4 < 5 ∨ 24 ≤ 4 by decide)
  have s4 := n1
  have hz := z1.trans hz
  refine lv_iinc (v := 1) (lv' := [(1, .int 1), (0, .ref (n0 + 0))]) hx hb (dX7_init_p0 23 rfl) hl (k := 0) rfl (by decide) (by decide) rfl (fun ls hl => ?_)
  refine lv_goto (tgt := 25) hx hb (dX7_init_p0 24 rfl) (by decide) ?_
  refine lv_iload_n hx hb (dX7_init_p0 13 rfl) rfl (lv_at hl 0 rfl) ?_
  refine lv_iconst (v := 4) hx hb (dX7_init_p0 14 rfl) (by decide) ?_
  refine lv_icmp_ge (tgt := 49) hx hb (dX7_init_p0 15 rfl) (by decide) (fun z => absurd z (by decide)) (fun _ => ?_)
  refine lv_aload_n hx hb (dX7_init_p0 16 rfl) rfl (lv_at hl 1 rfl) ?_
  refine y_get (ci := 7) (k := 1) C inX7 rfl (by decide) tc_235 o rfl (dX7_init_p0 17 rfl) ?_
  refine lv_iload_n hx hb (dX7_init_p0 18 rfl) rfl (lv_at hl 0 rfl) ?_
  refine y_new (ci := 0) (fs := [.int 0, .null, .null, .null, .null]) C inX0 tyX0 tyX0_ok tc_40 tc_42 tc_3 rfl dfX0 hS hz (Nat.le_of_ble_eq_true rfl) (Nat.le_of_ble_eq_true rfl) (dX7_init_p0 19 rfl) (fun H1 z1 o1 n1 hS => ?_)
  have o := va_at_kept o (o1 (n0 + 0) (Nat.add_lt_add_left (show 0 < 24 by decide) n0))
  have s4 := va_at_kept s4 (o1 (n0 + 4) (Nat.add_lt_add_left (show 4 < 24 by decide) n0))
  have dn0 := DN_lt dn0 o1 (Nat.add_le_add_left (show 4 ≤ 24 by decide) n0)
  have dn1 := DN_lt dn1 o1 (Nat.add_le_add_left (show 24 ≤ 24 by decide) n0)
  have nw : va_at D vwCl (n0 + 24, .inr (0, [.int 0, .null, .null, .null, .null])) H1 := n1
  have hz : H1.size = n0 + 25 := z1
  refine W.widen (k := 24) (n := 250) (Nat.le_of_ble_eq_true rfl) (Nat.le_of_ble_eq_true rfl) ?_
  refine lv_dup hx hb (dX7_init_p0 20 rfl) rfl ?_
  refine y_ctor (As := []) (rest := [.ref (n0 + 24), .int 1, .ref (n0 + 4)]) (n := 0) C hKM hml hl.1 (c_X0_init_24 l n0 D ca) tc_45 tc_3 tc_43 tc_44 rfl (by decide +kernel) ⟨(Nat.le_of_ble_eq_true rfl), (Nat.le_of_ble_eq_true rfl)⟩ rfl (Nat.le_of_ble_eq_true rfl) hz nw (fun q (h : n0 + 24 ≤ q) => Nat.le_trans (Nat.add_le_add_left (show 0 ≤ 24 by decide) n0) h) hS (Nat.le_of_ble_eq_true rfl) (Nat.le_of_ble_eq_true rfl) rfl (dX7_init_p0 21 rfl) (fun H1 L1 z1 o1 nb hS => ?_)
  have o := va_at_kept o (o1 (n0 + 0) (Nat.add_lt_add_left (show 0 < 24 by decide) n0))
  have s4 := va_at_kept s4 (o1 (n0 + 4) (Nat.add_lt_add_left (show 4 < 24 by decide) n0))
  have dn0 := DN_lt dn0 o1 (Nat.add_le_add_left (show 4 ≤ 24 by decide) n0)
  have dn1 := DN_lt dn1 o1 (Nat.add_le_add_left (show 24 ≤ 24 by decide) n0)
  have dn1 := DN_app dn1 (nb)
  have hz : H1.size = n0 + 43 := z1
  refine W.widen (k := 42) (n := 376) (Nat.le_of_ble_eq_true rfl) (Nat.le_of_ble_eq_true rfl) ?_
  refine y_astq (r := (RX0, TX0, 5)) (ci := 0) (t0 := 5) C rfl rfl s4 (DN_obj (k := 24) rfl (by decide) (dn1 24 (by decide) (by decide))) (Nat.add_le_add_left (show 0 ≤ 4 by decide) n0) (show vp_in (nI 1) 4 from vp_in_nI (by decide) (by decide)) hS (dX7_init_p0 22 rfl) (fun H1 L1 z1 o1 n1 hS => ?_)
  have o := va_at_kept o (o1 (n0 + 0) (fun h => absurd (Nat.add_left_cancel h) (show ¬ (0 : Nat) = 4 by decide)))
  have dn0 := DN_ne dn0 o1 (show 4 < 1 ∨ 4 ≤ 4 by decide)
  have dn1 := DN_ne dn1 o1 (show 4 < 5 ∨ 43 ≤ 4 by decide)
  have s4 := n1
  have hz := z1.trans hz
  refine lv_iinc (v := 2) (lv' := [(1, .int 2), (0, .ref (n0 + 0))]) hx hb (dX7_init_p0 23 rfl) hl (k := 0) rfl (by decide) (by decide) rfl (fun ls hl => ?_)
  refine lv_goto (tgt := 25) hx hb (dX7_init_p0 24 rfl) (by decide) ?_
  refine lv_iload_n hx hb (dX7_init_p0 13 rfl) rfl (lv_at hl 0 rfl) ?_
  refine lv_iconst (v := 4) hx hb (dX7_init_p0 14 rfl) (by decide) ?_
  refine lv_icmp_ge (tgt := 49) hx hb (dX7_init_p0 15 rfl) (by decide) (fun z => absurd z (by decide)) (fun _ => ?_)
  refine lv_aload_n hx hb (dX7_init_p0 16 rfl) rfl (lv_at hl 1 rfl) ?_
  refine y_get (ci := 7) (k := 1) C inX7 rfl (by decide) tc_235 o rfl (dX7_init_p0 17 rfl) ?_
  refine lv_iload_n hx hb (dX7_init_p0 18 rfl) rfl (lv_at hl 0 rfl) ?_
  refine y_new (ci := 0) (fs := [.int 0, .null, .null, .null, .null]) C inX0 tyX0 tyX0_ok tc_40 tc_42 tc_3 rfl dfX0 hS hz (Nat.le_of_ble_eq_true rfl) (Nat.le_of_ble_eq_true rfl) (dX7_init_p0 19 rfl) (fun H1 z1 o1 n1 hS => ?_)
  have o := va_at_kept o (o1 (n0 + 0) (Nat.add_lt_add_left (show 0 < 43 by decide) n0))
  have s4 := va_at_kept s4 (o1 (n0 + 4) (Nat.add_lt_add_left (show 4 < 43 by decide) n0))
  have dn0 := DN_lt dn0 o1 (Nat.add_le_add_left (show 4 ≤ 43 by decide) n0)
  have dn1 := DN_lt dn1 o1 (Nat.add_le_add_left (show 43 ≤ 43 by decide) n0)
  have nw : va_at D vwCl (n0 + 43, .inr (0, [.int 0, .null, .null, .null, .null])) H1 := n1
  have hz : H1.size = n0 + 44 := z1
  refine W.widen (k := 43) (n := 381) (Nat.le_of_ble_eq_true rfl) (Nat.le_of_ble_eq_true rfl) ?_
  refine lv_dup hx hb (dX7_init_p0 20 rfl) rfl ?_
  refine y_ctor (As := []) (rest := [.ref (n0 + 43), .int 2, .ref (n0 + 4)]) (n := 0) C hKM hml hl.1 (c_X0_init_43 l n0 D ca) tc_45 tc_3 tc_43 tc_44 rfl (by decide +kernel) ⟨(Nat.le_of_ble_eq_true rfl), (Nat.le_of_ble_eq_true rfl)⟩ rfl (Nat.le_of_ble_eq_true rfl) hz nw (fun q (h : n0 + 43 ≤ q) => Nat.le_trans (Nat.add_le_add_left (show 0 ≤ 43 by decide) n0) h) hS (Nat.le_of_ble_eq_true rfl) (Nat.le_of_ble_eq_true rfl) rfl (dX7_init_p0 21 rfl) (fun H1 L1 z1 o1 nb hS => ?_)
  have o := va_at_kept o (o1 (n0 + 0) (Nat.add_lt_add_left (show 0 < 43 by decide) n0))
  have s4 := va_at_kept s4 (o1 (n0 + 4) (Nat.add_lt_add_left (show 4 < 43 by decide) n0))
  have dn0 := DN_lt dn0 o1 (Nat.add_le_add_left (show 4 ≤ 43 by decide) n0)
  have dn1 := DN_lt dn1 o1 (Nat.add_le_add_left (show 43 ≤ 43 by decide) n0)
  have dn1 := DN_app dn1 (nb)
  have hz : H1.size = n0 + 62 := z1
  refine W.widen (k := 61) (n := 507) (Nat.le_of_ble_eq_true rfl) (Nat.le_of_ble_eq_true rfl) ?_
  refine y_astq (r := (RX0, TX0, 5)) (ci := 0) (t0 := 5) C rfl rfl s4 (DN_obj (k := 43) rfl (by decide) (dn1 43 (by decide) (by decide))) (Nat.add_le_add_left (show 0 ≤ 4 by decide) n0) (show vp_in (nI 2) 4 from vp_in_nI (by decide) (by decide)) hS (dX7_init_p0 22 rfl) (fun H1 L1 z1 o1 n1 hS => ?_)
  have o := va_at_kept o (o1 (n0 + 0) (fun h => absurd (Nat.add_left_cancel h) (show ¬ (0 : Nat) = 4 by decide)))
  have dn0 := DN_ne dn0 o1 (show 4 < 1 ∨ 4 ≤ 4 by decide)
  have dn1 := DN_ne dn1 o1 (show 4 < 5 ∨ 62 ≤ 4 by decide)
  have s4 := n1
  have hz := z1.trans hz
  refine lv_iinc (v := 3) (lv' := [(1, .int 3), (0, .ref (n0 + 0))]) hx hb (dX7_init_p0 23 rfl) hl (k := 0) rfl (by decide) (by decide) rfl (fun ls hl => ?_)
  refine lv_goto (tgt := 25) hx hb (dX7_init_p0 24 rfl) (by decide) ?_
  refine lv_iload_n hx hb (dX7_init_p0 13 rfl) rfl (lv_at hl 0 rfl) ?_
  refine lv_iconst (v := 4) hx hb (dX7_init_p0 14 rfl) (by decide) ?_
  refine lv_icmp_ge (tgt := 49) hx hb (dX7_init_p0 15 rfl) (by decide) (fun z => absurd z (by decide)) (fun _ => ?_)
  refine lv_aload_n hx hb (dX7_init_p0 16 rfl) rfl (lv_at hl 1 rfl) ?_
  refine y_get (ci := 7) (k := 1) C inX7 rfl (by decide) tc_235 o rfl (dX7_init_p0 17 rfl) ?_
  refine lv_iload_n hx hb (dX7_init_p0 18 rfl) rfl (lv_at hl 0 rfl) ?_
  refine y_new (ci := 0) (fs := [.int 0, .null, .null, .null, .null]) C inX0 tyX0 tyX0_ok tc_40 tc_42 tc_3 rfl dfX0 hS hz (Nat.le_of_ble_eq_true rfl) (Nat.le_of_ble_eq_true rfl) (dX7_init_p0 19 rfl) (fun H1 z1 o1 n1 hS => ?_)
  have o := va_at_kept o (o1 (n0 + 0) (Nat.add_lt_add_left (show 0 < 62 by decide) n0))
  have s4 := va_at_kept s4 (o1 (n0 + 4) (Nat.add_lt_add_left (show 4 < 62 by decide) n0))
  have dn0 := DN_lt dn0 o1 (Nat.add_le_add_left (show 4 ≤ 62 by decide) n0)
  have dn1 := DN_lt dn1 o1 (Nat.add_le_add_left (show 62 ≤ 62 by decide) n0)
  have nw : va_at D vwCl (n0 + 62, .inr (0, [.int 0, .null, .null, .null, .null])) H1 := n1
  have hz : H1.size = n0 + 63 := z1
  refine W.widen (k := 62) (n := 512) (Nat.le_of_ble_eq_true rfl) (Nat.le_of_ble_eq_true rfl) ?_
  refine lv_dup hx hb (dX7_init_p0 20 rfl) rfl ?_
  refine y_ctor (As := []) (rest := [.ref (n0 + 62), .int 3, .ref (n0 + 4)]) (n := 0) C hKM hml hl.1 (c_X0_init_62 l n0 D ca) tc_45 tc_3 tc_43 tc_44 rfl (by decide +kernel) ⟨(Nat.le_of_ble_eq_true rfl), (Nat.le_of_ble_eq_true rfl)⟩ rfl (Nat.le_of_ble_eq_true rfl) hz nw (fun q (h : n0 + 62 ≤ q) => Nat.le_trans (Nat.add_le_add_left (show 0 ≤ 62 by decide) n0) h) hS (Nat.le_of_ble_eq_true rfl) (Nat.le_of_ble_eq_true rfl) rfl (dX7_init_p0 21 rfl) (fun H1 L1 z1 o1 nb hS => ?_)
  have o := va_at_kept o (o1 (n0 + 0) (Nat.add_lt_add_left (show 0 < 62 by decide) n0))
  have s4 := va_at_kept s4 (o1 (n0 + 4) (Nat.add_lt_add_left (show 4 < 62 by decide) n0))
  have dn0 := DN_lt dn0 o1 (Nat.add_le_add_left (show 4 ≤ 62 by decide) n0)
  have dn1 := DN_lt dn1 o1 (Nat.add_le_add_left (show 62 ≤ 62 by decide) n0)
  have dn1 := DN_app dn1 (nb)
  have hz : H1.size = n0 + 81 := z1
  refine W.widen (k := 80) (n := 638) (Nat.le_of_ble_eq_true rfl) (Nat.le_of_ble_eq_true rfl) ?_
  refine y_astq (r := (RX0, TX0, 5)) (ci := 0) (t0 := 5) C rfl rfl s4 (DN_obj (k := 62) rfl (by decide) (dn1 62 (by decide) (by decide))) (Nat.add_le_add_left (show 0 ≤ 4 by decide) n0) (show vp_in (nI 3) 4 from vp_in_nI (by decide) (by decide)) hS (dX7_init_p0 22 rfl) (fun H1 L1 z1 o1 n1 hS => ?_)
  have o := va_at_kept o (o1 (n0 + 0) (fun h => absurd (Nat.add_left_cancel h) (show ¬ (0 : Nat) = 4 by decide)))
  have dn0 := DN_ne dn0 o1 (show 4 < 1 ∨ 4 ≤ 4 by decide)
  have dn1 := DN_ne dn1 o1 (show 4 < 5 ∨ 81 ≤ 4 by decide)
  have s4 := n1
  have hz := z1.trans hz
  refine lv_iinc (v := 4) (lv' := [(1, .int 4), (0, .ref (n0 + 0))]) hx hb (dX7_init_p0 23 rfl) hl (k := 0) rfl (by decide) (by decide) rfl (fun ls hl => ?_)
  refine lv_goto (tgt := 25) hx hb (dX7_init_p0 24 rfl) (by decide) ?_
  refine lv_iload_n hx hb (dX7_init_p0 13 rfl) rfl (lv_at hl 0 rfl) ?_
  refine lv_iconst (v := 4) hx hb (dX7_init_p0 14 rfl) (by decide) ?_
  refine lv_icmp_ge (tgt := 49) hx hb (dX7_init_p0 15 rfl) (by decide) (fun _ => ?_) (fun z => absurd (by decide) z)
  refine lv_aload_n hx hb (dX7_init_p0 25 rfl) rfl (lv_at hl 1 rfl) ?_
  refine lv_iconst (v := 0) hx hb (dX7_init_p0 26 rfl) (by decide) ?_
  refine y_put (ci := 7) (k := 2) C inX7 tyX7 tyX7_ok nmX7 rfl (by decide) tc_236 rfl rfl rfl (Nat.le_of_ble_eq_true rfl) o (Nat.le_refl _) hS (dX7_init_p0 27 rfl) (fun H1 L1 z1 o1 n1 hS => ?_)
  have s4 := va_at_kept s4 (o1 (n0 + 4) (fun h => absurd (Nat.add_left_cancel h) (show ¬ (4 : Nat) = 0 by decide)))
  have dn0 := DN_ne dn0 o1 (show 0 < 1 ∨ 4 ≤ 0 by decide)
  have dn1 := DN_ne dn1 o1 (show 0 < 5 ∨ 81 ≤ 0 by decide)
  have o : va_at D vwCl (n0 + 0, .inr (7, [.ref (n0 + 1), .ref (n0 + 4), .int 0, .null, .null, .null, .null, .null, .null, .null])) H1 := n1
  have hz := z1.trans hz
  refine lv_aload_n hx hb (dX7_init_p0 28 rfl) rfl (lv_at hl 1 rfl) ?_
  refine y_new (ci := 6) (fs := [.null, .null]) C inX6 tyX6 tyX6_ok tc_73 tc_74 tc_4 rfl dfX6 hS hz (Nat.le_of_ble_eq_true rfl) (Nat.le_of_ble_eq_true rfl) (dX7_init_p0 29 rfl) (fun H1 z1 o1 n1 hS => ?_)
  have o := va_at_kept o (o1 (n0 + 0) (Nat.add_lt_add_left (show 0 < 81 by decide) n0))
  have s4 := va_at_kept s4 (o1 (n0 + 4) (Nat.add_lt_add_left (show 4 < 81 by decide) n0))
  have dn0 := DN_lt dn0 o1 (Nat.add_le_add_left (show 4 ≤ 81 by decide) n0)
  have dn1 := DN_lt dn1 o1 (Nat.add_le_add_left (show 81 ≤ 81 by decide) n0)
  have nw : va_at D vwCl (n0 + 81, .inr (6, [.null, .null])) H1 := n1
  have hz : H1.size = n0 + 82 := z1
  refine W.widen (k := 81) (n := 640) (Nat.le_of_ble_eq_true rfl) (Nat.le_of_ble_eq_true rfl) ?_
  refine lv_dup hx hb (dX7_init_p0 30 rfl) rfl ?_
  refine y_ctor (As := []) (rest := [.ref (n0 + 81), .ref (n0 + 0)]) (n := 0) C hKM hml hl.1 (c_X6_init_81 l n0 D ca) tc_77 tc_4 tc_75 tc_76 rfl (by decide +kernel) ⟨(Nat.le_of_ble_eq_true rfl), (Nat.le_of_ble_eq_true rfl)⟩ rfl (Nat.le_of_ble_eq_true rfl) hz nw (fun q (h : n0 + 81 ≤ q) => Nat.le_trans (Nat.add_le_add_left (show 0 ≤ 81 by decide) n0) h) hS (Nat.le_of_ble_eq_true rfl) (Nat.le_of_ble_eq_true rfl) rfl (dX7_init_p0 31 rfl) (fun H1 L1 z1 o1 nb hS => ?_)
  have o := va_at_kept o (o1 (n0 + 0) (Nat.add_lt_add_left (show 0 < 81 by decide) n0))
  have s4 := va_at_kept s4 (o1 (n0 + 4) (Nat.add_lt_add_left (show 4 < 81 by decide) n0))
  have dn0 := DN_lt dn0 o1 (Nat.add_le_add_left (show 4 ≤ 81 by decide) n0)
  have dn1 := DN_lt dn1 o1 (Nat.add_le_add_left (show 81 ≤ 81 by decide) n0)
  have dn1 := DN_app dn1 (nb)
  have hz : H1.size = n0 + 95 := z1
  refine W.widen (k := 94) (n := 737) (Nat.le_of_ble_eq_true rfl) (Nat.le_of_ble_eq_true rfl) ?_
  refine y_putF (ci := 7) (k := 3) C inX7 tyX7 tyX7_ok nmX7 rfl (by decide) tc_237 rfl hin rfl rfl rfl (Nat.le_of_ble_eq_true rfl) o (Nat.le_refl _) hS (dX7_init_p0 32 rfl) (fun H1 L1 z1 o1 n1 hS => ?_)
  have s4 := va_at_kept s4 (o1 (n0 + 4) (fun h => absurd (Nat.add_left_cancel h) (show ¬ (4 : Nat) = 0 by decide)))
  have dn0 := DN_ne dn0 o1 (show 0 < 1 ∨ 4 ≤ 0 by decide)
  have dn1 := DN_ne dn1 o1 (show 0 < 5 ∨ 95 ≤ 0 by decide)
  have o : va_at D vwCl (n0 + 0, .inr (7, [.ref (n0 + 1), .ref (n0 + 4), .int 0, .ref (n0 + 81), .null, .null, .null, .null, .null, .null])) H1 := n1
  have hz := z1.trans hz
  refine lv_aload_n hx hb (dX7_init_p0 33 rfl) rfl (lv_at hl 1 rfl) ?_
  refine lv_iconst (v := 2) hx hb (dX7_init_p0 34 rfl) (by decide) ?_
  refine y_newq (N := 2) (t0 := 6) (cA := ca 6) C tc_73 hKM.2.1.2 rfl (by decide) (by decide) (Nat.le_of_ble_eq_true rfl) hS hz (Nat.le_of_ble_eq_true rfl) (Nat.le_of_ble_eq_true rfl) (dX7_init_p0 35 rfl) (fun H1 z1 o1 n1 hS => ?_)
  have o := va_at_kept o (o1 (n0 + 0) (Nat.add_lt_add_left (show 0 < 95 by decide) n0))
  have s4 := va_at_kept s4 (o1 (n0 + 4) (Nat.add_lt_add_left (show 4 < 95 by decide) n0))
  have dn0 := DN_lt dn0 o1 (Nat.add_le_add_left (show 4 ≤ 95 by decide) n0)
  have dn1 := DN_lt dn1 o1 (Nat.add_le_add_left (show 95 ≤ 95 by decide) n0)
  have s95 : va_at D vwCl (n0 + 95, .inl (ca 6, 2, .inr (.inr (.inr (.inr (fun _ => none)))))) H1 := n1
  have hz : H1.size = n0 + 96 := z1
  refine W.widen (k := 95) (n := 739) (Nat.le_of_ble_eq_true rfl) (Nat.le_of_ble_eq_true rfl) ?_
  refine y_putF (ci := 7) (k := 4) C inX7 tyX7 tyX7_ok nmX7 rfl (by decide) tc_238 rfl hin rfl rfl rfl (Nat.le_of_ble_eq_true rfl) o (Nat.le_refl _) hS (dX7_init_p0 36 rfl) (fun H1 L1 z1 o1 n1 hS => ?_)
  have s4 := va_at_kept s4 (o1 (n0 + 4) (fun h => absurd (Nat.add_left_cancel h) (show ¬ (4 : Nat) = 0 by decide)))
  have s95 := va_at_kept s95 (o1 (n0 + 95) (fun h => absurd (Nat.add_left_cancel h) (show ¬ (95 : Nat) = 0 by decide)))
  have dn0 := DN_ne dn0 o1 (show 0 < 1 ∨ 4 ≤ 0 by decide)
  have dn1 := DN_ne dn1 o1 (show 0 < 5 ∨ 95 ≤ 0 by decide)
  have o : va_at D vwCl (n0 + 0, .inr (7, [.ref (n0 + 1), .ref (n0 + 4), .int 0, .ref (n0 + 81), .ref (n0 + 95), .null, .null, .null, .null, .null])) H1 := n1
  have hz := z1.trans hz
  refine lv_iconst (v := 0) hx hb (dX7_init_p0 37 rfl) (by decide) ?_
  refine lv_istore_n (lv' := [(1, .int 0), (0, .ref (n0 + 0))]) hx hb (dX7_init_p0 38 rfl) rfl hl (by decide) rfl (fun ls hl => ?_)
  refine lv_iload_n hx hb (dX7_init_p0 39 rfl) rfl (lv_at hl 0 rfl) ?_
  refine lv_iconst (v := 2) hx hb (dX7_init_p0 40 rfl) (by decide) ?_
  refine lv_icmp_ge (tgt := 99) hx hb (dX7_init_p0 41 rfl) (by decide) (fun z => absurd z (by decide)) (fun _ => ?_)
  refine lv_aload_n hx hb (dX7_init_p0 42 rfl) rfl (lv_at hl 1 rfl) ?_
  refine y_get (ci := 7) (k := 4) C inX7 rfl (by decide) tc_238 o rfl (dX7_init_p0 43 rfl) ?_
  refine lv_iload_n hx hb (dX7_init_p0 44 rfl) rfl (lv_at hl 0 rfl) ?_
  refine y_new (ci := 6) (fs := [.null, .null]) C inX6 tyX6 tyX6_ok tc_73 tc_74 tc_4 rfl dfX6 hS hz (Nat.le_of_ble_eq_true rfl) (Nat.le_of_ble_eq_true rfl) (dX7_init_p0 45 rfl) (fun H1 z1 o1 n1 hS => ?_)
  have o := va_at_kept o (o1 (n0 + 0) (Nat.add_lt_add_left (show 0 < 96 by decide) n0))
  have s4 := va_at_kept s4 (o1 (n0 + 4) (Nat.add_lt_add_left (show 4 < 96 by decide) n0))
  have s95 := va_at_kept s95 (o1 (n0 + 95) (Nat.add_lt_add_left (show 95 < 96 by decide) n0))
  have dn0 := DN_lt dn0 o1 (Nat.add_le_add_left (show 4 ≤ 96 by decide) n0)
  have dn1 := DN_lt dn1 o1 (Nat.add_le_add_left (show 95 ≤ 96 by decide) n0)
  have nw : va_at D vwCl (n0 + 96, .inr (6, [.null, .null])) H1 := n1
  have hz : H1.size = n0 + 97 := z1
  refine W.widen (k := 96) (n := 741) (Nat.le_of_ble_eq_true rfl) (Nat.le_of_ble_eq_true rfl) ?_
  refine lv_dup hx hb (dX7_init_p0 46 rfl) rfl ?_
  refine y_ctor (As := []) (rest := [.ref (n0 + 96), .int 0, .ref (n0 + 95)]) (n := 0) C hKM hml hl.1 (c_X6_init_96 l n0 D ca) tc_77 tc_4 tc_75 tc_76 rfl (by decide +kernel) ⟨(Nat.le_of_ble_eq_true rfl), (Nat.le_of_ble_eq_true rfl)⟩ rfl (Nat.le_of_ble_eq_true rfl) hz nw (fun q (h : n0 + 96 ≤ q) => Nat.le_trans (Nat.add_le_add_left (show 0 ≤ 96 by decide) n0) h) hS (Nat.le_of_ble_eq_true rfl) (Nat.le_of_ble_eq_true rfl) rfl (dX7_init_p0 47 rfl) (fun H1 L1 z1 o1 nb hS => ?_)
  have o := va_at_kept o (o1 (n0 + 0) (Nat.add_lt_add_left (show 0 < 96 by decide) n0))
  have s4 := va_at_kept s4 (o1 (n0 + 4) (Nat.add_lt_add_left (show 4 < 96 by decide) n0))
  have s95 := va_at_kept s95 (o1 (n0 + 95) (Nat.add_lt_add_left (show 95 < 96 by decide) n0))
  have dn0 := DN_lt dn0 o1 (Nat.add_le_add_left (show 4 ≤ 96 by decide) n0)
  have dn1 := DN_lt dn1 o1 (Nat.add_le_add_left (show 95 ≤ 96 by decide) n0)
  have dn2 := nb
  have hz : H1.size = n0 + 110 := z1
  refine W.widen (k := 109) (n := 838) (Nat.le_of_ble_eq_true rfl) (Nat.le_of_ble_eq_true rfl) ?_
  refine y_astq (r := (RX6, TX6, 2)) (ci := 6) (t0 := 6) C rfl rfl s95 (DN_obj (k := 96) rfl (by decide) (dn2 96 (by decide) (by decide))) (Nat.add_le_add_left (show 0 ≤ 95 by decide) n0) (show vp_in (nI 0) 2 from vp_in_nI (by decide) (by decide)) hS (dX7_init_p0 48 rfl) (fun H1 L1 z1 o1 n1 hS => ?_)
  have o := va_at_kept o (o1 (n0 + 0) (fun h => absurd (Nat.add_left_cancel h) (show ¬ (0 : Nat) = 95 by decide)))
  have s4 := va_at_kept s4 (o1 (n0 + 4) (fun h => absurd (Nat.add_left_cancel h) (show ¬ (4 : Nat) = 95 by decide)))
  have dn0 := DN_ne dn0 o1 (show 95 < 1 ∨ 4 ≤ 95 by decide)
  have dn1 := DN_ne dn1 o1 (show 95 < 5 ∨ 95 ≤ 95 by decide)
  have dn2 := DN_ne dn2 o1 (show 95 < 96 ∨ 110 ≤ 95 by decide)
  have s95 := n1
  have hz := z1.trans hz
  refine lv_iinc (v := 1) (lv' := [(1, .int 1), (0, .ref (n0 + 0))]) hx hb (dX7_init_p0 49 rfl) hl (k := 0) rfl (by decide) (by decide) rfl (fun ls hl => ?_)
  refine lv_goto (tgt := 75) hx hb (dX7_init_p0 50 rfl) (by decide) ?_
  refine lv_iload_n hx hb (dX7_init_p0 39 rfl) rfl (lv_at hl 0 rfl) ?_
  refine lv_iconst (v := 2) hx hb (dX7_init_p0 40 rfl) (by decide) ?_
  refine lv_icmp_ge (tgt := 99) hx hb (dX7_init_p0 41 rfl) (by decide) (fun z => absurd z (by decide)) (fun _ => ?_)
  refine lv_aload_n hx hb (dX7_init_p0 42 rfl) rfl (lv_at hl 1 rfl) ?_
  refine y_get (ci := 7) (k := 4) C inX7 rfl (by decide) tc_238 o rfl (dX7_init_p0 43 rfl) ?_
  refine lv_iload_n hx hb (dX7_init_p0 44 rfl) rfl (lv_at hl 0 rfl) ?_
  refine y_new (ci := 6) (fs := [.null, .null]) C inX6 tyX6 tyX6_ok tc_73 tc_74 tc_4 rfl dfX6 hS hz (Nat.le_of_ble_eq_true rfl) (Nat.le_of_ble_eq_true rfl) (dX7_init_p0 45 rfl) (fun H1 z1 o1 n1 hS => ?_)
  have o := va_at_kept o (o1 (n0 + 0) (Nat.add_lt_add_left (show 0 < 110 by decide) n0))
  have s4 := va_at_kept s4 (o1 (n0 + 4) (Nat.add_lt_add_left (show 4 < 110 by decide) n0))
  have s95 := va_at_kept s95 (o1 (n0 + 95) (Nat.add_lt_add_left (show 95 < 110 by decide) n0))
  have dn0 := DN_lt dn0 o1 (Nat.add_le_add_left (show 4 ≤ 110 by decide) n0)
  have dn1 := DN_lt dn1 o1 (Nat.add_le_add_left (show 95 ≤ 110 by decide) n0)
  have dn2 := DN_lt dn2 o1 (Nat.add_le_add_left (show 110 ≤ 110 by decide) n0)
  have nw : va_at D vwCl (n0 + 110, .inr (6, [.null, .null])) H1 := n1
  have hz : H1.size = n0 + 111 := z1
  refine W.widen (k := 110) (n := 840) (Nat.le_of_ble_eq_true rfl) (Nat.le_of_ble_eq_true rfl) ?_
  refine lv_dup hx hb (dX7_init_p0 46 rfl) rfl ?_
  refine y_ctor (As := []) (rest := [.ref (n0 + 110), .int 1, .ref (n0 + 95)]) (n := 0) C hKM hml hl.1 (c_X6_init_110 l n0 D ca) tc_77 tc_4 tc_75 tc_76 rfl (by decide +kernel) ⟨(Nat.le_of_ble_eq_true rfl), (Nat.le_of_ble_eq_true rfl)⟩ rfl (Nat.le_of_ble_eq_true rfl) hz nw (fun q (h : n0 + 110 ≤ q) => Nat.le_trans (Nat.add_le_add_left (show 0 ≤ 110 by decide) n0) h) hS (Nat.le_of_ble_eq_true rfl) (Nat.le_of_ble_eq_true rfl) rfl (dX7_init_p0 47 rfl) (fun H1 L1 z1 o1 nb hS => ?_)
  have o := va_at_kept o (o1 (n0 + 0) (Nat.add_lt_add_left (show 0 < 110 by decide) n0))
  have s4 := va_at_kept s4 (o1 (n0 + 4) (Nat.add_lt_add_left (show 4 < 110 by decide) n0))
  have s95 := va_at_kept s95 (o1 (n0 + 95) (Nat.add_lt_add_left (show 95 < 110 by decide) n0))
  have dn0 := DN_lt dn0 o1 (Nat.add_le_add_left (show 4 ≤ 110 by decide) n0)
  have dn1 := DN_lt dn1 o1 (Nat.add_le_add_left (show 95 ≤ 110 by decide) n0)
  have dn2 := DN_lt dn2 o1 (Nat.add_le_add_left (show 110 ≤ 110 by decide) n0)
  have dn2 := DN_app dn2 (nb)
  have hz : H1.size = n0 + 124 := z1
  refine W.widen (k := 123) (n := 937) (Nat.le_of_ble_eq_true rfl) (Nat.le_of_ble_eq_true rfl) ?_
  refine y_astq (r := (RX6, TX6, 2)) (ci := 6) (t0 := 6) C rfl rfl s95 (DN_obj (k := 110) rfl (by decide) (dn2 110 (by decide) (by decide))) (Nat.add_le_add_left (show 0 ≤ 95 by decide) n0) (show vp_in (nI 1) 2 from vp_in_nI (by decide) (by decide)) hS (dX7_init_p0 48 rfl) (fun H1 L1 z1 o1 n1 hS => ?_)
  have o := va_at_kept o (o1 (n0 + 0) (fun h => absurd (Nat.add_left_cancel h) (show ¬ (0 : Nat) = 95 by decide)))
  have s4 := va_at_kept s4 (o1 (n0 + 4) (fun h => absurd (Nat.add_left_cancel h) (show ¬ (4 : Nat) = 95 by decide)))
  have dn0 := DN_ne dn0 o1 (show 95 < 1 ∨ 4 ≤ 95 by decide)
  have dn1 := DN_ne dn1 o1 (show 95 < 5 ∨ 95 ≤ 95 by decide)
  have dn2 := DN_ne dn2 o1 (show 95 < 96 ∨ 124 ≤ 95 by decide)
  have s95 := n1
  have hz := z1.trans hz
  refine lv_iinc (v := 2) (lv' := [(1, .int 2), (0, .ref (n0 + 0))]) hx hb (dX7_init_p0 49 rfl) hl (k := 0) rfl (by decide) (by decide) rfl (fun ls hl => ?_)
  refine lv_goto (tgt := 75) hx hb (dX7_init_p0 50 rfl) (by decide) ?_
  refine lv_iload_n hx hb (dX7_init_p0 39 rfl) rfl (lv_at hl 0 rfl) ?_
  refine lv_iconst (v := 2) hx hb (dX7_init_p0 40 rfl) (by decide) ?_
  refine lv_icmp_ge (tgt := 99) hx hb (dX7_init_p0 41 rfl) (by decide) (fun _ => ?_) (fun z => absurd (by decide) z)
  refine lv_aload_n hx hb (dX7_init_p0 51 rfl) rfl (lv_at hl 1 rfl) ?_
  refine lv_iconst (v := 2) hx hb (dX7_init_p0 52 rfl) (by decide) ?_
  refine y_newa (atype := .boolean) (N := 2) (t0 := 1) (cA := ca 1) (a0 := (2, .inl (fun _ => 0))) C tc_113 rfl (fun h => h) rfl (by decide) (by decide) (Nat.le_of_ble_eq_true rfl) hS hz (Nat.le_of_ble_eq_true rfl) (Nat.le_of_ble_eq_true rfl) (dX7_init_p0 53 rfl) (fun H1 z1 o1 n1 hS => ?_)
  have o := va_at_kept o (o1 (n0 + 0) (Nat.add_lt_add_left (show 0 < 124 by decide) n0))
  have s4 := va_at_kept s4 (o1 (n0 + 4) (Nat.add_lt_add_left (show 4 < 124 by decide) n0))
  have s95 := va_at_kept s95 (o1 (n0 + 95) (Nat.add_lt_add_left (show 95 < 124 by decide) n0))
  have dn0 := DN_lt dn0 o1 (Nat.add_le_add_left (show 4 ≤ 124 by decide) n0)
  have dn1 := DN_lt dn1 o1 (Nat.add_le_add_left (show 95 ≤ 124 by decide) n0)
  have dn2 := DN_lt dn2 o1 (Nat.add_le_add_left (show 124 ≤ 124 by decide) n0)
  have dn2 := DN_app dn2 (DN_one (at_z (k := 124) (N := 2) rfl rfl (fun j _ => (s0_z (by decide)).symm) n1))
  have hz : H1.size = n0 + 125 := z1
  refine W.widen (k := 124) (n := 939) (Nat.le_of_ble_eq_true rfl) (Nat.le_of_ble_eq_true rfl) ?_
  refine y_putF (ci := 7) (k := 5) C inX7 tyX7 tyX7_ok nmX7 rfl (by decide) tc_239 rfl hin rfl rfl rfl (Nat.le_of_ble_eq_true rfl) o (Nat.le_refl _) hS (dX7_init_p0 54 rfl) (fun H1 L1 z1 o1 n1 hS => ?_)
  have s4 := va_at_kept s4 (o1 (n0 + 4) (fun h => absurd (Nat.add_left_cancel h) (show ¬ (4 : Nat) = 0 by decide)))
  have s95 := va_at_kept s95 (o1 (n0 + 95) (fun h => absurd (Nat.add_left_cancel h) (show ¬ (95 : Nat) = 0 by decide)))
  have dn0 := DN_ne dn0 o1 (show 0 < 1 ∨ 4 ≤ 0 by decide)
  have dn1 := DN_ne dn1 o1 (show 0 < 5 ∨ 95 ≤ 0 by decide)
  have dn2 := DN_ne dn2 o1 (show 0 < 96 ∨ 125 ≤ 0 by decide)
  have o : va_at D vwCl (n0 + 0, .inr (7, [.ref (n0 + 1), .ref (n0 + 4), .int 0, .ref (n0 + 81), .ref (n0 + 95), .ref (n0 + 124), .null, .null, .null, .null])) H1 := n1
  have hz := z1.trans hz
  refine lv_aload_n hx hb (dX7_init_p0 55 rfl) rfl (lv_at hl 1 rfl) ?_
  refine y_new (ci := 1) (fs := [.int 0, .int 0, .int 0]) C inX1 tyX1 tyX1_ok tc_90 tc_91 tc_5 rfl dfX1 hS hz (Nat.le_of_ble_eq_true rfl) (Nat.le_of_ble_eq_true rfl) (dX7_init_p0 56 rfl) (fun H1 z1 o1 n1 hS => ?_)
  have o := va_at_kept o (o1 (n0 + 0) (Nat.add_lt_add_left (show 0 < 125 by decide) n0))
  have s4 := va_at_kept s4 (o1 (n0 + 4) (Nat.add_lt_add_left (show 4 < 125 by decide) n0))
  have s95 := va_at_kept s95 (o1 (n0 + 95) (Nat.add_lt_add_left (show 95 < 125 by decide) n0))
  have dn0 := DN_lt dn0 o1 (Nat.add_le_add_left (show 4 ≤ 125 by decide) n0)
  have dn1 := DN_lt dn1 o1 (Nat.add_le_add_left (show 95 ≤ 125 by decide) n0)
  have dn2 := DN_lt dn2 o1 (Nat.add_le_add_left (show 125 ≤ 125 by decide) n0)
  have nw : va_at D vwCl (n0 + 125, .inr (1, [.int 0, .int 0, .int 0])) H1 := n1
  have hz : H1.size = n0 + 126 := z1
  refine W.widen (k := 125) (n := 942) (Nat.le_of_ble_eq_true rfl) (Nat.le_of_ble_eq_true rfl) ?_
  refine lv_dup hx hb (dX7_init_p0 57 rfl) rfl ?_
  refine y_ctor (As := []) (rest := [.ref (n0 + 125), .ref (n0 + 0)]) (n := 0) C hKM hml hl.1 (c_X1_init_125 l n0 D ca) tc_94 tc_5 tc_92 tc_93 rfl (by decide +kernel) ⟨(Nat.le_of_ble_eq_true rfl), (Nat.le_of_ble_eq_true rfl)⟩ rfl (Nat.le_of_ble_eq_true rfl) hz nw (fun q (h : n0 + 125 ≤ q) => Nat.le_trans (Nat.add_le_add_left (show 0 ≤ 125 by decide) n0) h) hS (Nat.le_of_ble_eq_true rfl) (Nat.le_of_ble_eq_true rfl) rfl (dX7_init_p0 58 rfl) (fun H1 L1 z1 o1 nb hS => ?_)
  have o := va_at_kept o (o1 (n0 + 0) (Nat.add_lt_add_left (show 0 < 125 by decide) n0))
  have s4 := va_at_kept s4 (o1 (n0 + 4) (Nat.add_lt_add_left (show 4 < 125 by decide) n0))
  have s95 := va_at_kept s95 (o1 (n0 + 95) (Nat.add_lt_add_left (show 95 < 125 by decide) n0))
  have dn0 := DN_lt dn0 o1 (Nat.add_le_add_left (show 4 ≤ 125 by decide) n0)
  have dn1 := DN_lt dn1 o1 (Nat.add_le_add_left (show 95 ≤ 125 by decide) n0)
  have dn2 := DN_lt dn2 o1 (Nat.add_le_add_left (show 125 ≤ 125 by decide) n0)
  have dn2 := DN_app dn2 (nb)
  have hz : H1.size = n0 + 126 := z1
  refine W.widen (k := 125) (n := 942) (Nat.le_of_ble_eq_true rfl) (Nat.le_of_ble_eq_true rfl) ?_
  refine y_putF (ci := 7) (k := 6) C inX7 tyX7 tyX7_ok nmX7 rfl (by decide) tc_240 rfl hin rfl rfl rfl (Nat.le_of_ble_eq_true rfl) o (Nat.le_refl _) hS (dX7_init_p0 59 rfl) (fun H1 L1 z1 o1 n1 hS => ?_)
  have s4 := va_at_kept s4 (o1 (n0 + 4) (fun h => absurd (Nat.add_left_cancel h) (show ¬ (4 : Nat) = 0 by decide)))
  have s95 := va_at_kept s95 (o1 (n0 + 95) (fun h => absurd (Nat.add_left_cancel h) (show ¬ (95 : Nat) = 0 by decide)))
  have dn0 := DN_ne dn0 o1 (show 0 < 1 ∨ 4 ≤ 0 by decide)
  have dn1 := DN_ne dn1 o1 (show 0 < 5 ∨ 95 ≤ 0 by decide)
  have dn2 := DN_ne dn2 o1 (show 0 < 96 ∨ 126 ≤ 0 by decide)
  have o : va_at D vwCl (n0 + 0, .inr (7, [.ref (n0 + 1), .ref (n0 + 4), .int 0, .ref (n0 + 81), .ref (n0 + 95), .ref (n0 + 124), .ref (n0 + 125), .null, .null, .null])) H1 := n1
  have hz := z1.trans hz
  refine lv_aload_n hx hb (dX7_init_p0 60 rfl) rfl (lv_at hl 1 rfl) ?_
  refine y_new (ci := 4) (fs := [.null, .int 0, .null, .null, .null, .null, .null, .null, .int 0, .int 0]) C inX4 tyX4 tyX4_ok tc_114 tc_115 tc_6 rfl dfX4 hS hz (Nat.le_of_ble_eq_true rfl) (Nat.le_of_ble_eq_true rfl) (dX7_init_p0 61 rfl) (fun H1 z1 o1 n1 hS => ?_)
  have o := va_at_kept o (o1 (n0 + 0) (Nat.add_lt_add_left (show 0 < 126 by decide) n0))
  have s4 := va_at_kept s4 (o1 (n0 + 4) (Nat.add_lt_add_left (show 4 < 126 by decide) n0))
  have s95 := va_at_kept s95 (o1 (n0 + 95) (Nat.add_lt_add_left (show 95 < 126 by decide) n0))
  have dn0 := DN_lt dn0 o1 (Nat.add_le_add_left (show 4 ≤ 126 by decide) n0)
  have dn1 := DN_lt dn1 o1 (Nat.add_le_add_left (show 95 ≤ 126 by decide) n0)
  have dn2 := DN_lt dn2 o1 (Nat.add_le_add_left (show 126 ≤ 126 by decide) n0)
  have nw : va_at D vwCl (n0 + 126, .inr (4, [.null, .int 0, .null, .null, .null, .null, .null, .null, .int 0, .int 0])) H1 := n1
  have hz : H1.size = n0 + 127 := z1
  refine W.widen (k := 126) (n := 952) (Nat.le_of_ble_eq_true rfl) (Nat.le_of_ble_eq_true rfl) ?_
  refine lv_dup hx hb (dX7_init_p0 62 rfl) rfl ?_
  refine lv_aload_n hx hb (dX7_init_p0 63 rfl) rfl (lv_at hl 1 rfl) ?_
  refine y_get (ci := 7) (k := 6) C inX7 rfl (by decide) tc_240 o rfl (dX7_init_p1 0 rfl) ?_
  refine y_ctor (As := [.ref (n0 + 125)]) (rest := [.ref (n0 + 126), .ref (n0 + 0)]) (n := 1) C hKM hml hl.1 (c_X4_init_126 l n0 D ca) tc_118 tc_6 tc_116 tc_117 rfl (by decide +kernel) ⟨(Nat.le_of_ble_eq_true rfl), (Nat.le_of_ble_eq_true rfl)⟩ rfl (Nat.le_of_ble_eq_true rfl) hz nw (fun q (h : n0 + 126 ≤ q) => Nat.le_trans (Nat.add_le_add_left (show 0 ≤ 126 by decide) n0) h) hS (Nat.le_of_ble_eq_true rfl) (Nat.le_of_ble_eq_true rfl) rfl (dX7_init_p1 1 rfl) (fun H1 L1 z1 o1 nb hS => ?_)
  have o := va_at_kept o (o1 (n0 + 0) (Nat.add_lt_add_left (show 0 < 126 by decide) n0))
  have s4 := va_at_kept s4 (o1 (n0 + 4) (Nat.add_lt_add_left (show 4 < 126 by decide) n0))
  have s95 := va_at_kept s95 (o1 (n0 + 95) (Nat.add_lt_add_left (show 95 < 126 by decide) n0))
  have dn0 := DN_lt dn0 o1 (Nat.add_le_add_left (show 4 ≤ 126 by decide) n0)
  have dn1 := DN_lt dn1 o1 (Nat.add_le_add_left (show 95 ≤ 126 by decide) n0)
  have dn2 := DN_lt dn2 o1 (Nat.add_le_add_left (show 126 ≤ 126 by decide) n0)
  have dn2 := DN_app dn2 (nb)
  have hz : H1.size = n0 + 147 := z1
  refine W.widen (k := 146) (n := 1092) (Nat.le_of_ble_eq_true rfl) (Nat.le_of_ble_eq_true rfl) ?_
  refine y_putF (ci := 7) (k := 7) C inX7 tyX7 tyX7_ok nmX7 rfl (by decide) tc_241 rfl hin rfl rfl rfl (Nat.le_of_ble_eq_true rfl) o (Nat.le_refl _) hS (dX7_init_p1 2 rfl) (fun H1 L1 z1 o1 n1 hS => ?_)
  have s4 := va_at_kept s4 (o1 (n0 + 4) (fun h => absurd (Nat.add_left_cancel h) (show ¬ (4 : Nat) = 0 by decide)))
  have s95 := va_at_kept s95 (o1 (n0 + 95) (fun h => absurd (Nat.add_left_cancel h) (show ¬ (95 : Nat) = 0 by decide)))
  have dn0 := DN_ne dn0 o1 (show 0 < 1 ∨ 4 ≤ 0 by decide)
  have dn1 := DN_ne dn1 o1 (show 0 < 5 ∨ 95 ≤ 0 by decide)
  have dn2 := DN_ne dn2 o1 (show 0 < 96 ∨ 147 ≤ 0 by decide)
  have o : va_at D vwCl (n0 + 0, .inr (7, [.ref (n0 + 1), .ref (n0 + 4), .int 0, .ref (n0 + 81), .ref (n0 + 95), .ref (n0 + 124), .ref (n0 + 125), .ref (n0 + 126), .null, .null])) H1 := n1
  have hz := z1.trans hz
  refine lv_aload_n hx hb (dX7_init_p1 3 rfl) rfl (lv_at hl 1 rfl) ?_
  refine y_new (ci := 5) (fs := [.null, .int 0, .null, .null, .null, .null, .null, .null]) C inX5 tyX5 tyX5_ok tc_156 tc_157 tc_7 rfl dfX5 hS hz (Nat.le_of_ble_eq_true rfl) (Nat.le_of_ble_eq_true rfl) (dX7_init_p1 4 rfl) (fun H1 z1 o1 n1 hS => ?_)
  have o := va_at_kept o (o1 (n0 + 0) (Nat.add_lt_add_left (show 0 < 147 by decide) n0))
  have s4 := va_at_kept s4 (o1 (n0 + 4) (Nat.add_lt_add_left (show 4 < 147 by decide) n0))
  have s95 := va_at_kept s95 (o1 (n0 + 95) (Nat.add_lt_add_left (show 95 < 147 by decide) n0))
  have dn0 := DN_lt dn0 o1 (Nat.add_le_add_left (show 4 ≤ 147 by decide) n0)
  have dn1 := DN_lt dn1 o1 (Nat.add_le_add_left (show 95 ≤ 147 by decide) n0)
  have dn2 := DN_lt dn2 o1 (Nat.add_le_add_left (show 147 ≤ 147 by decide) n0)
  have nw : va_at D vwCl (n0 + 147, .inr (5, [.null, .int 0, .null, .null, .null, .null, .null, .null])) H1 := n1
  have hz : H1.size = n0 + 148 := z1
  refine W.widen (k := 147) (n := 1100) (Nat.le_of_ble_eq_true rfl) (Nat.le_of_ble_eq_true rfl) ?_
  refine lv_dup hx hb (dX7_init_p1 5 rfl) rfl ?_
  refine lv_aload_n hx hb (dX7_init_p1 6 rfl) rfl (lv_at hl 1 rfl) ?_
  refine y_get (ci := 7) (k := 6) C inX7 rfl (by decide) tc_240 o rfl (dX7_init_p1 7 rfl) ?_
  refine y_ctor (As := [.ref (n0 + 125)]) (rest := [.ref (n0 + 147), .ref (n0 + 0)]) (n := 1) C hKM hml hl.1 (c_X5_init_147 l n0 D ca) tc_160 tc_7 tc_158 tc_159 rfl (by decide +kernel) ⟨(Nat.le_of_ble_eq_true rfl), (Nat.le_of_ble_eq_true rfl)⟩ rfl (Nat.le_of_ble_eq_true rfl) hz nw (fun q (h : n0 + 147 ≤ q) => Nat.le_trans (Nat.add_le_add_left (show 0 ≤ 147 by decide) n0) h) hS (Nat.le_of_ble_eq_true rfl) (Nat.le_of_ble_eq_true rfl) rfl (dX7_init_p1 8 rfl) (fun H1 L1 z1 o1 nb hS => ?_)
  have o := va_at_kept o (o1 (n0 + 0) (Nat.add_lt_add_left (show 0 < 147 by decide) n0))
  have s4 := va_at_kept s4 (o1 (n0 + 4) (Nat.add_lt_add_left (show 4 < 147 by decide) n0))
  have s95 := va_at_kept s95 (o1 (n0 + 95) (Nat.add_lt_add_left (show 95 < 147 by decide) n0))
  have dn0 := DN_lt dn0 o1 (Nat.add_le_add_left (show 4 ≤ 147 by decide) n0)
  have dn1 := DN_lt dn1 o1 (Nat.add_le_add_left (show 95 ≤ 147 by decide) n0)
  have dn2 := DN_lt dn2 o1 (Nat.add_le_add_left (show 147 ≤ 147 by decide) n0)
  have dn2 := DN_app dn2 (nb)
  have hz : H1.size = n0 + 196 := z1
  refine W.widen (k := 195) (n := 3032) (Nat.le_of_ble_eq_true rfl) (Nat.le_of_ble_eq_true rfl) ?_
  refine y_putF (ci := 7) (k := 8) C inX7 tyX7 tyX7_ok nmX7 rfl (by decide) tc_242 rfl hin rfl rfl rfl (Nat.le_of_ble_eq_true rfl) o (Nat.le_refl _) hS (dX7_init_p1 9 rfl) (fun H1 L1 z1 o1 n1 hS => ?_)
  have s4 := va_at_kept s4 (o1 (n0 + 4) (fun h => absurd (Nat.add_left_cancel h) (show ¬ (4 : Nat) = 0 by decide)))
  have s95 := va_at_kept s95 (o1 (n0 + 95) (fun h => absurd (Nat.add_left_cancel h) (show ¬ (95 : Nat) = 0 by decide)))
  have dn0 := DN_ne dn0 o1 (show 0 < 1 ∨ 4 ≤ 0 by decide)
  have dn1 := DN_ne dn1 o1 (show 0 < 5 ∨ 95 ≤ 0 by decide)
  have dn2 := DN_ne dn2 o1 (show 0 < 96 ∨ 196 ≤ 0 by decide)
  have o : va_at D vwCl (n0 + 0, .inr (7, [.ref (n0 + 1), .ref (n0 + 4), .int 0, .ref (n0 + 81), .ref (n0 + 95), .ref (n0 + 124), .ref (n0 + 125), .ref (n0 + 126), .ref (n0 + 147), .null])) H1 := n1
  have hz := z1.trans hz
  refine lv_aload_n hx hb (dX7_init_p1 10 rfl) rfl (lv_at hl 1 rfl) ?_
  refine y_new (ci := 3) (fs := [.int 0, .null, .null, .int 0, .null, .null, .int 0, .null, .int 0, .null, .int 0, .null]) C inX3 tyX3 tyX3_ok tc_188 tc_189 tc_8 rfl dfX3 hS hz (Nat.le_of_ble_eq_true rfl) (Nat.le_of_ble_eq_true rfl) (dX7_init_p1 11 rfl) (fun H1 z1 o1 n1 hS => ?_)
  have o := va_at_kept o (o1 (n0 + 0) (Nat.add_lt_add_left (show 0 < 196 by decide) n0))
  have s4 := va_at_kept s4 (o1 (n0 + 4) (Nat.add_lt_add_left (show 4 < 196 by decide) n0))
  have s95 := va_at_kept s95 (o1 (n0 + 95) (Nat.add_lt_add_left (show 95 < 196 by decide) n0))
  have dn0 := DN_lt dn0 o1 (Nat.add_le_add_left (show 4 ≤ 196 by decide) n0)
  have dn1 := DN_lt dn1 o1 (Nat.add_le_add_left (show 95 ≤ 196 by decide) n0)
  have dn2 := DN_lt dn2 o1 (Nat.add_le_add_left (show 196 ≤ 196 by decide) n0)
  have nw : va_at D vwCl (n0 + 196, .inr (3, [.int 0, .null, .null, .int 0, .null, .null, .int 0, .null, .int 0, .null, .int 0, .null])) H1 := n1
  have hz : H1.size = n0 + 197 := z1
  refine W.widen (k := 196) (n := 3044) (Nat.le_of_ble_eq_true rfl) (Nat.le_of_ble_eq_true rfl) ?_
  refine lv_dup hx hb (dX7_init_p1 12 rfl) rfl ?_
  refine y_ctor (As := []) (rest := [.ref (n0 + 196), .ref (n0 + 0)]) (n := 0) C hKM hml hl.1 (c_X3_init_196 l n0 D ca) tc_192 tc_8 tc_190 tc_191 rfl (by decide +kernel) ⟨(Nat.le_of_ble_eq_true rfl), (Nat.le_of_ble_eq_true rfl)⟩ rfl (Nat.le_of_ble_eq_true rfl) hz nw (fun q (h : n0 + 196 ≤ q) => Nat.le_trans (Nat.add_le_add_left (show 0 ≤ 196 by decide) n0) h) hS (Nat.le_of_ble_eq_true rfl) (Nat.le_of_ble_eq_true rfl) rfl (dX7_init_p1 13 rfl) (fun H1 L1 z1 o1 nb hS => ?_)
  have o := va_at_kept o (o1 (n0 + 0) (Nat.add_lt_add_left (show 0 < 196 by decide) n0))
  have s4 := va_at_kept s4 (o1 (n0 + 4) (Nat.add_lt_add_left (show 4 < 196 by decide) n0))
  have s95 := va_at_kept s95 (o1 (n0 + 95) (Nat.add_lt_add_left (show 95 < 196 by decide) n0))
  have dn0 := DN_lt dn0 o1 (Nat.add_le_add_left (show 4 ≤ 196 by decide) n0)
  have dn1 := DN_lt dn1 o1 (Nat.add_le_add_left (show 95 ≤ 196 by decide) n0)
  have dn2 := DN_lt dn2 o1 (Nat.add_le_add_left (show 196 ≤ 196 by decide) n0)
  have dn2 := DN_app dn2 (nb)
  have hz : H1.size = n0 + 204 := z1
  refine W.widen (k := 203) (n := 3150) (Nat.le_of_ble_eq_true rfl) (Nat.le_of_ble_eq_true rfl) ?_
  refine y_putF (ci := 7) (k := 9) C inX7 tyX7 tyX7_ok nmX7 rfl (by decide) tc_243 rfl hin rfl rfl rfl (Nat.le_of_ble_eq_true rfl) o (Nat.le_refl _) hS (dX7_init_p1 14 rfl) (fun H1 L1 z1 o1 n1 hS => ?_)
  have s4 := va_at_kept s4 (o1 (n0 + 4) (fun h => absurd (Nat.add_left_cancel h) (show ¬ (4 : Nat) = 0 by decide)))
  have s95 := va_at_kept s95 (o1 (n0 + 95) (fun h => absurd (Nat.add_left_cancel h) (show ¬ (95 : Nat) = 0 by decide)))
  have dn0 := DN_ne dn0 o1 (show 0 < 1 ∨ 4 ≤ 0 by decide)
  have dn1 := DN_ne dn1 o1 (show 0 < 5 ∨ 95 ≤ 0 by decide)
  have dn2 := DN_ne dn2 o1 (show 0 < 96 ∨ 204 ≤ 0 by decide)
  have o : va_at D vwCl (n0 + 0, .inr (7, [.ref (n0 + 1), .ref (n0 + 4), .int 0, .ref (n0 + 81), .ref (n0 + 95), .ref (n0 + 124), .ref (n0 + 125), .ref (n0 + 126), .ref (n0 + 147), .ref (n0 + 196)])) H1 := n1
  have hz := z1.trans hz
  exact y_ret C hr hlk hz (DN_app (DN_one (at_o (k := 0) rfl (by decide) rfl o)) (DN_app (dn0) (DN_app (DN_one (at_q (k := 4) (N := 4) (c := 15) rfl (by decide) rfl (fun j hj => by match j, hj with | 0, _ => rfl | 1, _ => rfl | 2, _ => rfl | 3, _ => rfl) s4)) (DN_app (dn1) (DN_app (DN_one (at_q (k := 95) (N := 2) (c := 16) rfl (by decide) rfl (fun j hj => by match j, hj with | 0, _ => rfl | 1, _ => rfl) s95)) (dn2)))))) hS (dX7_init_p1 15 rfl)
