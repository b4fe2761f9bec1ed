/-! THE CLAIM -/
/-! THE CLAIM OUT OF ONE WALK OF THE LAW'S BODY. Your part is whole_start (and what it stands on); all else here is the same for every law, but numbers. -/
def R_law : String := "ArcFactoredParserLaw"
def lw_P (b : Addr) (xs : List Int32) (args : Array Value) (s : State) : Prop := args = #[.ref b] ∧ s.IntsAt b xs ∧ xs.length ≤ 2560 ∧ (Jvm.Cond.and given_1 narrow_1).before args s = true
def lw_Q (_ : Array Value) (s : State) (o : Outcome) (t : State) : Prop := o = .returned (some (.int 1)) ∧ Framed s o t [] 600000 7302250
def lw_Z (below : List Frame) (a : Array Value) (s : State) : State → Prop := fun t => ∃ o, t.status = .running ∧ Ended t below o ∧ lw_Q a s o t
/-- the law's own end, with 1 on the stack, nothing written that was there before, its room as the claim has it -/
theorem lw_ret {p : Program} {l : Launch} {e : Env} {s : State} {m : MethodId} {below : List Frame} {meth : Method} {c : Code} {b : Nat} (hx : p.tables.exec = Jvm.exec) (hb : c.code = code) (hr : meth.sig.returnType = ret) (hlocks : meth.locks = false) {pc : Nat} {H : Heap} {ls : Array Slot} (hdg : decode code pc = .ok (.ireturn, 1)) : W p l e room_1 s m #[Value.ref b] below meth c H [] 600000 7302250 (lw_Z below #[Value.ref b] s) (F0 m pc ls [.int 1]) := by
  intro T hT X
  obtain ⟨fs, hret, hrun, hended, hW, hframe⟩ := X.leave (v := some (.int 1)) (hlocks := hlocks) (fun h => by rw [hr] at h; cases h)
  have hmeth' : T.vm.method? m = some meth := X.method'
  refine ⟨T.setFrames fs, ?_, .returned (some (.int 1)), hrun, hended, rfl, ⟨_, rfl⟩, hW, hframe⟩
  jvm_step X.here [X.here.top, hx, hb, hdg, hmeth', hr, ret, narrow_b1]
  (try refine ⟨rfl, ?_⟩); (try refine ⟨rfl, ?_⟩)
  first | (intro acts; rw [hret _ acts rfl rfl rfl]) | rw [hret _ _ rfl rfl rfl]
  exact Steps.refl _
/-- what holds at the law's entry: the machine, the code, the tables' words (any of lw_tbl by 'hts w (by decide +kernel)'), the script of L ints xs at the cell b, what the Statement gives of the start (any of its parts by flat_of_before) -/
def lw_At (p : Program) (s : State) (m : MethodId) (meth : Method) (c : Code) (b L : Nat) (xs : Nat → Int32) : Prop :=
  p.tables.exec = Jvm.exec ∧ c.code = code ∧ meth.sig.returnType = ret ∧ c.maxLocals = 4 ∧ s.vm.findClass R_law = some m.cls ∧ (∀ w ∈ lw_tbl, w.before #[Value.ref b] s = true) ∧ va_X b L xs s s.heap ∧ b < s.heap.size ∧ meth.locks = false ∧ (Jvm.Cond.and given_1 narrow_1).before #[Value.ref b] s = true
set_option maxHeartbeats 4000000 in
set_option maxRecDepth 100000 in
/-- the law, from its entry: both constructors, then the loop -/
theorem whole_start {p : Program} {e : Env} {s : State} {m : MethodId} {below : List Frame} {meth : Method} {c : Code} (l : Launch) (hflags : l.flags = flags0) {b L : Nat} {xs : Nat → Int32} (hL : L ≤ 2560) (C0 : lw_At p s m meth c b L xs) : W p l e room_1 s m #[Value.ref b] below meth c s.heap [] 0 0 (lw_Z below #[Value.ref b] s) (entryFrame m ([Value.ref b] : List Value).toArray 4) := by
  obtain ⟨hx, hb, hr, hml, hown, hts0, hX, hbl, hlocks, hgv⟩ := id C0
  have hts : ∀ w ∈ gtbl, w.before #[Value.ref b] s = true := fun w h => hts0 w (List.mem_filter.mp h).1
  obtain ⟨c0, i0, k0⟩ := u_known (C := RX0) (T := TX0) (N := 5) (n := 5) hts inX0 (hts _ tc_42)
  obtain ⟨c1, i1, k1⟩ := u_known (C := RX1) (T := TX1) (N := 3) (n := 3) hts inX1 (hts _ tc_91)
  obtain ⟨c2, i2, k2⟩ := u_known (C := RX2) (T := TX2) (N := 3) (n := 3) hts inX2 (hts _ tc_22)
  obtain ⟨c3, i3, k3⟩ := u_known (C := RX3) (T := TX3) (N := 12) (n := 12) hts inX3 (hts _ tc_189)
  obtain ⟨c4, i4, k4⟩ := u_known (C := RX4) (T := TX4) (N := 10) (n := 10) hts inX4 (hts _ tc_115)
  obtain ⟨c5, i5, k5⟩ := u_known (C := RX5) (T := TX5) (N := 8) (n := 8) hts inX5 (hts _ tc_157)
  obtain ⟨c6, i6, k6⟩ := u_known (C := RX6) (T := TX6) (N := 2) (n := 2) hts inX6 (hts _ tc_74)
  obtain ⟨c7, i7, k7⟩ := u_known (C := RX7) (T := TX7) (N := 10) (n := 10) hts inX7 (hts _ tc_14)
  obtain ⟨c8, i8, k8⟩ := u_known (C := RX8) (T := TX8) (N := 40) (n := 40) hts inX8 (hts _ tc_743)
  obtain ⟨D, hKc⟩ : ∃ D : va_G, ∀ (k : Nat) (q : vw_C), vwCl[k]? = some q → u_Kn s q.1 q.2.1 q.2.2 (D.1 k) (D.2 k) := by
    refine ⟨(fun k => ([c0, c1, c2, c3, c4, c5, c6, c7, c8] : List ClassId).getD k c0, fun k => ([i0, i1, i2, i3, i4, i5, i6, i7, i8] : List (Nat → Nat)).getD k i0), ?_⟩
    intro k q hq
    match k, hq with
    | 0, hq => cases hq; exact k0
    | 1, hq => cases hq; exact k1
    | 2, hq => cases hq; exact k2
    | 3, hq => cases hq; exact k3
    | 4, hq => cases hq; exact k4
    | 5, hq => cases hq; exact k5
    | 6, hq => cases hq; exact k6
    | 7, hq => cases hq; exact k7
    | 8, hq => cases hq; exact k8
    | k + 9, hq => simp [vwCl] at hq
  obtain ⟨a0, ka0, m0, f0, g0, e0⟩ := Cond.arrayClass_spec (hts _ tc_39)
  obtain ⟨a1, ka1, m1, f1, g1, e1⟩ := Cond.arrayClass_spec (hts _ tc_113)
  obtain ⟨a2, ka2, m2, f2, g2, e2⟩ := Cond.arrayClass_spec (hts _ tc_155)
  have ao3 := hts0 (Cond.arrayOver (.array .int)) (List.mem_append_right _ (List.mem_of_getElem? (i := 48) rfl))
  have ao4 := hts0 (Cond.arrayOver (.array .long)) (List.mem_append_right _ (List.mem_of_getElem? (i := 121) rfl))
  have ao5 := hts0 (Cond.arrayOver (.object RX0)) (List.mem_append_right _ (List.mem_of_getElem? (i := 41) rfl))
  have ao6 := hts0 (Cond.arrayOver (.object RX6)) (List.mem_append_right _ (List.mem_of_getElem? (i := 89) rfl))
  obtain ⟨m3, a3, ka3, p3, _, g3, e3, f3⟩ := arrayOverA_spec ao3
  obtain ⟨m4, a4, ka4, p4, _, g4, e4, f4⟩ := arrayOverA_spec ao4
  obtain ⟨m5, a5, ka5, p5, _, g5, e5, f5⟩ := Cond.arrayOver_spec ao5
  obtain ⟨m6, a6, ka6, p6, _, g6, e6, f6⟩ := Cond.arrayOver_spec ao6
  obtain ⟨ca, hK⟩ : ∃ ca : Nat → ClassId, va_K D vwCl (tysL ca) s := by
    refine ⟨fun k => ([a0, a1, a2, a3, a4, a5, a6] : List ClassId).getD k a0, hKc, ?_⟩
    intro k q hq
    match k, hq with
    | 0, hq => cases hq; exact ⟨fun N z => ⟨fun q h => (by cases h), ka0, g0, m0, e0⟩, f0⟩
    | 1, hq => cases hq; exact ⟨fun N z => ⟨fun q h => (by cases h), ka1, g1, m1, e1⟩, f1⟩
    | 2, hq => cases hq; exact ⟨fun N z => ⟨fun q h => (by cases h), ka2, g2, m2, e2⟩, f2⟩
    | 3, hq => cases hq; exact ⟨fun N z => ⟨fun q h => (by cases h), ka3, g3, m3, e3⟩, f3⟩
    | 4, hq => cases hq; exact ⟨fun N z => ⟨fun q h => (by cases h), ka4, g4, m4, e4⟩, f4⟩
    | 5, hq => cases hq; exact ⟨fun N z => ⟨fun q h => (by cases h), ka5, g5, m5, e5⟩, ka5, m5, g5, e5, p5, f5⟩
    | 6, hq => cases hq; exact ⟨fun N z => ⟨fun q h => (by cases h), ka6, g6, m6, e6⟩, ka6, m6, g6, e6, p6, f6⟩
    | k + 7, hq => simp [tysL] at hq
  have hKM : KM D ca s := ⟨hK, ⟨va_AO.of ao5, va_AO.of ao6⟩, ao3, ao4⟩
  have C : MC p s m #[Value.ref b] c cL_law RL D ca := ⟨hx, hb, hown, hts, hK⟩
  have hAn : ∀ a : Nat, a < s.heap.size → ¬ (fun q : Nat => s.heap.size ≤ q) a := fun a h => Nat.not_le.mpr h
  have hs := flat_of_before _ hgv
  have harr : (Cond.arrayOf (.static RX4 "PLACES" "[I") .int).before #[Value.ref b] s = true := hs _ (by decide +kernel)
  have hlen : (Cond.eq (.length (.static RX4 "PLACES" "[I")) (.int 7)).before #[Value.ref b] s = true := hs _ (by decide +kernel)
  have hp0 : (Cond.eq (.elem (.static RX4 "PLACES" "[I") (.int 0)) (.int 0)).before #[Value.ref b] s = true := hs _ (by decide +kernel)
  have hp1 : (Cond.eq (.elem (.static RX4 "PLACES" "[I") (.int 1)) (.int 16807)).before #[Value.ref b] s = true := hs _ (by decide +kernel)
  have hp2 : (Cond.eq (.elem (.static RX4 "PLACES" "[I") (.int 2)) (.int 2401)).before #[Value.ref b] s = true := hs _ (by decide +kernel)
  have hp3 : (Cond.eq (.elem (.static RX4 "PLACES" "[I") (.int 3)) (.int 343)).before #[Value.ref b] s = true := hs _ (by decide +kernel)
  have hp4 : (Cond.eq (.elem (.static RX4 "PLACES" "[I") (.int 4)) (.int 49)).before #[Value.ref b] s = true := hs _ (by decide +kernel)
  have hp5 : (Cond.eq (.elem (.static RX4 "PLACES" "[I") (.int 5)) (.int 7)).before #[Value.ref b] s = true := hs _ (by decide +kernel)
  have hp6 : (Cond.eq (.elem (.static RX4 "PLACES" "[I") (.int 6)) (.int 1)).before #[Value.ref b] s = true := hs _ (by decide +kernel)
  obtain ⟨t, ht, hT⟩ := va_Tof (N := 7) (f := fun j => .int (plv j)) (A := fun q : Nat => s.heap.size ≤ q) (by decide) harr (va_eqt hlen) (fun j hj => by
    match j, hj with
    | 0, _ => exact va_eqt hp0
    | 1, _ => exact va_eqt hp1
    | 2, _ => exact va_eqt hp2
    | 3, _ => exact va_eqt hp3
    | 4, _ => exact va_eqt hp4
    | 5, _ => exact va_eqt hp5
    | 6, _ => exact va_eqt hp6) hAn
  have hZ := va_Zref (A := fun q : Nat => s.heap.size ≤ q) (hts0 (Cond.laysStatic RX4 "PLACES" "[I") (List.mem_append_right _ (List.mem_of_getElem? (i := 414) rfl))) (hts _ tc_6) ht hAn
  have hN1 : va_Nw (.methodLinkNest RX2 26 yX7_formTree RX7) s := hts0 (.methodLinkNest RX2 26 yX7_formTree RX7) (List.mem_append_right _ (List.mem_of_getElem? (i := 293) rfl))
  have hN2 : va_Nw (.methodLinkNest RX4 87 yX7_cross RX7) s := hts0 (.methodLinkNest RX4 87 yX7_cross RX7) (List.mem_append_right _ (List.mem_of_getElem? (i := 441) rfl))
  have hN3 : va_Nw (.methodLinkNest RX6 50 yX7_mix RX7) s := hts0 (.methodLinkNest RX6 50 yX7_mix RX7) (List.mem_append_right _ (List.mem_of_getElem? (i := 741) rfl))
  have hS : va_S (fun q : Nat => s.heap.size ≤ q) s.heap s.heap [] := va_S.rf
  obtain ⟨n0, hn0⟩ : ∃ n0, s.heap.size = n0 := ⟨_, rfl⟩
  have hl := lv_entry ([.ref b]) (n := 4) (Nat.le_of_ble_eq_true rfl)
  rw [lg_entry_eq]
  generalize (lg_sl ([.ref b]) ++ List.replicate (4 - (lg_sl ([.ref b])).length) Slot.unset).toArray = ls at hl ⊢
  have hl : lv_has ls 4 [(0, .ref b)] := hl
  refine y_new (ci := 7) (h := n0 + 0) (fs := [.null, .null, .int 0, .null, .null, .null, .null, .null, .null, .null]) C inX7 tyX7 tyX7_ok tc_13 tc_14 tc_1 rfl dfX7 hS hn0 (Nat.le_of_ble_eq_true rfl) (Nat.le_of_ble_eq_true rfl) (dL_law_p0 0 rfl) (fun H1 z1 o1 n1 hS => ?_)
  refine lv_dup hx hb (dL_law_p0 1 rfl) rfl ?_
  refine y_ctor (n0 := n0) (a := 0) (As := []) (rest := [.ref (n0 + 0)]) (n := 0) C hKM hml hl.1 (c_X7_init_0 l n0 D ca) tc_17 tc_1 tc_15 tc_16 rfl (by decide +kernel) ⟨(Nat.le_of_ble_eq_true rfl), (Nat.le_of_ble_eq_true rfl)⟩ rfl (Nat.le_of_ble_eq_true rfl) (by omega) n1 (fun q (h : n0 + 0 ≤ q) => (show s.heap.size ≤ q by omega)) hS (Nat.le_of_ble_eq_true rfl) (Nat.le_of_ble_eq_true rfl) rfl (dL_law_p0 2 rfl) (fun H2 L2 z2 o2 dn hS => ?_)
  refine W.widen (k := 204) (n := 4000) (Nat.le_of_ble_eq_true rfl) (Nat.le_of_ble_eq_true rfl) ?_
  refine lv_astore_n (lv' := [(1, .ref (n0 + 0)), (0, .ref b)]) hx hb (dL_law_p0 3 rfl) rfl hl (by decide) rfl (fun ls hl => ?_)
  refine y_new (ci := 8) (h := n0 + 204) (fs := [.null, .int 0, .int 0, .null, .null, .null, .null, .null, .null, .null, .null, .int 0, .int 0, .int 0, .int 0, .null, .null, .null, .null, .null, .null, .int 0, .null, .null, .int 0, .long 0, .null, .null, .int 0, .long 0, .null, .null, .null, .int 0, .null, .null, .int 0, .null, .int 0, .int 0]) C inX8 tyX8 tyX8_ok tc_742 tc_743 tc_9 rfl dfX8 hS z2 (Nat.le_of_ble_eq_true rfl) (Nat.le_of_ble_eq_true rfl) (dL_law_p0 4 rfl) (fun H3 z3 o3 n3 hS => ?_)
  have dn := DN_lt dn o3 (by omega)
  refine lv_dup hx hb (dL_law_p0 5 rfl) rfl ?_
  refine y_ctor (n0 := n0) (a := 204) (As := []) (rest := [.ref (n0 + 204)]) (n := 0) C hKM hml hl.1 (c_X8_init_204 l n0 D ca) tc_746 tc_9 tc_744 tc_745 rfl (by decide +kernel) ⟨(Nat.le_of_ble_eq_true rfl), (Nat.le_of_ble_eq_true rfl)⟩ rfl (Nat.le_of_ble_eq_true rfl) (by omega) n3 (fun q (h : n0 + 204 ≤ q) => (show s.heap.size ≤ q by omega)) hS (Nat.le_of_ble_eq_true rfl) (Nat.le_of_ble_eq_true rfl) rfl (dL_law_p0 6 rfl) (fun H4 L4 z4 o4 dm hS => ?_)
  have dn := DN_lt dn o4 (by omega)
  refine W.widen (k := 230) (n := 6000) (Nat.le_of_ble_eq_true rfl) (Nat.le_of_ble_eq_true rfl) ?_
  refine lv_astore_n (lv' := [(2, .ref (n0 + 204)), (1, .ref (n0 + 0)), (0, .ref b)]) hx hb (dL_law_p0 7 rfl) rfl hl (by decide) rfl (fun ls hl => ?_)
  have hall := DN_app dn dm
  have hP : va_P D vwCl (wsN (AD n0) ca s0) H4 := fun k q hq => by
    have hk : k < NC := by
      have := (List.getElem?_eq_some_iff.mp hq).1
      rwa [wsN_len] at this
    rw [wsN_at hk] at hq
    cases hq
    exact hall k (Nat.zero_le _) hk
  have OK : Ok ((p, l, e, room_1, s, m), (#[Value.ref b], below, meth, c, lw_Z below #[Value.ref b] s), (4, 230, 6000, (fun q : Nat => s.heap.size ≤ q)), (AD n0, D, ca)) RL cL_law 4 17 := ⟨hx, hb, ⟨hml, rfl⟩, hown, hts, ⟨hK, ⟨hN1, hN2, hN3⟩, t, hZ, hT⟩, fun i j _ _ (h : n0 + i = n0 + j) => by omega, fun k _ => (show s.heap.size ≤ n0 + k by omega), ⟨(Nat.le_of_ble_eq_true rfl), (Nat.le_of_ble_eq_true rfl)⟩, (Nat.le_of_ble_eq_true rfl), (Nat.le_of_ble_eq_true rfl)⟩
  refine m_L_law (K := ()) OK (fun pc loc σ hd ls H locs hl hP hS => ?_) ⟨hX, hbl, Nat.not_le.mpr hbl⟩ s0 (law_pure (by omega) Rel0) ls H4 _ (lv_sub hl [2, 1, 0] rfl) hP hS
  refine va_forget (fun q hq => hS.2.2 q hq) ?_
  refine W.widen (k := 600000) (n := 7302250) (Nat.le_of_ble_eq_true rfl) (Nat.le_of_ble_eq_true rfl) ?_
  exact lw_ret hx hb hr hlocks hd
set_option maxHeartbeats 4000000 in
theorem lw_walk (l : Launch) (hflags : l.flags = flags0) (b : Addr) (xs : List Int32) : MetFree l x (headSpec (Jvm.Cond.code x code maxLocals ret :: tables_1) room_1) (lw_P b xs) (fun _ _ _ _ _ => True) lw_Q := by
  refine MetFree.of_bodyS (code := code) (maxLocals := maxLocals) (ret := ret) (by decide) ?_ ?_
  · intro args s m h hn
    obtain ⟨meth, c, h1, h2, h3, h4, h5, h6, -, -⟩ := Cond.code_spec hn (atoms_spec (ws := Jvm.Cond.code x code maxLocals ret :: tables_1) h _ List.mem_cons_self)
    exact ⟨meth, c, h1, h2, h3, h4, h5, h6⟩
  · intro p e s m args below meth c s₁ B hml0 hP _
    obtain ⟨rfl, hx, hbd, hgv⟩ := hP
    obtain ⟨scr, harrAt, hlist, hof, hsmall⟩ := hx
    obtain ⟨hcb, hkn, -, -⟩ := State.arrayAt?_spec harrAt
    have hown : s.vm.findClass R_law = some m.cls := findClass_of_methodNamed B.named
    have hts0 : ∀ c ∈ (Jvm.Cond.code x code maxLocals ret :: tables_1), c.before #[Value.ref b] s = true := atoms_spec (ws := Jvm.Cond.code x code maxLocals ret :: tables_1) B.pre
    have hts : ∀ w ∈ lw_tbl, w.before #[Value.ref b] s = true := k2_hts_sels lw_privs (fun w hw => hts0 w (List.mem_cons_of_mem _ hw)) lw_privs_ok
    have hml : c.maxLocals = 4 := B.maxLocals_eq (hts0 _ List.mem_cons_self)
    have X₀ : Stand p l e room_1 s m #[Value.ref b] below meth c s₁ [] 0 0 := Stand.of_body B
    have hh0 : s₁.heap = s.heap := by rw [B.state]; rfl
    have hsz : scr.slots.size = xs.length := by rw [← Array.length_toList, hlist, List.length_map]
    have hval : ∀ j : Nat, j < xs.length → scr.slots[j]? = some (.int (xs.getD j 0)) := fun j hj => by
      rw [← Array.getElem?_toList, hlist]
      simp [hj]
    have hbl : b < s.heap.size := (Array.getElem?_eq_some_iff.mp hcb).1
    have hX : va_X b xs.length (fun j => xs.getD j 0) s s.heap := ⟨scr, hcb, hof, hkn, hsz, hval⟩
    have K : W p l e room_1 s m #[Value.ref b] below meth c s₁.heap [] 0 0 (lw_Z below #[Value.ref b] s) (entryFrame m ([Value.ref b] : List Value).toArray 4) := by
      rw [hh0]
      exact whole_start l hflags hbd ⟨B.exec, B.bytes, B.returns, hml, hown, hts, hX, hbl, B.notSynchronized, hgv⟩
    obtain ⟨t, a1, o, b1, b2, b3⟩ := K s₁ rfl X₀
    exact ⟨t, o, a1, b1, b2, b3⟩
theorem lw_pre_spec {args : Array Value} {s : State} (h : (Jvm.Cond.and given_1 narrow_1).before args s = true) (hr : rest_1_c.before args s = true) : ∃ (b : Addr) (xs : List Int32), lw_P b xs args s := by
  have hs := flat_of_before _ h
  have hq := flat_of_before _ hr
  have hc : (Cond.count 1).before args s = true := hs _ (by decide +kernel)
  have harr : (Cond.arrayOf (.arg 0) .int).before args s = true := hs _ (by decide +kernel)
  have hle : (Cond.le (.length (.arg 0)) (.int 2560)).before args s = true := hs _ (by decide +kernel)
  have hlen : (Cond.isInt (.length (.arg 0))).before args s = true := hq _ (by decide +kernel)
  have hall : (Cond.all (.arg 0) (.isInt (.elem (.arg 0) (.index 0)))).before args s = true := hq _ (by decide +kernel)
  obtain ⟨b, xs, hb, hx⟩ := State.ints_of_pre rfl harr hlen hall
  have hsm : xs.length < 2 ^ 31 := hx.choose_spec.2.2.2
  have hev : (Term.length (.arg 0)).eval args s none [] s = some (.int xs.length.toInt32) := hx.length_eval hb
  have hv := Cond.le_ints hev (show (Term.int 2560).eval args s none [] s = some (.int 2560) from rfl)
  have hd : xs.length.toInt32 ≤ 2560 := by
    simpa [Cond.before, Cond.holds, hv] using hle
  have hN : xs.length ≤ 2560 := (Int32.ofNat_le_ofNat hsm (by decide)).mp (show Int32.ofNat xs.length ≤ Int32.ofNat 2560 from hd)
  exact ⟨b, xs, Cond.one_arg hc (show args[0]? = some (.ref b) from hb), hx, hN, h⟩
theorem lw_comes (l : Launch) (hflags : l.flags = flags0) : Comes l x (Jvm.Cond.code x code maxLocals ret :: tables_1) room_1 (fun tb e args s => Calls_1 tb e args s ∧ rest_1 tb e args s ∧ Pre_1 tb e args s)
    (fun _ _ args s o t => lw_Q args s o t) := by
  intro p e ha hc hk s m args below hf hfit hheap happ hpre
  obtain ⟨b, xs, hP⟩ := lw_pre_spec hpre.2.2 hpre.2.1
  obtain ⟨k, o, h1, h2, h3, hQ⟩ := lw_walk l hflags b xs p e ha hc hk s m args below hf ((Spec.applies_iff_loose hf).mp happ).1 hP trivial
  exact ⟨k, o, h1, h2, h3, hQ⟩
theorem lw_frame {s t : State} {o : Outcome} {args : Array Value} (h : Framed s o t [] 600000 7302250) :
    Framed s o t (fieldLocs frame_1_writes args s ++ arrayLocs frame_1_arrays args s ++ staticLocs frame_1_statics s) 600000 7302250 := h
theorem lw_limb (L : Cond) (hL : ∀ (args : Array Value) (s t : State), L.after args s (.returned (some (.int 1))) t = true) :
    ArmFor flags0 classFile x code maxLocals ret World_1 tables_1 room_1 Calls_1 rest_1 Pre_1
      (fun tb e a s o t => postC L tb e a s o t ∧ Framed s o t (fieldLocs frame_1_writes a s ++ arrayLocs frame_1_arrays a s ++ staticLocs frame_1_statics s) 600000 7302250) := by
  intro l hflags _ _ p e ha hc hk s m args below hf hfit hheap happ hpre
  obtain ⟨k, o, h1, h2, h3, rfl, hF⟩ := lw_comes l hflags p e ha hc hk s m args below hf hfit hheap happ hpre
  exact ⟨k, _, h1, h2, h3, hL args s _, lw_frame hF⟩
theorem i_vc : Claimed_1_1 ∧ Claimed_1_2 := ⟨lw_limb limb_1_1 (fun args s t => by simp [limb_1_1, Cond.after, Cond.holds, Cond.value]), lw_limb limb_1_2 (fun args s t => Cond.after_iff.mpr (by
  first | (rw [show limb_1_2 = Cond.eq .result (.int 1) from rfl, Cond.eq_ints (x := 1) (y := 1) rfl rfl]; simp; done) | (simp [limb_1_2, Cond.value, Term.eval]; done)))⟩
