/-! CONTRACTS over the flat store: a method comes back with its answer and a store of which K says what is known; nothing outside the store changes -/
def inAd (ad : Nat → Nat) : Nat → Prop := fun q => ∃ k, k < NC ∧ q = ad k
def Bw (ad : Nat → Nat) (D : va_G) (ca : Nat → ClassId) (σ : St) (t : State) : Prop := va_P D vwCl (wsN ad ca σ) t.heap
def Pw (ad : Nat → Nat) (D : va_G) (ca : Nat → ClassId) (av : List Value) (σ : St) : Array Value → State → Prop := va_Pc av (fun U => va_P D vwCl (wsN ad ca σ) U.heap ∧ Kn D ca (inAd ad) U)
def CtI (l : Launch) (ad : Nat → Nat) (D : va_G) (ca : Nat → ClassId) (y : MethodName) (cc : ByteArray) (nL : Nat) (ty : FieldType) (d : Nat) (av : List Value) (σ : St) (K : Int32 → St → Prop) : Prop :=
  Met l y (Cond.code y cc nL (some ty) :: gtbl) (rmD d) (Pw ad D ca av σ) (va_Qi K (Bw ad D ca) (inAd ad)) 0 0 (inAd ad)
def CtL (l : Launch) (ad : Nat → Nat) (D : va_G) (ca : Nat → ClassId) (y : MethodName) (cc : ByteArray) (nL : Nat) (d : Nat) (av : List Value) (σ : St) (K : Int64 → St → Prop) : Prop :=
  Met l y (Cond.code y cc nL (some .long) :: gtbl) (rmD d) (Pw ad D ca av σ) (va_Ql K (Bw ad D ca) (inAd ad)) 0 0 (inAd ad)
def CtV (l : Launch) (ad : Nat → Nat) (D : va_G) (ca : Nat → ClassId) (y : MethodName) (cc : ByteArray) (nL : Nat) (d : Nat) (av : List Value) (σ : St) (K : St → Prop) : Prop :=
  Met l y (Cond.code y cc nL none :: gtbl) (rmD d) (Pw ad D ca av σ) (va_Qv K (Bw ad D ca) (inAd ad)) 0 0 (inAd ad)
def CtQ (l : Launch) (ad : Nat → Nat) (D : va_G) (ca : Nat → ClassId) (y : MethodName) (cc : ByteArray) (nL : Nat) (C : String) (d : Nat) (av : List Value) (σ : St) (K : Option Nat → St → Prop) : Prop :=
  Met l y (Cond.code y cc nL (some (.object C)) :: gtbl) (rmD d) (Pw ad D ca av σ) (va_Qq (fun r σ' => ∃ q : Option Nat, r = q.map ad ∧ K q σ') (Bw ad D ca) (inAd ad)) 0 0 (inAd ad)
theorem Kn_blind {ad : Nat → Nat} {D : va_G} {ca : Nat → ClassId} {av : List Value} {σ : St} : FrameBlind (Pw ad D ca av σ) := by
  intro a U g mk q
  obtain ⟨q0, qP, qK, ⟨n1, n2, n3⟩, t, qZ, qT⟩ := q
  exact ⟨q0, qP, va_K.moved (u := U) (U := U.calling g mk a) (Vm.Alike.refl U.vm) qK, ⟨va_Nw.same rfl (u := U) (U := U.calling g mk a) rfl n1, va_Nw.same rfl (u := U) (U := U.calling g mk a) rfl n2, va_Nw.same rfl (u := U) (U := U.calling g mk a) rfl n3⟩, t, va_Z.moved (u := U) (U := U.calling g mk a) (Vm.Alike.refl U.vm) qZ, va_T.moved (u := U) (U := U.calling g mk a) (Vm.Alike.refl U.vm) qT⟩
theorem Kn_moved {D : va_G} {ca : Nat → ClassId} {A B : Nat → Prop} {s U : State} {locs : List Loc} (h : Kn D ca A s) (hS : va_S A s.heap U.heap locs) (hW : s.WarmedH U.vm) (hAB : ∀ q, B q → A q) : Kn D ca B U := by
  obtain ⟨qK, ⟨n1, n2, n3⟩, t, qZ, qT⟩ := h
  exact ⟨va_K.moved hW.alike qK, ⟨va_Nw.warmM hW n1, va_Nw.warmM hW n2, va_Nw.warmM hW n3⟩, t, ((qZ.kept hS.2.1).moved hW.alike).narrow hAB, ((qT.kept hS.2.1).moved hW.alike).narrow hAB⟩
/-- the room of the table's words -/
theorem good_gt {c : Cond} (h : c ∈ gtbl) : GoodIn gtbl (c :: gtbl) := by
  intro w hw
  have hm : w ∈ gtbl := by
    rcases List.mem_cons.mp hw with rfl | h1
    · exact h
    · exact h1
  exact ⟨hm, good_of_word (List.mem_filter.mp hm).2⟩
/-- a method's frame, as the judgement takes it -/
def mkK (p : Program) (l : Launch) (e : Env) (R : Room) (s : State) (m : MethodId) (args : Array Value) (below : List Frame) (meth : Method) (c : Code) (Q : State → Prop) (nL : Nat) (A : Nat → Prop) (ad : Nat → Nat) (D : va_G) (ca : Nat → ClassId) : Kap := ((p, l, e, R, s, m), (args, below, meth, c, Q), (nL, 0, 0, A), (ad, D, ca))
/-- what the end of a method that answers an int (or a boolean) is -/
def RetI (κ : Kap) (cc : ByteArray) (ty : FieldType) (K : Int32 → St → Prop) : Prop := ∀ (pc : Nat) (loc : List (Nat × Value)) (v : Int32) (σ : St), decode cc pc = .ok (.ireturn, 1) → narrow ty (.int v) = .int v → K v σ → GG κ pc loc [.int v] σ
def RetL (κ : Kap) (cc : ByteArray) (K : Int64 → St → Prop) : Prop := ∀ (pc : Nat) (loc : List (Nat × Value)) (v : Int64) (σ : St), decode cc pc = .ok (.lreturn, 1) → K v σ → GG κ pc loc [.long v] σ
def RetV (κ : Kap) (cc : ByteArray) (K : St → Prop) : Prop := ∀ (pc : Nat) (loc : List (Nat × Value)) (σ : St), decode cc pc = .ok (.return_, 1) → K σ → GG κ pc loc [] σ
def RetQ (κ : Kap) (cc : ByteArray) (K : Option Nat → St → Prop) : Prop := (∀ (pc : Nat) (loc : List (Nat × Value)) (k : Nat) (σ : St), decode cc pc = .ok (.areturn, 1) → K (some k) σ → GG κ pc loc [.ref (kad κ k)] σ) ∧ (∀ (pc : Nat) (loc : List (Nat × Value)) (σ : St), decode cc pc = .ok (.areturn, 1) → K none σ → GG κ pc loc [.null] σ)
/-- a method's contract out of its walk, for a class of the JDK's too whose other methods are rows of the natives' table -/
theorem ofWF {l : Launch} {y : MethodName} {ws ws' : List Cond} {rm : Room} {Pc : Array Value → State → Prop} {Qc : Array Value → State → Outcome → State → Prop} {mc ms : Nat} {free : Addr → Prop} {cc : ByteArray} {maxL : Nat} {ret : Option FieldType}
    (hy : plainFor y = true) (hw : ws = Cond.code y cc maxL ret :: ws')
    (body : ∀ p e s m args below meth c s₁, BodyLoose p l y (headSpec ws rm) cc maxL ret e s m args below meth c s₁ → c.maxLocals = maxL → Pc args s →
      W p l e (headSpec ws rm).room s m args below meth c s.heap [] 0 0 (MQ below Qc args s mc ms free) (entryFrame m args maxL)) : Met l y ws rm Pc Qc mc ms free := by
  refine MetFree.of_bodySF (code := cc) (maxLocals := maxL) (ret := ret) hy (fun args s m h hn => ?_) (fun p e s m args below meth c s₁ B hml hP _ => ?_)
  · obtain ⟨meth, c, h1, h2, h3, h4, h5, h6, -, -⟩ := Cond.code_spec hn (atoms_spec (ws := ws) h _ (by rw [hw]; exact List.mem_cons_self))
    exact ⟨meth, c, h1, h2, h3, h4, h5, h6⟩
  · obtain ⟨t, a1, o, b1, b2, b3⟩ := body p e s m args below meth c s₁ B hml hP s₁ (by rw [B.state]; rfl) (Stand.of_body B)
    exact ⟨t, o, a1, b1, b2, ⟨b3.1, b3.2⟩⟩
section CT
variable {l : Launch} {ad : Nat → Nat} {D : va_G} {ca : Nat → ClassId} {y : MethodName} {cc : ByteArray} {nL d : Nat} {av : (Nat → Nat) → List Value} {σ : St}
theorem Ct_ok {p : Program} {e : Env} {s : State} {m : MethodId} {args : Array Value} {below : List Frame} {meth : Method} {c : Code} {s₁ : State} {ret : Option FieldType} (had : adOk ad) (Q : State → Prop) (B : BodyLoose p l y (headSpec (Cond.code y cc nL ret :: gtbl) (rmD d)) cc nL ret e s m args below meth c s₁) (hml : c.maxLocals = nL) (hKn : Kn D ca (inAd ad) s) : Ok (mkK p l e (rmD d) s m args below meth c Q nL (inAd ad) ad D ca) y.cls cc nL d := by
  have hts := atoms_spec (ws := Cond.code y cc nL ret :: gtbl) B.pre
  exact ⟨B.exec, B.bytes, ⟨hml, rfl⟩, findClass_of_methodNamed B.named, fun w h => hts w (List.mem_cons_of_mem _ h), hKn, had, fun k hk => ⟨k, hk, rfl⟩, ⟨Nat.le_refl _, Nat.le_refl _⟩, Nat.le_refl _, Nat.le_refl _⟩
theorem CtI_of {ty : FieldType} {K : Int32 → St → Prop} (hy : plainFor y = true) (had : adOk ad) (hav : (lg_sl (av ad)).length ≤ nL)
    (body : ∀ κ : Kap, Ok κ y.cls cc nL d → RetI κ cc ty K → GG κ 0 (lv_args 0 (av (kad κ))) [] σ) : CtI l ad D ca y cc nL ty d (av ad) σ K := by
  refine ofWF (cc := cc) (maxL := nL) (ret := some ty) hy rfl ?_
  intro p e s m args below meth c s₁ B hml hv
  obtain ⟨rfl, hP, hKn⟩ := hv
  have hr := B.returns
  have hlocks := B.notSynchronized
  have h := body (mkK p l e (rmD d) s m (av ad).toArray below meth c (MQ below (va_Qi K (Bw ad D ca) (inAd ad)) (av ad).toArray s 0 0 (inAd ad)) nL (inAd ad) ad D ca) (Ct_ok had _ B hml hKn) (fun pc loc v σ' hd hn hk ls H locs hl hP hS => W.zret (Qc := va_Qi K (Bw ad D ca) (inAd ad)) B.exec B.bytes hr hn (fun t ht hW => ⟨⟨v, σ', rfl, hk, by show va_P _ _ _ t.heap; rw [ht]; exact hP⟩, hS.F ht⟩) hS.2.2 hd)
  have hl := lv_entry (av ad) (n := nL) hav
  rw [lg_entry_eq]
  exact h _ _ _ hl hP va_S.rf
theorem CtL_of {K : Int64 → St → Prop} (hy : plainFor y = true) (had : adOk ad) (hav : (lg_sl (av ad)).length ≤ nL)
    (body : ∀ κ : Kap, Ok κ y.cls cc nL d → RetL κ cc K → GG κ 0 (lv_args 0 (av (kad κ))) [] σ) : CtL l ad D ca y cc nL d (av ad) σ K := by
  refine ofWF (cc := cc) (maxL := nL) (ret := some .long) hy rfl ?_
  intro p e s m args below meth c s₁ B hml hv
  obtain ⟨rfl, hP, hKn⟩ := hv
  have hr := B.returns
  have hlocks := B.notSynchronized
  have h := body (mkK p l e (rmD d) s m (av ad).toArray below meth c (MQ below (va_Ql K (Bw ad D ca) (inAd ad)) (av ad).toArray s 0 0 (inAd ad)) nL (inAd ad) ad D ca) (Ct_ok had _ B hml hKn) (fun pc loc v σ' hd hk ls H locs hl hP hS => W.lret (Qc := va_Ql K (Bw ad D ca) (inAd ad)) B.exec B.bytes hr (fun t ht hW => ⟨⟨v, σ', rfl, hk, by show va_P _ _ _ t.heap; rw [ht]; exact hP⟩, hS.F ht⟩) hS.2.2 hd)
  have hl := lv_entry (av ad) (n := nL) hav
  rw [lg_entry_eq]
  exact h _ _ _ hl hP va_S.rf
theorem CtV_of {K : St → Prop} (hy : plainFor y = true) (had : adOk ad) (hav : (lg_sl (av ad)).length ≤ nL)
    (body : ∀ κ : Kap, Ok κ y.cls cc nL d → RetV κ cc K → GG κ 0 (lv_args 0 (av (kad κ))) [] σ) : CtV l ad D ca y cc nL d (av ad) σ K := by
  refine ofWF (cc := cc) (maxL := nL) (ret := none) hy rfl ?_
  intro p e s m args below meth c s₁ B hml hv
  obtain ⟨rfl, hP, hKn⟩ := hv
  have hr := B.returns
  have hlocks := B.notSynchronized
  have h := body (mkK p l e (rmD d) s m (av ad).toArray below meth c (MQ below (va_Qv K (Bw ad D ca) (inAd ad)) (av ad).toArray s 0 0 (inAd ad)) nL (inAd ad) ad D ca) (Ct_ok had _ B hml hKn) (fun pc loc σ' hd hk ls H locs hl hP hS => W.vret (Qc := va_Qv K (Bw ad D ca) (inAd ad)) B.exec B.bytes hr (fun t ht hW => ⟨⟨σ', rfl, hk, by show va_P _ _ _ t.heap; rw [ht]; exact hP⟩, hS.F ht⟩) hS.2.2 hd)
  have hl := lv_entry (av ad) (n := nL) hav
  rw [lg_entry_eq]
  exact h _ _ _ hl hP va_S.rf
theorem CtQ_of {C : String} {K : Option Nat → St → Prop} (hy : plainFor y = true) (had : adOk ad) (hav : (lg_sl (av ad)).length ≤ nL)
    (body : ∀ κ : Kap, Ok κ y.cls cc nL d → RetQ κ cc K → GG κ 0 (lv_args 0 (av (kad κ))) [] σ) : CtQ l ad D ca y cc nL C d (av ad) σ K := by
  refine ofWF (cc := cc) (maxL := nL) (ret := some (.object C)) hy rfl ?_
  intro p e s m args below meth c s₁ B hml hv
  obtain ⟨rfl, hP, hKn⟩ := hv
  have hr := B.returns
  have hlocks := B.notSynchronized
  have h := body (mkK p l e (rmD d) s m (av ad).toArray below meth c (MQ below (va_Qq (fun r σ' => ∃ q : Option Nat, r = q.map ad ∧ K q σ') (Bw ad D ca) (inAd ad)) (av ad).toArray s 0 0 (inAd ad)) nL (inAd ad) ad D ca) (Ct_ok had _ B hml hKn) ⟨fun pc loc k σ' hd hk ls H locs hl hP hS => W.aret (Qc := va_Qq (fun r σ' => ∃ q : Option Nat, r = q.map ad ∧ K q σ') (Bw ad D ca) (inAd ad)) B.exec B.bytes hr (Or.inl ⟨_, rfl⟩) (Or.inr ⟨_, rfl⟩) (fun t ht hW => ⟨⟨some (ad k), σ', rfl, ⟨some k, rfl, hk⟩, by show va_P _ _ _ t.heap; rw [ht]; exact hP⟩, hS.F ht⟩) hS.2.2 hd,
    fun pc loc σ' hd hk ls H locs hl hP hS => W.aret (Qc := va_Qq (fun r σ' => ∃ q : Option Nat, r = q.map ad ∧ K q σ') (Bw ad D ca) (inAd ad)) B.exec B.bytes hr (Or.inl ⟨_, rfl⟩) (Or.inl rfl) (fun t ht hW => ⟨⟨none, σ', rfl, ⟨none, rfl, hk⟩, by show va_P _ _ _ t.heap; rw [ht]; exact hP⟩, hS.F ht⟩) hS.2.2 hd⟩
  have hl := lv_entry (av ad) (n := nL) hav
  rw [lg_entry_eq]
  exact h _ _ _ hl hP va_S.rf
end CT
/-- what a call needs of the tables: a static method -/
def LkS (own : String) (idx : Nat) (y : MethodName) (cc : ByteArray) (nL : Nat) (ret : Option FieldType) (n : Nat) : Prop := (Cond.methodLink own idx y ∈ gtbl ∧ Cond.static y ∈ gtbl ∧ Cond.code y cc nL ret ∈ gtbl ∧ Cond.initialized y.cls ∈ gtbl) ∧ (y.cls ≠ "java/lang/invoke/MethodHandle" ∧ y.cls ≠ "java/lang/invoke/VarHandle" ∧ (parseMethodDescriptor y.desc).map (fun d => d.parameters.length) = some n) ∧ nL ≤ 40
/-- an instance method -/
def LkV (own : String) (idx : Nat) (y : MethodName) (cc : ByteArray) (nL : Nat) (ret : Option FieldType) (n : Nat) : Prop := (Cond.methodLink own idx y ∈ gtbl ∧ Cond.instanceMethod y ∈ gtbl ∧ Cond.selects y.cls y y ∈ gtbl ∧ Cond.code y cc nL ret ∈ gtbl ∧ Cond.initialized y.cls ∈ gtbl) ∧ (y.cls ≠ "java/lang/invoke/MethodHandle" ∧ y.cls ≠ "java/lang/invoke/VarHandle" ∧ (parseMethodDescriptor y.desc).map (fun d => d.parameters.length) = some n) ∧ nL ≤ 40
/-- a nest mate's private static method -/
def LkN (own : String) (idx : Nat) (y : MethodName) (host : String) (cc : ByteArray) (nL : Nat) (ret : Option FieldType) (n : Nat) : Prop := (Cond.static y ∈ gtbl ∧ Cond.code y cc nL ret ∈ gtbl ∧ Cond.initialized y.cls ∈ gtbl) ∧ (y.cls ≠ "java/lang/invoke/MethodHandle" ∧ y.cls ≠ "java/lang/invoke/VarHandle" ∧ (parseMethodDescriptor y.desc).map (fun d => d.parameters.length) = some n) ∧ nL ≤ 40
section XC
variable {κ : Kap} {own : String} {cc : ByteArray} {nL d pc : Nat} {loc : List (Nat × Value)} {st stk As : List Value} {σ : St} {y : MethodName} {cc' : ByteArray} {nL' d' idx n : Nat} {ty : FieldType}
theorem Ok.inA (C : Ok κ own cc nL d) : ∀ q, inAd (kad κ) q → kA κ q := fun q h => by
  obtain ⟨k, hk, rfl⟩ := h
  exact C.hA k hk
theorem Ok.preS (C : Ok κ own cc nL d) {H : Heap} {locs : List Loc} (hP : va_P (kD κ) vwCl (wsN (kad κ) (kca κ) σ) H) (hS : va_S (kA κ) (kS κ).heap H locs) : PreS (kS κ) H (Pw (kad κ) (kD κ) (kca κ) As σ) As := ⟨Kn_blind, fun U hU hW => ⟨rfl, by rw [hU]; exact hP, Kn_moved C.kn (by rw [hU]; exact hS) hW C.inA⟩⟩
theorem Ok.preV (C : Ok κ own cc nL d) {H : Heap} {locs : List Loc} {a ci N : Nat} {R : String} {T : u_T} (hc : vwCl[ci]? = some (R, T, N)) (hk : kd a = ci) (hci : ci < 10) (ha : a < NC) (hP : va_P (kD κ) vwCl (wsN (kad κ) (kca κ) σ) H) (hS : va_S (kA κ) (kS κ).heap H locs) : PreV (kS κ) H R (kad κ a) (Pw (kad κ) (kD κ) (kca κ) (.ref (kad κ a) :: As) σ) As := ⟨Kn_blind, va_recv C.hK hP hc ((wsN_at ha).trans (by rw [cellN_obj hk hci])), fun U hU hW => ⟨rfl, by rw [hU]; exact hP, Kn_moved C.kn (by rw [hU]; exact hS) hW C.inA⟩⟩
theorem Ok.cwS (C : Ok κ own cc nL d) {ret : Option FieldType} (L : LkS own idx y cc' nL' ret n) (hdd : d' + 1 ≤ d) : CallB (kR κ) (kS κ) (kArgs κ) own idx y cc' nL' ret (Cond.code y cc' nL' ret :: gtbl) (rmD d') 0 0 n ∧ (Cond.static y).before (kArgs κ) (kS κ) = true := by
  obtain ⟨⟨h1, h2, h3, h4⟩, h5, h6⟩ := L
  obtain ⟨r1, r2⟩ := C.room
  exact ⟨callB_of n C.hts (good_gt h3) rfl rfl rfl (C.hts _ h4) (C.hts _ h1) h5 ⟨by show d' + 1 ≤ _; omega, by show 8 + (nL' + 11) + 64 * d' ≤ _; omega⟩, C.hts _ h2⟩
theorem Ok.cwV (C : Ok κ own cc nL d) {ret : Option FieldType} (L : LkV own idx y cc' nL' ret n) (hdd : d' + 1 ≤ d) : CallW (kR κ) (kS κ) (kArgs κ) own y.cls idx y cc' nL' ret (Cond.code y cc' nL' ret :: gtbl) (rmD d') 0 0 n := by
  obtain ⟨⟨h1, h2, h7, h3, h4⟩, h5, h6⟩ := L
  obtain ⟨r1, r2⟩ := C.room
  exact ⟨callB_of n C.hts (good_gt h3) rfl rfl rfl (C.hts _ h4) (C.hts _ h1) h5 ⟨by show d' + 1 ≤ _; omega, by show 8 + (nL' + 11) + 64 * d' ≤ _; omega⟩, C.hts _ h2, C.hts _ h7⟩
theorem Ok.cwN (C : Ok κ own cc nL d) {host : String} {ret : Option FieldType} (L : LkN own idx y host cc' nL' ret n) (hN : va_Nw (.methodLinkNest own idx y host) (kS κ)) (hdd : d' + 1 ≤ d) : va_CN (kR κ) (kS κ) (kArgs κ) own idx y host cc' nL' ret (Cond.code y cc' nL' ret :: gtbl) (rmD d') 0 0 n ∧ (Cond.static y).before (kArgs κ) (kS κ) = true ∧ True := by
  obtain ⟨⟨h2, h3, h4⟩, h5, h6⟩ := L
  obtain ⟨r1, r2⟩ := C.room
  exact ⟨va_cnB n C.hts (good_gt h3) rfl rfl rfl hN (C.hts _ h4) h5 ⟨by show d' + 1 ≤ _; omega, by show 8 + (nL' + 11) + 64 * d' ≤ _; omega⟩, C.hts _ h2, trivial⟩
theorem Ok.fixc (C : Ok κ own cc nL d) : CallFix (kP κ) (kM κ) (kC κ) cc nL (kS κ) (kArgs κ) gtbl own := ⟨C.hx, C.hb, C.ml, C.hown, C.hts⟩
/-- static calls -/
theorem x_csI {K : Int32 → St → Prop} (C : Ok κ own cc nL d) (L : LkS own idx y cc' nL' (some ty) n) (hM : CtI (kL κ) (kad κ) (kD κ) (kca κ) y cc' nL' ty d' As σ K) (hn : As.length = n) (hdd : d' + 1 ≤ d) (hstk : stk = As.reverse ++ st) (hst : (st.map fun v => v.category).sum ≤ 8) (hd : decode cc pc = .ok (.invokestatic idx, 3)) (k : ∀ (r : Int32) (σ' : St), K r σ' → GG κ (pc + 3) loc (.int r :: st) σ') : GG κ pc loc stk σ := fun ls H locs hl hP hS =>
  va_calli (va_runS C.fixc hM (C.cwS L hdd) (C.preS hP hS) rfl hn (hl.1.trans C.nl) hstk (lv_room hst) hd ⟨C.rc, C.rs⟩) hS (fun q _ h => C.inA q h) C.inA (fun r u t H1 locs1 ht hvm hw hB hz hk1 hS1 => by subst ht; exact k r u hw ls t.heap locs1 hl hB hS1)
theorem x_csL {K : Int64 → St → Prop} (C : Ok κ own cc nL d) (L : LkS own idx y cc' nL' (some .long) n) (hM : CtL (kL κ) (kad κ) (kD κ) (kca κ) y cc' nL' d' As σ K) (hn : As.length = n) (hdd : d' + 1 ≤ d) (hstk : stk = As.reverse ++ st) (hst : (st.map fun v => v.category).sum ≤ 8) (hd : decode cc pc = .ok (.invokestatic idx, 3)) (k : ∀ (r : Int64) (σ' : St), K r σ' → GG κ (pc + 3) loc (.long r :: st) σ') : GG κ pc loc stk σ := fun ls H locs hl hP hS =>
  va_calll (va_runS C.fixc hM (C.cwS L hdd) (C.preS hP hS) rfl hn (hl.1.trans C.nl) hstk (lv_room hst) hd ⟨C.rc, C.rs⟩) hS (fun q _ h => C.inA q h) C.inA (fun r u t H1 locs1 ht hvm hw hB hz hk1 hS1 => by subst ht; exact k r u hw ls t.heap locs1 hl hB hS1)
theorem x_cnI {host : String} {K : Int32 → St → Prop} (C : Ok κ own cc nL d) (L : LkN own idx y host cc' nL' (some ty) n) (hN : va_Nw (.methodLinkNest own idx y host) (kS κ)) (hM : CtI (kL κ) (kad κ) (kD κ) (kca κ) y cc' nL' ty d' As σ K) (hn : As.length = n) (hdd : d' + 1 ≤ d) (hstk : stk = As.reverse ++ st) (hst : (st.map fun v => v.category).sum ≤ 8) (hd : decode cc pc = .ok (.invokestatic idx, 3)) (k : ∀ (r : Int32) (σ' : St), K r σ' → GG κ (pc + 3) loc (.int r :: st) σ') : GG κ pc loc stk σ := fun ls H locs hl hP hS =>
  va_calli (va_runSN C.fixc hM (C.cwN L hN hdd) (C.preS hP hS) rfl hn (hl.1.trans C.nl) hstk (lv_room hst) hd ⟨C.rc, C.rs⟩) hS (fun q _ h => C.inA q h) C.inA (fun r u t H1 locs1 ht hvm hw hB hz hk1 hS1 => by subst ht; exact k r u hw ls t.heap locs1 hl hB hS1)
theorem x_cnL {host : String} {K : Int64 → St → Prop} (C : Ok κ own cc nL d) (L : LkN own idx y host cc' nL' (some .long) n) (hN : va_Nw (.methodLinkNest own idx y host) (kS κ)) (hM : CtL (kL κ) (kad κ) (kD κ) (kca κ) y cc' nL' d' As σ K) (hn : As.length = n) (hdd : d' + 1 ≤ d) (hstk : stk = As.reverse ++ st) (hst : (st.map fun v => v.category).sum ≤ 8) (hd : decode cc pc = .ok (.invokestatic idx, 3)) (k : ∀ (r : Int64) (σ' : St), K r σ' → GG κ (pc + 3) loc (.long r :: st) σ') : GG κ pc loc stk σ := fun ls H locs hl hP hS =>
  va_calll (va_runSN C.fixc hM (C.cwN L hN hdd) (C.preS hP hS) rfl hn (hl.1.trans C.nl) hstk (lv_room hst) hd ⟨C.rc, C.rs⟩) hS (fun q _ h => C.inA q h) C.inA (fun r u t H1 locs1 ht hvm hw hB hz hk1 hS1 => by subst ht; exact k r u hw ls t.heap locs1 hl hB hS1)
/-- calls on an object of the store -/
theorem x_cvI {a ci N : Nat} {T : u_T} {K : Int32 → St → Prop} (C : Ok κ own cc nL d) (L : LkV own idx y cc' nL' (some ty) n) (hc : vwCl[ci]? = some (y.cls, T, N)) (hk : kd a = ci) (hci : ci < 10) (ha : a < NC) (hM : CtI (kL κ) (kad κ) (kD κ) (kca κ) y cc' nL' ty d' (.ref (kad κ a) :: As) σ K) (hn : As.length = n) (hdd : d' + 1 ≤ d) (hstk : stk = As.reverse ++ .ref (kad κ a) :: st) (hst : (st.map fun v => v.category).sum ≤ 8) (hd : decode cc pc = .ok (.invokevirtual idx, 3)) (k : ∀ (r : Int32) (σ' : St), K r σ' → GG κ (pc + 3) loc (.int r :: st) σ') : GG κ pc loc stk σ := fun ls H locs hl hP hS =>
  va_calli (va_runV C.fixc hM (C.cwV L hdd) (C.preV hc hk hci ha hP hS) rfl hn (hl.1.trans C.nl) hstk (lv_room hst) hd ⟨C.rc, C.rs⟩) hS (fun q _ h => C.inA q h) C.inA (fun r u t H1 locs1 ht hvm hw hB hz hk1 hS1 => by subst ht; exact k r u hw ls t.heap locs1 hl hB hS1)
theorem x_cvL {a ci N : Nat} {T : u_T} {K : Int64 → St → Prop} (C : Ok κ own cc nL d) (L : LkV own idx y cc' nL' (some .long) n) (hc : vwCl[ci]? = some (y.cls, T, N)) (hk : kd a = ci) (hci : ci < 10) (ha : a < NC) (hM : CtL (kL κ) (kad κ) (kD κ) (kca κ) y cc' nL' d' (.ref (kad κ a) :: As) σ K) (hn : As.length = n) (hdd : d' + 1 ≤ d) (hstk : stk = As.reverse ++ .ref (kad κ a) :: st) (hst : (st.map fun v => v.category).sum ≤ 8) (hd : decode cc pc = .ok (.invokevirtual idx, 3)) (k : ∀ (r : Int64) (σ' : St), K r σ' → GG κ (pc + 3) loc (.long r :: st) σ') : GG κ pc loc stk σ := fun ls H locs hl hP hS =>
  va_calll (va_runV C.fixc hM (C.cwV L hdd) (C.preV hc hk hci ha hP hS) rfl hn (hl.1.trans C.nl) hstk (lv_room hst) hd ⟨C.rc, C.rs⟩) hS (fun q _ h => C.inA q h) C.inA (fun r u t H1 locs1 ht hvm hw hB hz hk1 hS1 => by subst ht; exact k r u hw ls t.heap locs1 hl hB hS1)
theorem x_cvV {a ci N : Nat} {T : u_T} {K : St → Prop} (C : Ok κ own cc nL d) (L : LkV own idx y cc' nL' none n) (hc : vwCl[ci]? = some (y.cls, T, N)) (hk : kd a = ci) (hci : ci < 10) (ha : a < NC) (hM : CtV (kL κ) (kad κ) (kD κ) (kca κ) y cc' nL' d' (.ref (kad κ a) :: As) σ K) (hn : As.length = n) (hdd : d' + 1 ≤ d) (hstk : stk = As.reverse ++ .ref (kad κ a) :: st) (hst : (st.map fun v => v.category).sum ≤ 8) (hd : decode cc pc = .ok (.invokevirtual idx, 3)) (k : ∀ (σ' : St), K σ' → GG κ (pc + 3) loc st σ') : GG κ pc loc stk σ := fun ls H locs hl hP hS =>
  va_callv (va_runV C.fixc hM (C.cwV L hdd) (C.preV hc hk hci ha hP hS) rfl hn (hl.1.trans C.nl) hstk (lv_room hst) hd ⟨C.rc, C.rs⟩) hS (fun q _ h => C.inA q h) C.inA (fun u t H1 locs1 ht hvm hw hB hz hk1 hS1 => by subst ht; exact k u hw ls t.heap locs1 hl hB hS1)
theorem x_cvQ {R : String} {a ci N : Nat} {T : u_T} {K : Option Nat → St → Prop} (C : Ok κ own cc nL d) (L : LkV own idx y cc' nL' (some (.object R)) n) (hc : vwCl[ci]? = some (y.cls, T, N)) (hk : kd a = ci) (hci : ci < 10) (ha : a < NC) (hM : CtQ (kL κ) (kad κ) (kD κ) (kca κ) y cc' nL' R d' (.ref (kad κ a) :: As) σ K) (hn : As.length = n) (hdd : d' + 1 ≤ d) (hstk : stk = As.reverse ++ .ref (kad κ a) :: st) (hst : (st.map fun v => v.category).sum ≤ 8) (hd : decode cc pc = .ok (.invokevirtual idx, 3)) (kn : ∀ (σ' : St), K none σ' → GG κ (pc + 3) loc (.null :: st) σ') (ks : ∀ (b : Nat) (σ' : St), K (some b) σ' → GG κ (pc + 3) loc (.ref (kad κ b) :: st) σ') : GG κ pc loc stk σ := fun ls H locs hl hP hS =>
  va_callq (va_runV C.fixc hM (C.cwV L hdd) (C.preV hc hk hci ha hP hS) rfl hn (hl.1.trans C.nl) hstk (lv_room hst) hd ⟨C.rc, C.rs⟩) hS (fun q _ h => C.inA q h) C.inA (fun r u t H1 locs1 ht hvm hw hB hz hk1 hS1 => by
    subst ht
    obtain ⟨q, rfl, hw⟩ := hw
    cases q with
    | none => exact kn u hw ls t.heap locs1 hl hB hS1
    | some b => exact ks b u hw ls t.heap locs1 hl hB hS1)
/-- Math.max, min, abs; System.arraycopy -/
theorem x_max {x z : Int32} (C : Ok κ own cc nL d) (hm : Cond.methodLink own idx Lib.Math.max.name ∈ gtbl) (hs : Cond.static Lib.Math.max.name ∈ gtbl) (hi : Cond.initialized "java/lang/Math" ∈ gtbl) (hc : Cond.code Lib.Math.max.name Lib.Math.max.code 2 (some .int) ∈ gtbl) (hdd : 1 ≤ d) (hst : (st.map fun v => v.category).sum ≤ 8) (hd : decode cc pc = .ok (.invokestatic idx, 3)) (k : GG κ (pc + 3) loc (.int (if x < z then z else x) :: st) σ) : GG κ pc loc (.int z :: .int x :: st) σ := fun ls H locs hl hP hS =>
  va_mmax C.hx C.hb (by rw [C.ml, ← C.nl]; exact hl.1.symm) C.hown (C.hts _ hm) (C.hts _ hs) (C.hts _ hi) (C.hts _ hc) (Nat.le_trans hdd C.room.1) (by have := C.room.2; omega) C.rc C.rs hd (k ls H locs hl hP hS)
theorem x_min {x z : Int32} (C : Ok κ own cc nL d) (hm : Cond.methodLink own idx Lib.Math.min.name ∈ gtbl) (hs : Cond.static Lib.Math.min.name ∈ gtbl) (hi : Cond.initialized "java/lang/Math" ∈ gtbl) (hc : Cond.code Lib.Math.min.name Lib.Math.min.code 2 (some .int) ∈ gtbl) (hdd : 1 ≤ d) (hst : (st.map fun v => v.category).sum ≤ 8) (hd : decode cc pc = .ok (.invokestatic idx, 3)) (k : GG κ (pc + 3) loc (.int (if z < x then z else x) :: st) σ) : GG κ pc loc (.int z :: .int x :: st) σ := fun ls H locs hl hP hS =>
  va_mmin C.hx C.hb (by rw [C.ml, ← C.nl]; exact hl.1.symm) C.hown (C.hts _ hm) (C.hts _ hs) (C.hts _ hi) (C.hts _ hc) (Nat.le_trans hdd C.room.1) (by have := C.room.2; omega) C.rc C.rs hd (k ls H locs hl hP hS)
theorem x_abs {x : Int32} (C : Ok κ own cc nL d) (hm : Cond.methodLink own idx Lib.Math.abs.name ∈ gtbl) (hs : Cond.static Lib.Math.abs.name ∈ gtbl) (hi : Cond.initialized "java/lang/Math" ∈ gtbl) (hc : Cond.code Lib.Math.abs.name Lib.Math.abs.code 1 (some .int) ∈ gtbl) (hdd : 1 ≤ d) (hst : (st.map fun v => v.category).sum ≤ 8) (hd : decode cc pc = .ok (.invokestatic idx, 3)) (k : GG κ (pc + 3) loc (.int (if 0 ≤ x then x else 0 - x) :: st) σ) : GG κ pc loc (.int x :: st) σ := fun ls H locs hl hP hS =>
  va_mabs C.hx C.hb (by rw [C.ml, ← C.nl]; exact hl.1.symm) C.hown (C.hts _ hm) (C.hts _ hs) (C.hts _ hi) (C.hts _ hc) (Nat.le_trans hdd C.room.1) (by have := C.room.2; omega) C.rc C.rs hd (k ls H locs hl hP hS)
theorem x_copy {a b N : Nat} {n : Int32} (C : Ok κ own cc nL d) (hm : Cond.methodLink own idx arraycopyName ∈ gtbl) (hnt : Cond.native arraycopyName ∈ gtbl) (hs : Cond.static arraycopyName ∈ gtbl) (hi : Cond.initialized "java/lang/System" ∈ gtbl) (hka : kd a = 10) (ha : a < NC) (hkb : kd b = 10) (hb : b < NC) (hn0 : ¬ n < 0) (hN : n.toNatClampNeg = N) (hla : N ≤ ln a) (hlb : N ≤ ln b) (hdd : 1 ≤ d) (hst : (st.map fun v => v.category).sum ≤ 8) (hroom : nativeFrameWords "java/lang/System" "arraycopy" 5 ≤ 40) (hd : decode cc pc = .ok (.invokestatic idx, 3)) (k : GG κ (pc + 3) loc st (wC σ a b N)) : GG κ pc loc (.int n :: .int 0 :: .ref (kad κ a) :: .int 0 :: .ref (kad κ b) :: st) σ := fun ls H locs hl hP hS => by
  subst hN
  refine va_copyi (ty := .int) C.hx C.hb (by rw [C.ml, ← C.nl]; exact hl.1.symm) C.hown (C.hts _ hm) (C.hts _ hnt) (C.hts _ hs) (C.hts _ hi) C.hK hP C.hD hS b a 0 0 ((wsN_at hb).trans (by rw [cellN_i hkb])) ((wsN_at ha).trans (by rw [cellN_i hka])) rfl rfl rfl (by decide) (by decide) hn0 (by show 0 + _ ≤ _; omega) (by show 0 + _ ≤ _; omega) (fun i _ => rfl) (Nat.le_trans hdd C.room.1) (by have := C.room.2; omega) hd (fun H1 locs1 hP1 hD1 hS1 => k ls H1 locs1 hl ?_ hS1)
  rw [wsN_set (σ' := wC σ a b n.toNatClampNeg) ha (fun q hq => cellN_wC_ne q hq) ?_] at hP1
  · exact hP1
  · rw [cellN_i hka]
    congr 4
    funext q
    show (if a = a ∧ q < n.toNatClampNeg then σ.1 b q else σ.1 a q) = (if 0 ≤ q ∧ q < 0 + n.toNatClampNeg then σ.1 b (0 + (q - 0)) else σ.1 a q)
    by_cases h : q < n.toNatClampNeg
    · rw [if_pos ⟨rfl, h⟩, if_pos ⟨Nat.zero_le _, by omega⟩, show 0 + (q - 0) = q by omega]
    · rw [if_neg (fun z => h z.2), if_neg (fun z => h (by omega))]
end XC
theorem nar_i (v : Int32) : narrow .int (.int v) = .int v := rfl
def isB (v : Int32) : Prop := v = 0 ∨ v = 1
theorem nar_z {v : Int32} (h : isB v) : narrow .boolean (.int v) = .int v := by rcases h with rfl | rfl <;> decide
theorem fit_z {v : Int32} (h : isB v) : fits .boolean (.int v) = true := by rcases h with rfl | rfl <;> decide
theorem fit_i (v : Int32) : fits .int (.int v) = true := rfl
theorem isB0 : isB 0 := Or.inl rfl
theorem isB1 : isB 1 := Or.inr rfl
