/-! THE CONSTRUCTORS: what they leave behind -/
def s0 : St := (fun c j => if (c = 6 ∨ c = 25 ∨ c = 44 ∨ c = 63) ∧ j = 0 then 8 else if c = 125 ∧ j = 2 then 10 else if c = 204 ∧ j = 13 then 10 else 0, fun _ _ => 0, fun j => ([5, 24, 43, 62] : List Nat).getD j 0)
def AD (n0 k : Nat) : Nat := n0 + k
def fc (n0 : Nat) (ca : Nat → ClassId) (k : Nat) : va_E := cellN (AD n0) ca s0 k
def DN (D : va_G) (ca : Nat → ClassId) (n0 : Nat) (H : Heap) (u v : Nat) : Prop := ∀ k, u ≤ k → k < v → va_at D vwCl (n0 + k, fc n0 ca k) H
def KM (D : va_G) (ca : Nat → ClassId) (U : State) : Prop := va_K D vwCl (tysL ca) U ∧ (va_AO RX0 U ∧ va_AO RX6 U) ∧ aoA .int U ∧ aoA .long U
theorem aoA_moved {ty : FieldType} {u U : State} (hvm : u.vm.Alike U.vm) (h : aoA ty u) : aoA ty U := by
  obtain ⟨comp, c, k, h1, h2, h3, h4, h5⟩ := arrayOverA_spec h
  obtain ⟨k', hk', he⟩ := hvm.2.2 _ _ h3
  have hi : (U.vm.classes.findIdx? fun (x : Class) => match x.kind with | .array component _ => component == comp | _ => false) = some c := by
    have e1 := va_idx_bare U.vm comp
    have e2 := va_idx_bare u.vm comp
    have e3 : u.vm.bare = U.vm.bare := by first | exact hvm.bare_eq | exact hvm.bare_eq.symm
    rw [e3] at e2
    exact e1.symm.trans (e2.trans h2)
  have hkind : k'.kind = .array comp (.array ty) := by rw [he]; exact h4
  have f1 : U.vm.findClass (FieldType.array ty).toString = some comp := by rw [hvm.findClass]; exact h1
  have f2 : U.vm.findClass ("[" ++ (FieldType.array ty).toString) = some c := by rw [hvm.findClass]; exact h5
  unfold aoA Cond.before Cond.holds
  simp only [Cond.value]
  rw [f1, Option.bind_some]
  refine (congrArg (fun o : Option Nat => (o.bind (fun c => (U.vm.classes[c]?).map fun (k : Class) => match k.kind with | .array _ t => decide (t = FieldType.array ty) && decide (U.vm.findClass ("[" ++ (FieldType.array ty).toString) = some c) | _ => false) == some true)) hi).trans ?_
  simp [hk', hkind, f2]
theorem KM_moved {D : va_G} {ca : Nat → ClassId} {u U : State} (hvm : u.vm.Alike U.vm) (h : KM D ca u) : KM D ca U := ⟨va_K.moved hvm h.1, ⟨va_AO.moved hvm h.2.1.1, va_AO.moved hvm h.2.1.2⟩, aoA_moved hvm h.2.2.1, aoA_moved hvm h.2.2.2⟩
section DNS
variable {D : va_G} {ca : Nat → ClassId} {n0 : Nat} {H H1 : Heap} {u v w : Nat}
theorem DN_lt {h : Nat} (hD : DN D ca n0 H u v) (o : ∀ q, q < h → H1[q]? = H[q]?) (hv : n0 + v ≤ h) : DN D ca n0 H1 u v := fun k k1 k2 => va_at_kept (hD k k1 k2) (o _ (by show n0 + k < h; omega))
theorem DN_ne {a : Nat} (hD : DN D ca n0 H u v) (o : ∀ q, q ≠ n0 + a → H1[q]? = H[q]?) (ha : a < u ∨ v ≤ a) : DN D ca n0 H1 u v := fun k k1 k2 => va_at_kept (hD k k1 k2) (o _ (by show n0 + k ≠ n0 + a; omega))
theorem DN_app (hD : DN D ca n0 H u v) (hE : DN D ca n0 H v w) : DN D ca n0 H u w := fun k k1 k2 => by
  by_cases e : k < v
  · exact hD k k1 e
  · exact hE k (by omega) k2
theorem DN_one {k : Nat} (h : va_at D vwCl (n0 + k, fc n0 ca k) H) : DN D ca n0 H k (k + 1) := fun j j1 j2 => by
  have : j = k := by omega
  subst this; exact h
theorem DN_nil : DN D ca n0 H u u := fun k k1 k2 => by omega
theorem at_i {k N : Nat} {f : Nat → Int32} (hk : kd k = 10) (hl : ln k = N) (hf : ∀ j, j < N → f j = s0.1 k j) (h : va_at D vwCl (n0 + k, .inl (ca 0, N, .inl f)) H) : va_at D vwCl (n0 + k, fc n0 ca k) H := by
  unfold fc
  rw [cellN_i hk, hl]
  show H[n0 + k]? = some (vp_cell (ca 0) (N, .inl (s0.1 k)))
  rw [vp_cell_i, ← arrV_cong (fun j hj => congrArg Value.int (hf j hj))]
  exact h
theorem at_z {k N : Nat} {f : Nat → Int32} (hk : kd k = 11) (hl : ln k = N) (hf : ∀ j, j < N → f j = s0.1 k j) (h : va_at D vwCl (n0 + k, .inl (ca 1, N, .inl f)) H) : va_at D vwCl (n0 + k, fc n0 ca k) H := by
  unfold fc
  rw [cellN_z hk, hl]
  show H[n0 + k]? = some (vp_cell (ca 1) (N, .inl (s0.1 k)))
  rw [vp_cell_i, ← arrV_cong (fun j hj => congrArg Value.int (hf j hj))]
  exact h
theorem at_l {k N : Nat} {f : Nat → Int64} (hk : kd k = 12) (hl : ln k = N) (hf : ∀ j, j < N → f j = s0.2.1 k j) (h : va_at D vwCl (n0 + k, .inl (ca 2, N, .inr (.inl f))) H) : va_at D vwCl (n0 + k, fc n0 ca k) H := by
  unfold fc
  rw [cellN_l hk, hl]
  show H[n0 + k]? = some (vp_cell (ca 2) (N, .inr (.inl (s0.2.1 k))))
  rw [vp_cell_l, ← arrV_cong (fun j hj => congrArg Value.long (hf j hj))]
  exact h
theorem at_q {k N c : Nat} {f : Nat → Option Nat} (hk : kd k = c) (hc : 12 < c) (hl : ln k = N) (hf : ∀ j, j < N → f j = some (n0 + mrN s0.2.2 k j)) (h : va_at D vwCl (n0 + k, .inl (ca (c - 10), N, .inr (.inr (.inr (.inr f))))) H) : va_at D vwCl (n0 + k, fc n0 ca k) H := by
  unfold fc
  rw [cellN_q hk hc, hl]
  show H[n0 + k]? = some (vp_cell (ca (c - 10)) (N, .inr (.inr (.inr (.inr (fun j => some (n0 + mrN s0.2.2 k j)))))))
  rw [vp_cell_q, ← arrV_cong (fun j hj => congrArg va_rf (hf j hj))]
  exact h
theorem at_o {k ci : Nat} {fs : List Value} (hk : kd k = ci) (hc : ci < 10) (hf : fs = fvs (AD n0) ci (ln k) (s0.1 k) (s0.2.1 k) (mrN s0.2.2 k)) (h : va_at D vwCl (n0 + k, .inr (ci, fs)) H) : va_at D vwCl (n0 + k, fc n0 ca k) H := by
  unfold fc
  rw [cellN_obj hk hc, ← hf]
  exact h
/-- a table of rows, all of it -/
theorem DN_mna {k N K c c1 : Nat} {z : vp_A} (hk : kd k = c) (hc : 12 < c) (hl : ln k = N) (hm : ∀ j, j < N → mrN s0.2.2 k j = k + 1 + j) (h : va_at D vwCl (n0 + k, .inl (ca (c - 10), N, .inr (.inr (.inr (.inr (fun j => if j < N then some (n0 + k + 1 + j) else none)))))) H) (hr : ∀ j, j < N → va_at D vwCl (n0 + k + 1 + j, fc n0 ca (k + 1 + j)) H) : DN D ca n0 H k (k + 1 + N) := fun j j1 j2 => by
  by_cases e : j = k
  · subst e
    exact at_q hk hc hl (fun i hi => by rw [if_pos hi, hm i hi]; congr 1; omega) h
  · have := hr (j - (k + 1)) (by omega)
    rw [show n0 + k + 1 + (j - (k + 1)) = n0 + j by omega, show k + 1 + (j - (k + 1)) = j by omega] at this
    exact this
end DNS
def rmM (d mc ms : Nat) : Room := { frames := d, cells := mc, slots := ms, locals := 64 * d }
def QM (n0 a b : Nat) (D : va_G) (ca : Nat → ClassId) : Array Value → State → Outcome → State → Prop := va_Qv (fun _ : Unit => True) (fun _ t => t.heap.size = n0 + b ∧ DN D ca n0 t.heap a b) (fun q => n0 + a ≤ q)
def CtM (l : Launch) (y : MethodName) (cc : ByteArray) (nL d mc ms : Nat) (av : List Value) (n0 a b ci : Nat) (fs : List Value) (D : va_G) (ca : Nat → ClassId) : Prop :=
  Met l y (Cond.code y cc nL none :: gtbl) (rmM d mc ms) (va_Pc av (fun U => U.heap.size = n0 + (a + 1) ∧ va_at D vwCl (n0 + a, .inr (ci, fs)) U.heap ∧ KM D ca U)) (QM n0 a b D ca) mc ms (fun q => n0 + a ≤ q)
section CTM
variable {p : Program} {l : Launch} {e : Env} {R : Room} {s : State} {m : MethodId} {args : Array Value} {below : List Frame} {meth : Method} {c : Code} {H : Heap} {locs : List Loc} {cells slots : Nat} {Q : State → Prop}
variable {cc : ByteArray} {pc : Nat} {ls : Array Slot} {rest : List Value} {D : va_G} {A : Nat → Prop} {H0 : Heap} {own : String} {ca : Nat → ClassId}
theorem y_obj {index nL a : Nat} (C : MC p s m args c cc own D ca) (hml : c.maxLocals = nL) (hls : ls.size = nL) (hlink : Cond.methodLink own index Lib.objectInit ∈ gtbl) (hinst : Cond.instanceMethod Lib.objectInit ∈ gtbl) (hcode : Cond.code Lib.objectInit ⟨#[0xb1]⟩ 1 none ∈ gtbl) (hframes : 1 ≤ R.frames) (hlocals : 12 ≤ R.locals) (hdg : decode cc pc = .ok (.invokespecial index, 3)) (kk : W p l e R s m args below meth c H locs cells slots Q (F0 m (pc + 3) ls [])) : W p l e R s m args below meth c H locs cells slots Q (F0 m pc ls [.ref a]) := by
  obtain ⟨hx, hb, hown, hts, hK⟩ := C
  exact W.objInit hx hb hown (hts _ hlink) (hts _ hinst) (hts _ hcode) rfl (by rw [hml]; exact hls) rfl hdg hframes (by show 2 * 0 + 0 + 12 ≤ R.locals; omega) kk
theorem y_ctor {y : MethodName} {cc' : ByteArray} {nL' d' mc ms n n0 a b ci index nL : Nat} {As fs : List Value} (C : MC p s m args c cc own D ca) (hKM : KM D ca s) (hml : c.maxLocals = nL) (hls : ls.size = nL) (hM : CtM l y cc' nL' d' mc ms (.ref (n0 + a) :: As) n0 a b ci fs D ca) (hcode : Cond.code y cc' nL' none ∈ gtbl) (hini : Cond.initialized y.cls ∈ gtbl) (hlink : Cond.methodLink own index y ∈ gtbl) (hinst : Cond.instanceMethod y ∈ gtbl) (hy1 : y.name = "<init>") (hd : y.cls ≠ "java/lang/invoke/MethodHandle" ∧ y.cls ≠ "java/lang/invoke/VarHandle" ∧ (parseMethodDescriptor y.desc).map (fun d => d.parameters.length) = some n) (hR : d' + 1 ≤ R.frames ∧ 8 + (nL' + 11) + 64 * d' ≤ R.locals) (hn : As.length = n) (hroom : (rest.map fun v => v.category).sum ≤ 8) (hz : H.size = n0 + (a + 1)) (hat : va_at D vwCl (n0 + a, .inr (ci, fs)) H) (hA : ∀ q, n0 + a ≤ q → A q) (hS : va_S A H0 H locs) (hcells : cells + mc ≤ R.cells) (hslots : slots + ms ≤ R.slots) {st0 : List Value} (hst : st0 = As.reverse ++ .ref (n0 + a) :: rest) (hdg : decode cc pc = .ok (.invokespecial index, 3))
    (kk : ∀ (H1 : Heap) (locs1 : List Loc), H1.size = n0 + b → (∀ q, q < n0 + a → H1[q]? = H[q]?) → DN D ca n0 H1 a b → va_S A H0 H1 locs1 → W p l e R s m args below meth c H1 locs1 (cells + mc) (slots + ms) Q (F0 m (pc + 3) ls rest)) : W p l e R s m args below meth c H locs cells slots Q (F0 m pc ls st0) := by
  obtain ⟨hx, hb, hown, hts, hK⟩ := C
  refine va_callv (va_runI (As := As) (rest := rest) ⟨hx, hb, hml, hown, hts⟩ hM (cwI n hts (good_gt hcode) rfl rfl rfl (hts _ hini) (hts _ hlink) (hts _ hinst) hy1 hd hR) ⟨fun a U g mk q => by obtain ⟨q0, qs, qa, qK⟩ := q; exact ⟨q0, qs, qa, KM_moved (u := U) (U := U.calling g mk a) (Vm.Alike.refl U.vm) qK⟩, fun U hU hW => ⟨rfl, by rw [hU]; exact hz, by rw [hU]; exact hat, KM_moved hW.alike hKM⟩⟩ rfl hn hls hst (lv_room hroom) hdg ⟨hcells, hslots⟩) hS (fun q _ h => hA q h) hA (fun u t H1 locs1 ht hvm _ hB hz1 hk1 hS1 => ?_)
  rw [ht] at hB
  exact kk H1 locs1 hB.1 (fun q hq => hk1 q (by omega) (by show ¬ n0 + a ≤ q; omega)) hB.2 hS1
theorem y_ret {n0 a b mc ms : Nat} (C : MC p s m args c cc own D ca) (hr : meth.sig.returnType = none) (hlocks : meth.locks = false) (hz : H.size = n0 + b) (dn : DN D ca n0 H a b) (hS : va_S (fun q => n0 + a ≤ q) s.heap H locs) (hdg : decode cc pc = .ok (.return_, 1)) : W p l e R s m args below meth c H locs mc ms (MQ below (QM n0 a b D ca) args s mc ms (fun q => n0 + a ≤ q)) (F0 m pc ls []) := by
  obtain ⟨hx, hb, hown, hts, hK⟩ := C
  exact W.vret (Qc := QM n0 a b D ca) hx hb hr (fun t ht hW => ⟨⟨(), rfl, trivial, by dsimp only; rw [ht]; exact ⟨hz, dn⟩⟩, hS.F ht⟩) hS.2.2 hdg
end CTM
theorem CtM_of {l : Launch} {y : MethodName} {cc : ByteArray} {nL d mc ms n0 a b ci : Nat} {av fs : List Value} {D : va_G} {ca : Nat → ClassId} (hy : plainFor y = true) (hyn : y.name = "<init>") (hav : (lg_sl av).length ≤ nL)
    (body : ∀ (p : Program) (e : Env) (s : State) (m : MethodId) (below : List Frame) (meth : Method) (c : Code) (ls : Array Slot), MC p s m av.toArray c cc y.cls D ca → KM D ca s → c.maxLocals = nL → meth.sig.returnType = none → meth.locks = false → meth.name = "<init>" → s.heap.size = n0 + (a + 1) → va_at D vwCl (n0 + a, .inr (ci, fs)) s.heap → lv_has ls nL (lv_args 0 av) → W p l e (rmM d mc ms) s m av.toArray below meth c s.heap [] 0 0 (MQ below (QM n0 a b D ca) av.toArray s mc ms (fun q => n0 + a ≤ q)) (F0 m 0 ls [])) : CtM l y cc nL d mc ms av n0 a b ci fs D ca := by
  refine ofWF (cc := cc) (maxL := nL) (ret := none) hy rfl ?_
  intro p e s m args below meth c s₁ B hml hv
  obtain ⟨rfl, hsz, hat, hKM⟩ := hv
  have hts := atoms_spec (ws := Cond.code y cc nL none :: gtbl) B.pre
  have hin : meth.name = "<init>" := (name_of_methodNamed B.named B.method).1.trans hyn
  have hl := lv_entry av (n := nL) hav
  rw [lg_entry_eq]
  exact body p e s m below meth c _ ⟨B.exec, B.bytes, findClass_of_methodNamed B.named, fun w h => hts w (List.mem_cons_of_mem _ h), hKM.1⟩ hKM hml B.returns B.notSynchronized hin hsz hat hl
