/-! riskHead -/
def rstep (v : Nat → Nat → Int) (acc : Option (List Nat)) (l : List Nat) : Option (List Nat) := match acc with
  | none => some l
  | some r => if tot v 1 r < tot v 1 l then some l else some r
def rsF (v : Nat → Nat → Int) (A : List (List Nat)) : Option (List Nat) := A.foldl (rstep v) none
theorem rsF_max {v : Nat → Nat → Int} {n : Nat} (hn : n ≤ 6) : ∀ (A D : List (List Nat)) (acc : Option (List Nat)), (D ++ A).Pairwise (fun a b => cod 1 a < cod 1 b) → (∀ l, l ∈ D ++ A → l ∈ allT n) → ((acc = none ∧ D = []) ∨ ∃ r, acc = some r ∧ r ∈ D ∧ ∀ l, l ∈ D → WT v l ≤ WT v r) → ((A.foldl (rstep v) acc = none ∧ D ++ A = []) ∨ ∃ r, A.foldl (rstep v) acc = some r ∧ r ∈ D ++ A ∧ ∀ l, l ∈ D ++ A → WT v l ≤ WT v r) := by
  intro A
  induction A with
  | nil => intro D acc h1 h2 h3; rw [List.append_nil]; exact h3
  | cons a A ih =>
    intro D acc h1 h2 h3
    have e : D ++ a :: A = (D ++ [a]) ++ A := by simp
    rw [e] at h1 h2 ⊢
    rw [List.foldl_cons]
    refine ih (D ++ [a]) _ h1 h2 (Or.inr ?_)
    rcases h3 with ⟨q1, q2⟩ | ⟨r, q1, q2, q3⟩
    · subst q1 q2
      exact ⟨a, rfl, by simp, fun l hl => by
        rw [List.nil_append, List.mem_singleton] at hl
        rw [hl]; exact Int.le_refl _⟩
    · subst q1
      have hra : cod 1 r < cod 1 a := by
        have := (List.pairwise_append.mp h1).1
        exact (List.pairwise_append.mp this).2.2 r q2 a (by simp)
      have hca := WT_code hn (h2 a (by simp))
      have hcr := WT_code hn (h2 r (by simp [q2]))
      unfold rstep
      dsimp only
      by_cases q : tot v 1 r < tot v 1 a
      · rw [if_pos q]
        refine ⟨a, rfl, by simp, fun l hl => ?_⟩
        rcases List.mem_append.mp hl with z | z
        · have := q3 l z
          refine Int.le_trans this ?_
          rw [WT_eq, WT_eq]; omega
        · rw [List.mem_singleton.mp z]; exact Int.le_refl _
      · rw [if_neg q]
        refine ⟨r, rfl, by simp [q2], fun l hl => ?_⟩
        rcases List.mem_append.mp hl with z | z
        · exact q3 l z
        · rw [List.mem_singleton.mp z, WT_eq, WT_eq]; omega
noncomputable abbrev vR (s : AS) (j h w : Nat) : Int := (wArc s j h w).toInt
section RSK
variable {σ : St} {s : AS}
theorem rsF_adm (hw : wf s) {j : Nat} (hj : j < aM s) : (rsF (vR s j) (admL s j) = none ∧ admL s j = []) ∨ ∃ r, rsF (vR s j) (admL s j) = some r ∧ r ∈ admL s j ∧ ∀ l, l ∈ admL s j → WT (vR s j) l ≤ WT (vR s j) r := by
  have := rsF_max (v := vR s j) ((hw.2.1.2 j hj).1).2 (admL s j) [] none (by rw [List.nil_append]; exact admL_sorted hw hj) (fun l hl => by rw [List.nil_append] at hl; exact (admL_mem.mp hl).1) (Or.inl ⟨rfl, rfl⟩)
  rw [List.nil_append] at this
  exact this
theorem vR_bd (hw : wf s) {j : Nat} (hj : j < aM s) (h w : Nat) : 0 ≤ vR s j h w ∧ vR s j h w ≤ 2985984000000 := by
  have h1 := ws_bd hw hj
  have h2 := wsA_bd hw hj h w
  unfold vR wArc
  omega
noncomputable def rkV (s : AS) (j w : Nat) : Int32 := if wAll s j = 0 then NONEV else match rsF (vR s j) (admL s j) with
  | none => NONEV
  | some r => nI (hL r w)
noncomputable def an_riskHead (s : AS) (p q : Int32) : Int32 := match idx p (aM s) with
  | none => BADI
  | some j => match wdx q (sZ (aS s j)) with
    | none => BADI
    | some w => rkV s j w
theorem c_riskHead {K : Int32 → St → Prop} {p q : Int32} (h : RC σ s) (hw : wf s) (hK : ∀ σ', RC σ' s → frM σ σ' → K (an_riskHead s p q) σ') : P_X7_riskHead p q σ K := by
  unfold P_X7_riskHead
  have hm := h.m4
  refine find_C h (fun hi => ⟨fun _ => ?_, fun b e => by cases e⟩) (fun j hj hp hi => ⟨fun e => (by cases e), fun b e => ?_⟩)
  · rw [an_riskHead, hi] at hK; exact hK σ h frM.rf
  · cases e
    rw [an_riskHead, hi] at hK
    dsimp only at hK
    have hz := hw.sz hj
    have hwS := hw.2.1.2 j hj
    refine ⟨h.sok (by omega), hasWord_C (h.sent hj).1 (by omega) (fun hv => ⟨fun _ => ?_, fun z => absurd rfl z⟩) (fun w w1 w2 hq hv => ⟨fun z => absurd z (by decide), fun _ => ?_⟩)⟩
    · rw [hv] at hK; exact hK σ h frM.rf
    · subst hq
      rw [hv] at hK
      dsimp only at hK
      refine sumW_C h hw hj (fun σ1 B F P f1 r1 E hC hP => ⟨fun z => ?_, fun z => ?_⟩)
      · have hne := (all_pos hw hj).mp z
        refine spr_C r1 hw hj E hC hP (fun σ2 f2 r2 hA => ?_)
        have e2 : σ2.2.2 = σ.2.2 := f2.2.2.2.trans f1.2.2.2
        have hs2 := r2.sent hj
        rw [e2] at hs2
        refine offerArcs_C (v := vR s j) (vI := wArc s j) hwS (h.sok (i := j) (by omega)) hs2 (fun a u _ _ _ => ⟨rfl, by have := vR_bd hw hj a u; omega, by have := vR_bd hw hj a u; omega⟩) (fun y => absurd y (by decide)) (fun _ σ' a u C hf u1 u2 hc hCC => hA σ' C a u (fun c c1 c2 => hf.2.2.1 c (by omega)) hc.1 u1 u2 hCC) (fun σ3 of f3 e3 ho => ?_)
        have r3 := RC_fr r2 (frO2_C f3)
        have hO : OFS (sZ (aS s j)) (sgP s) (pjP s) (chP (aS s j)) (vR s j) of σ3 := ⟨hwS.1.1, hwS.1.2, e3, by rw [r3.g1], by rw [r3.g2], ho, fun a w _ _ hc => ⟨hc.1, hc.2.1⟩, fun a w _ _ _ => by have := vR_bd hw hj a w; omega⟩
        refine seek_C (k := 1) (by omega) (by omega) hO (fun σ4 L f4 hKS hTop => ?_)
        have hk := hK σ4 (RC_fr r3 (frS_C f4)) ((((frU_M f1).tr (frU_M f2)).tr (frO2_M f3)).tr (frS_M f4))
        unfold rkV at hk
        rw [if_neg hne] at hk
        have hLl := hKS.1
        rw [hKS.2.1, show (0 : Int32) = nI 0 from rfl, nI_eq (by omega) (by omega)]
        rcases rsF_adm hw hj with ⟨q1, q2⟩ | ⟨r, q1, q2, q3⟩
        · exfalso
          apply hne
          unfold wAll; rw [q2]; rfl
        · rw [q1] at hk
          dsimp only at hk
          obtain ⟨m1, m2⟩ := admL_mem.mp q2
          have hin : admS (sgP s) (pjP s) (chP (aS s j)) (vR s j) (sZ (aS s j)) (WT (vR s j) r) := ⟨r, m1, m2, rfl⟩
          have hL0 : L ≠ [] := fun e => by
            rcases hTop.2.2.2 _ hin with y | y
            · rw [e] at y; cases y
            · rw [e] at y; cases y.1
          have hL1 : 0 < L.length := List.length_pos_iff.mpr hL0
          refine ⟨fun y => by omega, fun _ => ?_⟩
          have hx : L[0] = WT (vR s j) r := by
            obtain ⟨l, l1, l2, l3⟩ := hTop.2.2.1 L[0] (List.getElem_mem hL1)
            have a1 := q3 l (admL_mem.mpr ⟨l1, l2⟩)
            rw [← l3] at a1
            rcases hTop.2.2.2 _ hin with y | ⟨_, y⟩
            · obtain ⟨i, hi, e⟩ := List.mem_iff_getElem.mp y
              have : i = 0 := by omega
              subst this
              exact e
            · have := y L[0] (List.getElem_mem hL1)
              omega
          have ht := tot_small (v := vR s j) (B := 2985984000000) (by omega) (fun h w => by have := vR_bd hw hj h w; omega) r 1
          have hrl : (r.length : Int) ≤ 6 := by have := (all6 hwS.1.2 m1).1; have := hwS.1.2; omega
          exact headAt_C2 (v := vR s j) hwS.1.2 (by omega) hKS hL1 m1 hx ⟨by omega, by omega⟩ w1 w2 hk
      · have hk := hK σ1 r1 (frU_M f1)
        unfold rkV at hk
        rw [if_pos (Classical.byContradiction (fun y => z ((all_pos hw hj).mpr y)))] at hk
        exact hk
/-! the reference -/
def frRk (σ σ' : St) : Prop := (∀ c, c ≠ 219 → c ≠ 224 → σ'.1 c = σ.1 c) ∧ (∀ c, c ≠ 204 → σ'.2.1 c = σ.2.1 c) ∧ (∀ f, f ≠ 29 → σ'.2.1 204 f = σ.2.1 204 f) ∧ σ'.2.2 = σ.2.2
theorem frRk.rf {σ : St} : frRk σ σ := ⟨fun _ _ _ => rfl, fun _ _ => rfl, fun _ _ => rfl, rfl⟩
theorem frRk.tr {a b c : St} (h : frRk a b) (h2 : frRk b c) : frRk a c := ⟨fun k k1 k2 => (h2.1 k k1 k2).trans (h.1 k k1 k2), fun k hk => (h2.2.1 k hk).trans (h.2.1 k hk), fun f hf => (h2.2.2.1 f hf).trans (h.2.2.1 f hf), h2.2.2.2.trans h.2.2.2⟩
theorem frRk_K {a b : St} (h : frRk a b) : frK a b := ⟨fun k hk => ⟨h.1 k (by omega) (by omega), h.2.1 k (by omega)⟩, h.2.2.2⟩
theorem frRk_RM {a b : St} (h : RM a s) (hf : frRk a b) : RM b s := RM_fr h (fun k _ k2 => hf.1 k (by omega) (by omega)) (fun j _ => by rw [hf.1 204 (by omega) (by omega)])
def rsk (v : Nat → Nat → Int) (n : Nat) (σ : St) : Option (List Nat) → Prop
  | none => (σ.2.1 204 29).toInt = -1
  | some r => (σ.2.1 204 29).toInt = tot v 1 r ∧ ∀ w, 1 ≤ w → w ≤ n → σ.1 224 w = nI (hL r w)
theorem rsk_fr {v : Nat → Nat → Int} {n : Nat} {σ' : St} {acc : Option (List Nat)} (h : rsk v n σ acc) (e1 : σ'.2.1 204 29 = σ.2.1 204 29) (e2 : σ'.1 224 = σ.1 224) : rsk v n σ' acc := by
  cases acc with
  | none => unfold rsk at h ⊢; rw [e1]; exact h
  | some r => unfold rsk at h ⊢; rw [e1, e2]; exact h
theorem tot_nn {v : Nat → Nat → Int} (hv : ∀ h w, 0 ≤ v h w ∧ v h w ≤ 2985984000000) : ∀ (l : List Nat) (w : Nat), 0 ≤ tot v w l ∧ tot v w l ≤ 2985984000000 * (l.length : Int)
  | [], w => by rw [tot]; exact ⟨Int.le_refl _, by rw [List.length_nil]; omega⟩
  | h :: r, w => by
    have := tot_nn hv r (w + 1)
    have := hv h w
    rw [tot, List.length_cons]
    omega
theorem risks_M {K : St → Prop} {n : Nat} {v : Nat → Nat → Int} {l : List Nat} {acc : Option (List Nat)} (hn : n ≤ 6) (hl : l ∈ allT n) (ht : ∀ w, 1 ≤ w → w ≤ n → σ.1 219 w = nI (hL l w)) (hv : ∀ h w, 0 ≤ v h w ∧ v h w ≤ 2985984000000) (ha : ∀ h w, h ≤ n → 1 ≤ w → w ≤ n → (σ.2.1 223 (7 * h + w)).toInt = v h w) (hr : rsk v n σ acc) (hK : ∀ σ', frRk σ σ' → σ'.1 219 = σ.1 219 → rsk v n σ' (rstep v acc l) → K σ') : P_X8_risks (nI n) σ K := by
  unfold P_X8_risks
  obtain ⟨l1, l2⟩ := allT_mem.mp hl
  refine LpE_for (S := Int64 × Int32 × St) (T := Int64) (fun i t => (t, nI (i + 1), σ)) (fun i t => t.toInt = tot v 1 (l.take i)) n ?_ 0 0 (by omega) (by rw [List.take_zero, tot]; decide)
  intro i t c hi hI hc
  dsimp only
  unfold F_X8_risks_5
  rw [nI_ltI (by omega) (by omega)]
  refine ⟨fun z => ?_, fun z => ⟨vp_in_nI (by omega) (by decide), ?_⟩⟩
  · rw [List.take_of_length_le (by omega)] at hI
    have hnn := tot_nn hv l 1
    refine ⟨fun y => hK σ frRk.rf rfl ?_, fun y s1 e1 => ?_⟩
    · rw [Int64.le_iff_toInt_le, hI] at y
      cases acc with
      | none => unfold rsk at hr; omega
      | some r =>
        unfold rstep
        dsimp only
        have h1 := hr.1
        rw [if_neg (by omega)]; exact hr
    · have hnew : rstep v acc l = some l := by
        rw [Int64.le_iff_toInt_le, hI] at y
        cases acc with
        | none => rfl
        | some r =>
          unfold rstep
          dsimp only
          have h1 := hr.1
          rw [if_pos (by omega)]
      rw [hnew] at hK
      refine LpE_for (S := Int32 × St) (fun i t => (nI (i + 1), t)) (fun i σ' => frRk σ σ' ∧ σ'.1 219 = σ.1 219 ∧ σ'.2.1 204 29 = t ∧ ∀ w, 1 ≤ w → w ≤ i → σ'.1 224 w = nI (hL l w)) n ?_ 0 s1 (by omega) ⟨⟨fun c _ _ => by rw [e1, wL_1], fun c hc => by rw [e1, wL_ne hc], fun f hf => by rw [e1, wL_no (Or.inr hf)], by rw [e1, wL_22]⟩, by rw [e1, wL_1], by rw [e1, wL_self], fun w w1 w2 => by omega⟩
      intro k σ2 c2 hk ⟨g1, g2, g3, g4⟩ hc2
      dsimp only
      unfold F_X8_risks_55
      rw [nI_ltI (by omega) (by omega)]
      refine ⟨fun q => hK σ2 g1 g2 ⟨by rw [g3]; exact hI, fun w w1 w2 => g4 w w1 (by omega)⟩, fun q => ⟨vp_in_nI (by omega) (by decide), vp_in_nI (by omega) (by decide), fun s4 e4 v5 e5 => ?_⟩⟩
      rw [ix_nI (by omega), g2, ht (k + 1) (by omega) (by omega)] at e4
      rw [nI_1] at e5
      rw [e5]
      refine hc2 s4 (by omega) ⟨g1.tr ⟨fun c _ hc => by rw [e4, wI_ne hc], fun c _ => by rw [e4, wI_2], fun f _ => by rw [e4, wI_2], by rw [e4, wI_2]⟩, by rw [e4, wI_ne (by omega)]; exact g2, by rw [e4, wI_2]; exact g3, fun w w1 w2 => ?_⟩
      rw [e4]
      by_cases e : w = k + 1
      · rw [e]; exact wI_self
      · rw [wI_ni e]; exact g4 w w1 (by omega)
  · have hh := l2 (i + 1) (by omega) (by omega)
    rw [ix_nI (by omega), ht (i + 1) (by omega) (by omega), pl7, ix_nI (by omega)]
    refine ⟨vp_in_nI (by omega) (by decide), fun v8 e8 v9 e9 => ?_⟩
    have hnn := tot_nn hv (l.take i) 1
    have hlt : ((l.take i).length : Int) ≤ 6 := by rw [List.length_take]; omega
    have hb := hv (hL l (i + 1)) (i + 1)
    have ea := ha (hL l (i + 1)) (i + 1) hh.1 (by omega) (by omega)
    rw [nI_1] at e9
    rw [e9]
    refine hc v8 (by omega) ?_
    rw [e8, I64_add (by rw [hI, ea]; omega) (by rw [hI, ea]; omega), hI, ea]
    have : l.take (i + 1) = l.take i ++ [hL l (i + 1)] := by
      rw [List.take_add_one, hL_get (by omega) (by omega)]
      simp [List.getElem?_eq_getElem (show i < l.length by omega)]
    rw [this, tot_app, tot, tot, List.length_take, show 1 + min i l.length = i + 1 by omega]
    omega
theorem looksR_M {K : St → Prop} {j : Nat} (hr : RM σ s) (hw : wf s) (hj : j < aM s) (ha : ∀ h w, h ≤ sZ (aS s j) → 1 ≤ w → w ≤ sZ (aS s j) → σ.2.1 223 (7 * h + w) = wArc s j h w) (h29 : σ.2.1 204 29 = -1) (hK : ∀ σ', frRk σ σ' → rsk (vR s j) (sZ (aS s j)) σ' (rsF (vR s j) (admL s j)) → K σ') : P_X8_looksForRisk (nI j) σ K := by
  unfold P_X8_looksForRisk
  have hm := hr.m4
  have hwS := hw.2.1.2 j hj
  have hz := hwS.1
  refine begins_M (fun σ2 b1 b2 => ?_)
  have key : ∀ (E D : List (List Nat)) (c : List Nat) (σ' : St), allT (sZ (aS s j)) = D ++ c :: E → frRk σ σ' → (∀ w, 1 ≤ w → w ≤ sZ (aS s j) → σ'.1 219 w = nI (hL c w)) → rsk (vR s j) (sZ (aS s j)) σ' (rsF (vR s j) (D.filter (fun l => @decide (admT (sgP s) (pjP s) (chP (aS s j)) (sZ (aS s j)) l) (Classical.propDecidable _)))) → Lp (fun c s => F_X8_looksForRisk_6 K c (nI j) s.1 s.2) (E.length + 2) (1, σ') := by
    intro E
    induction E with
    | nil =>
      intro D c σ' hall2 hf ht hL
      have hcm : c ∈ allT (sZ (aS s j)) := by rw [hall2]; simp
      have hRM := frRk_RM hr hf
      show F_X8_looksForRisk_6 K (Lp (fun c s => F_X8_looksForRisk_6 K c (nI j) s.1 s.2) 1) (nI j) 1 σ'
      generalize hcc : Lp (fun c s => F_X8_looksForRisk_6 K c (nI j) s.1 s.2) 1 = cc
      unfold F_X8_looksForRisk_6
      refine ⟨fun z => absurd z (by decide), fun _ => ?_⟩
      have h28 : ∀ σ3, frRk σ' σ3 → σ3.1 219 = σ'.1 219 → rsk (vR s j) (sZ (aS s j)) σ3 (rsF (vR s j) (admL s j)) → J_X8_looksForRisk_28 K cc (nI j) σ3 := by
        intro σ3 r1 r2 r3
        unfold J_X8_looksForRisk_28
        refine ⟨vp_in_nI (by omega) (by decide), ?_⟩
        rw [ix_nI (by omega), (frRk_RM hRM r1).sz hj]
        have hst : stepL (sZ (aS s j)) 1 c = none := stepL_chain _ 1 D c [] hall2
        refine steps_M hz.2 hcm (fun w w1 w2 => by rw [r2]; exact ht w w1 w2) (fun c' σ4 e _ _ => by rw [hst] at e; cases e) (fun σ4 _ t1 => ?_)
        rw [← hcc]
        show F_X8_looksForRisk_6 K _ (nI j) 0 σ4
        unfold F_X8_looksForRisk_6
        refine ⟨fun _ => ?_, fun z => absurd rfl z⟩
        have f4 : frRk σ3 σ4 := ⟨fun c c1 _ => t1.2 c c1, fun c _ => by rw [t1.1], fun f _ => by rw [t1.1], by rw [t1.1]⟩
        exact hK σ4 (hf.tr (r1.tr f4)) (rsk_fr r3 (by rw [t1.1]) (by rw [t1.2 224 (by omega)]))
      have hadm : admL s j = (D ++ [c]).filter (fun l => @decide (admT (sgP s) (pjP s) (chP (aS s j)) (sZ (aS s j)) l) (Classical.propDecidable _)) := by unfold admL; rw [hall2]
      refine isAdm_M (sg := sgP s) (pj := pjP s) (by omega) hz.1 hz.2 rfl hcm (hRM.sz hj) (fun a w a1 w1 => hRM.co hj a1 w1) ht (by rw [hRM.g1]) (by rw [hRM.g2]) (fun hd => ⟨fun z => absurd z (by decide), fun _ => ⟨vp_in_nI (by omega) (by decide), ?_⟩⟩) (fun hd => ⟨fun _ => h28 σ' frRk.rf rfl ?_, fun z => absurd rfl z⟩)
      · rw [ix_nI (by omega), hRM.sz hj]
        refine risks_M (v := vR s j) hz.2 hcm ht (vR_bd hw hj) (fun h w h1 w1 w2 => congrArg Int64.toInt ((congrFun (hf.2.1 223 (by omega)) _).trans (ha h w h1 w1 w2))) hL (fun σ3 r1 r2 r3 => h28 σ3 r1 r2 ?_)
        rw [hadm, List.filter_append, List.filter_cons, if_pos (by simpa using hd), List.filter_nil]
        unfold rsF at r3 ⊢
        rw [List.foldl_append]; exact r3
      · rw [hadm, List.filter_append, List.filter_cons, if_neg (by simpa using hd)]
        simpa using hL
    | cons e E ih =>
      intro D c σ' hall2 hf ht hL
      have hcm : c ∈ allT (sZ (aS s j)) := by rw [hall2]; simp
      have hRM := frRk_RM hr hf
      show F_X8_looksForRisk_6 K (Lp (fun c s => F_X8_looksForRisk_6 K c (nI j) s.1 s.2) (E.length + 2)) (nI j) 1 σ'
      generalize hcc : Lp (fun c s => F_X8_looksForRisk_6 K c (nI j) s.1 s.2) (E.length + 2) = cc
      unfold F_X8_looksForRisk_6
      refine ⟨fun z => absurd z (by decide), fun _ => ?_⟩
      have h28 : ∀ σ3, frRk σ' σ3 → σ3.1 219 = σ'.1 219 → rsk (vR s j) (sZ (aS s j)) σ3 (rsF (vR s j) ((D ++ [c]).filter (fun l => @decide (admT (sgP s) (pjP s) (chP (aS s j)) (sZ (aS s j)) l) (Classical.propDecidable _)))) → J_X8_looksForRisk_28 K cc (nI j) σ3 := by
        intro σ3 r1 r2 r3
        unfold J_X8_looksForRisk_28
        refine ⟨vp_in_nI (by omega) (by decide), ?_⟩
        rw [ix_nI (by omega), (frRk_RM hRM r1).sz hj]
        have hst : stepL (sZ (aS s j)) 1 c = some e := stepL_chain _ 1 D c (e :: E) hall2
        refine steps_M hz.2 hcm (fun w w1 w2 => by rw [r2]; exact ht w w1 w2) (fun c' σ4 ee t1 t2 => ?_) (fun σ4 ee _ => by rw [hst] at ee; cases ee)
        rw [hst] at ee
        cases ee
        have f4 : frRk σ3 σ4 := ⟨fun c c1 _ => t1.2 c c1, fun c _ => by rw [t1.1], fun f _ => by rw [t1.1], by rw [t1.1]⟩
        rw [← hcc]
        exact ih (D ++ [c]) e σ4 (by rw [hall2]; simp) (hf.tr (r1.tr f4)) t2 (rsk_fr r3 (by rw [t1.1]) (by rw [t1.2 224 (by omega)]))
      refine isAdm_M (sg := sgP s) (pj := pjP s) (by omega) hz.1 hz.2 rfl hcm (hRM.sz hj) (fun a w a1 w1 => hRM.co hj a1 w1) ht (by rw [hRM.g1]) (by rw [hRM.g2]) (fun hd => ⟨fun z => absurd z (by decide), fun _ => ⟨vp_in_nI (by omega) (by decide), ?_⟩⟩) (fun hd => ⟨fun _ => h28 σ' frRk.rf rfl ?_, fun z => absurd rfl z⟩)
      · rw [ix_nI (by omega), hRM.sz hj]
        refine risks_M (v := vR s j) hz.2 hcm ht (vR_bd hw hj) (fun h w h1 w1 w2 => congrArg Int64.toInt ((congrFun (hf.2.1 223 (by omega)) _).trans (ha h w h1 w1 w2))) hL (fun σ3 r1 r2 r3 => h28 σ3 r1 r2 ?_)
        rw [List.filter_append, List.filter_cons, if_pos (by simpa using hd), List.filter_nil]
        unfold rsF at r3 ⊢
        rw [List.foldl_append]; exact r3
      · rw [List.filter_append, List.filter_cons, if_neg (by simpa using hd)]
        simpa using hL
  obtain ⟨E, hE⟩ := seqs_head (n := sZ (aS s j)) (sZ (aS s j)) 1
  have f2 : frRk σ σ2 := ⟨fun c c1 _ => b1.2 c c1, fun c _ => by rw [b1.1], fun f _ => by rw [b1.1], by rw [b1.1]⟩
  refine ⟨E.length + 2, key E [] (zer (sZ (aS s j))) σ2 hE f2 (fun w w1 w2 => by rw [b2 w (by omega), hL_zer]; rfl) ?_⟩
  show (σ2.2.1 204 29).toInt = -1
  rw [b1.1, h29]; decide
theorem m_riskHead {K : Int32 → St → Prop} {p q : Int32} (h : RM σ s) (hw : wf s) (hK : ∀ σ', RM σ' s → frK σ σ' → K (an_riskHead s p q) σ') : P_X8_riskHead p q σ K := by
  unfold P_X8_riskHead
  refine isWord_M h hw (fun hi => ⟨fun _ => ?_, fun z => absurd rfl z⟩) (fun i hi hp hx hv => ⟨fun _ => ?_, fun z => absurd rfl z⟩) (fun j w hj hp hx w1 w2 hq hv => ⟨fun z => absurd z (by decide), fun _ => ?_⟩)
  · rw [an_riskHead, hi] at hK; exact hK σ h frK.rf
  · rw [an_riskHead, hx] at hK; dsimp only at hK; rw [hv] at hK; exact hK σ h frK.rf
  · subst hp hq
    rw [an_riskHead, hx] at hK
    dsimp only at hK
    rw [hv] at hK
    dsimp only at hK
    have hz := hw.sz hj
    refine lookR h hw hj (fun σ' r1 r2 _ lk _ h29 => ?_)
    rw [lk.wa]
    refine ⟨fun z => ?_, fun z => ?_⟩
    · have hk := hK σ' r1 (frY_K r2)
      unfold rkV at hk
      rw [if_pos z] at hk; exact hk
    · refine looksR_M r1 hw hj (fun a u a1 u1 u2 => (lk.ab a u a1 u1 u2).2) h29 (fun σ3 f3 k3 => ⟨vp_in_nI (by omega) (by decide), ?_⟩)
      have hk := hK σ3 (frRk_RM r1 f3) ((frY_K r2).tr (frRk_K f3))
      unfold rkV at hk
      rw [if_neg z] at hk
      rw [ix_nI (by omega)]
      rcases rsF_adm hw hj with ⟨q1, q2⟩ | ⟨r, q1, q2, q3⟩
      · exfalso
        apply z
        rw [q2]; rfl
      · rw [q1] at hk k3
        rw [k3.2 w w1 w2]; exact hk
end RSK
