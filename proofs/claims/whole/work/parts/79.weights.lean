/-! the class: potentials, and both sums -/
def frU (σ σ' : St) : Prop := (∀ c, c ≠ 147 → σ'.1 c = σ.1 c) ∧ (∀ f, f ≠ 1 → σ'.1 147 f = σ.1 147 f) ∧ (∀ c, c < 149 ∨ 195 < c → σ'.2.1 c = σ.2.1 c) ∧ σ'.2.2 = σ.2.2
theorem frU.rf {a : St} : frU a a := ⟨fun _ _ => rfl, fun _ _ => rfl, fun _ _ => rfl, rfl⟩
theorem frU.tr {a b c : St} (h : frU a b) (h2 : frU b c) : frU a c := ⟨fun k hk => (h2.1 k hk).trans (h.1 k hk), fun f hf => (h2.2.1 f hf).trans (h.2.1 f hf), fun k hk => (h2.2.2.1 k hk).trans (h.2.2.1 k hk), h2.2.2.2.trans h.2.2.2⟩
theorem frT_U {a b : St} (h : frT a b) : frU a b := ⟨fun c _ => by rw [h.1], fun f _ => by rw [h.1], fun c hc => h.2.1 c (by omega), h.2.2⟩
theorem frG_U {a b : St} (h : frG a b) : frU a b := ⟨fun c _ => by rw [h.1], fun f _ => by rw [h.1], fun c hc => h.2.1 c (by omega), h.2.2⟩
theorem frU_C {σ σ' : St} (h : frU σ σ') : frO dC σ σ' := ⟨fun k hk => ⟨h.1 k (by have := hk.1; omega), h.2.2.1 k (by have := hk.1; omega)⟩, h.2.2.2⟩
theorem frU_M {σ σ' : St} (h : frU σ σ') : frM σ σ' := fun k hk => ⟨h.1 k (by omega), h.2.2.1 k (by omega)⟩
theorem pot_eq (x : Int32) : (if 0 < (if x < 20 then x else 20) then (if x < 20 then x else 20) else 0) = (if 0 ≤ x then (if x ≤ 20 then x else 20) else 0) := by
  have h20 : (20 : Int32).toInt = 20 := by decide
  have h0 : (0 : Int32).toInt = 0 := by decide
  by_cases e : x < 20
  · rw [if_pos e]
    rw [T_lt, h20] at e
    rw [if_pos (show x ≤ 20 by rw [T_le, h20]; omega)]
    by_cases q : 0 < x
    · rw [if_pos q, if_pos (by rw [T_lt] at q; rw [T_le]; omega)]
    · rw [if_neg q]
      by_cases q2 : 0 ≤ x
      · rw [if_pos q2, T_eq]; rw [T_lt] at q; rw [T_le] at q2; omega
      · rw [if_neg q2]
  · rw [if_neg e, if_pos (by decide)]
    rw [T_lt, h20] at e
    rw [if_pos (show 0 ≤ x by rw [T_le, h0]; omega)]
    by_cases q : x ≤ 20
    · rw [if_pos q, T_eq, h20]; rw [T_le, h20] at q; omega
    · rw [if_neg q]
section SETP
variable {σ : St} {s : AS}
/-- the value that is given to an arc -/
def pvI (s : AS) (j : Nat) (fl : Int32) (h w : Nat) : Int32 := if fl = 0 then potI (aW s) (aS s j) (aG s).2.2 h w else 1
theorem potential_C {K : Int32 → St → Prop} {j h w : Nat} (hr : RC σ s) (hw : wf s) (hj : j < aM s) (hh : h ≤ sZ (aS s j)) (w1 : 1 ≤ w) (w2 : w ≤ sZ (aS s j)) (hne : h ≠ w) (hK : K (potI (aW s) (aS s j) (aG s).2.2 h w) σ) : P_X7_arcScore (σ.2.2 j) (nI h) (nI w) σ (fun r t => P_X7_limitPotential (r + (t.1 125 2)) t K) := by
  have hm := hr.m4
  refine arcScore_C (hw.2.1.2 j hj) (hr.sent hj) (hr.root (by omega)) hr.wts hh w1 w2 hne ?_
  unfold P_X7_limitPotential
  intro v3 e3 v4 e4
  rw [hr.g3] at e3
  have : v4 = potI (aW s) (aS s j) (aG s).2.2 h w := by
    rw [e4, e3]; unfold potI; exact pot_eq _
  rw [this]; exact hK
theorem setPot_C {K : St → Prop} {j : Nat} {fl : Int32} (hr : RC σ s) (hw : wf s) (hj : j < aM s) (hK : ∀ σ', frU σ σ' → σ'.1 147 1 = nI (sZ (aS s j)) → (∀ h w, h ≤ sZ (aS s j) → 1 ≤ w → w ≤ sZ (aS s j) → (chP (aS s j) h w → σ'.2.1 (149 + h) w = Int32.toInt64 (pvI s j fl h w)) ∧ (¬ chP (aS s j) h w → σ'.2.1 (149 + h) w = 0)) → K σ') : P_X7_setPotentials (σ.2.2 j) fl σ K := by
  have hm := hr.m4
  have hx := hw.2.1.2 j hj
  have hz := hx.1
  have hsok := hr.sok (i := j) (by omega)
  unfold P_X7_setPotentials P_X5_begin
  intro s1 e1
  rw [(hr.sent hj).1] at e1
  refine LpE_for (S := Int32 × St) (fun i t => (nI (i + 1), t)) (fun i σ' => frU σ σ' ∧ σ'.1 147 1 = nI (sZ (aS s j)) ∧ ∀ h w, h ≤ sZ (aS s j) → 1 ≤ w → w ≤ i → (chP (aS s j) h w → σ'.2.1 (149 + h) w = Int32.toInt64 (pvI s j fl h w)) ∧ (¬ chP (aS s j) h w → σ'.2.1 (149 + h) w = 0)) (sZ (aS s j)) ?_ 0 s1 (by omega) ⟨⟨fun c hc => by rw [e1, wI_ne hc], fun f hf => by rw [e1, wI_ni hf], fun c _ => by rw [e1, wI_2], by rw [e1, wI_2]⟩, by rw [e1]; exact wI_self, fun h w _ w1 w2 => by omega⟩
  intro i σ1 c hi ⟨f1, f2, f3⟩ hc
  have hr1 := RC_fr hr (frU_C f1)
  have ea : σ1.2.2 j = σ.2.2 j := by rw [f1.2.2.2]
  dsimp only
  unfold F_X7_setPotentials_13
  have hs1 := hr1.sent hj
  rw [ea] at hs1
  rw [hs1.1, nI_ltI (by omega) (by omega)]
  refine ⟨fun z => hK σ1 f1 f2 (fun h w hh w1 w2 => f3 h w hh w1 (by omega)), fun z => ?_⟩
  refine headCh_C hx hs1 (by omega) (by omega) (fun m hm' hmb => ?_)
  refine LpE_for1 (fun k σ' => frU σ σ' ∧ σ'.1 147 1 = nI (sZ (aS s j)) ∧ (∀ h w, h ≤ sZ (aS s j) → 1 ≤ w → w ≤ i → (chP (aS s j) h w → σ'.2.1 (149 + h) w = Int32.toInt64 (pvI s j fl h w)) ∧ (¬ chP (aS s j) h w → σ'.2.1 (149 + h) w = 0)) ∧ ∀ h, h < k → (chP (aS s j) h (i + 1) → σ'.2.1 (149 + h) (i + 1) = Int32.toInt64 (pvI s j fl h (i + 1))) ∧ (¬ chP (aS s j) h (i + 1) → σ'.2.1 (149 + h) (i + 1) = 0)) (sZ (aS s j) + 1) ?_ 0 σ1 (by omega) ⟨f1, f2, f3, fun h hh => absurd hh (Nat.not_lt_zero _)⟩
  intro k σ2 c2 hk ⟨g1, g2, g3, g4⟩ hc2
  have hr2 := RC_fr hr (frU_C g1)
  have ea2 : σ2.2.2 j = σ.2.2 j := by rw [g1.2.2.2]
  have hs2 := hr2.sent hj
  rw [ea2] at hs2
  dsimp only
  unfold F_X7_setPotentials_31
  rw [hs2.1, nI_ltI (by omega) (by omega), nI_1]
  refine ⟨fun y v4 e4 => ?_, fun y => ?_⟩
  · rw [e4]
    refine hc σ2 (by omega) ⟨g1, g2, fun h w hh w1 w2 => ?_⟩
    by_cases e : w = i + 1
    · subst e; exact g4 h (by omega)
    · exact g3 h w hh w1 (by omega)
  · have fin : ∀ u6 : Int32, (chP (aS s j) k (i + 1) → u6 = pvI s j fl k (i + 1)) → (¬ chP (aS s j) k (i + 1) → u6 = 0) → J_X7_setPotentials_82 K c c2 (σ.2.2 j) fl (nI (i + 1)) (nI m) (nI k) u6 σ2 := by
      intro u6 u1 u2
      unfold J_X7_setPotentials_82 P_X5_setPotential
      refine ⟨vp_in_nI (by omega) (by decide), vp_in_nI (by omega) (by decide), fun s3 e3 v8 e8 => ?_⟩
      rw [ix_nI (by omega), ix_nI (by omega), show 148 + 1 + k = 149 + k by omega] at e3
      rw [nI_1] at e8
      rw [e8]
      refine hc2 s3 (by omega) ⟨g1.tr ⟨fun c _ => by rw [e3, wL_1], fun f _ => by rw [e3, wL_1], fun c hc => by rw [e3, wL_ne (by omega)], by rw [e3, wL_22]⟩, by rw [e3, wL_1]; exact g2, fun h w hh w1 w2 => ?_, fun h hh => ?_⟩
      · rw [e3, wL_no (by omega)]; exact g3 h w hh w1 w2
      · rw [e3]
        by_cases e : h = k
        · subst e
          rw [wL_self]
          exact ⟨fun q => by rw [u1 q], fun q => by rw [u2 q]; rfl⟩
        · rw [wL_no (by omega)]; exact g4 h (by omega)
    unfold P_X7_holds
    rw [bit_test m hm' k (by omega), hmb k (by omega)]
    refine ⟨fun hch => ⟨fun q => absurd q (by decide), fun _ => ⟨fun q => ?_, fun q => ?_⟩⟩, fun hch => ⟨fun _ => ?_, fun q => absurd rfl q⟩⟩
    · have := potential_C (K := fun r10 s9 => J_X7_setPotentials_80 K c c2 (σ.2.2 j) fl (nI (i + 1)) (nI m) (nI k) r10 s9) hr2 hw hj (h := k) (w := i + 1) hch.1 (by omega) (by omega) hch.2.1 (by
        unfold J_X7_setPotentials_80
        exact fin _ (fun _ => by unfold pvI; rw [if_pos q]) (fun n => absurd hch n))
      rw [ea2] at this; exact this
    · unfold J_X7_setPotentials_80
      exact fin 1 (fun _ => by unfold pvI; rw [if_neg q]) (fun n => absurd hch n)
    · exact fin 0 (fun n => absurd n hch) (fun _ => rfl)
/-- potentials, then the sum -/
theorem sums_C {K : Int64 → St → Prop} {j : Nat} {fl : Int32} (hr : RC σ s) (hw : wf s) (hj : j < aM s) (hK : ∀ σ' b f p, frU σ σ' → RC σ' s → EQS (sZ (aS s j)) (mbI (σ'.1 125 1)) b f → CX (sZ (aS s j)) b f p σ' → (∀ h w, h ≤ sZ (aS s j) → 1 ≤ w → w ≤ sZ (aS s j) → (chP (aS s j) h w → p h w = Int32.toInt64 (pvI s j fl h w)) ∧ (¬ chP (aS s j) h w → p h w = 0)) → K (sm (totL (decide (σ'.1 125 0 ≠ 0)) (sZ (aS s j)) b f) (prM p)) σ') : P_X7_setPotentials (σ.2.2 j) fl σ (fun s1 => P_X5_addUp s1 K) := by
  have hz := (hw.2.1.2 j hj).1
  refine setPot_C hr hw hj (fun σ1 f1 f2 f3 => ?_)
  obtain ⟨b, f, E⟩ := EQS_ex hz.2 (mbI (σ1.1 125 1))
  refine addUp_C (p := fun h w => σ1.2.1 (149 + h) w) hz.1 hz.2 f2 E (fun h w _ _ _ => rfl) (fun σ2 g1 g2 => ?_)
  have fU := f1.tr (frT_U g1)
  have := hK σ2 b f (fun h w => σ1.2.1 (149 + h) w) fU (RC_fr hr (frU_C fU)) (by rw [g1.1]; exact E) ⟨by rw [g1.1]; exact f2, fun h w hh _ _ => by rw [g1.2.1 (149 + h) (by omega)], g2⟩ f3
  rw [g1.1] at this; exact this
end SETP
/-! both sums over the admissible trees -/
section ADMSUM
variable {s : AS} {j : Nat}
theorem sg_eq : (decide ((aG s).1 ≠ 0) = true) = sgP s := propext decide_eq_true_iff
theorem adm_sum {G G' : List Nat → Int64} (h1 : ∀ l, l ∈ allT (sZ (aS s j)) → shP (decide ((aG s).1 ≠ 0)) (pjP s) (sZ (aS s j)) l → ((∀ w, 1 ≤ w → w ≤ sZ (aS s j) → chP (aS s j) (hL l w) w) → G' l = G l) ∧ ((∃ w, 1 ≤ w ∧ w ≤ sZ (aS s j) ∧ ¬ chP (aS s j) (hL l w) w) → G' l = 0)) : sm (shL (decide ((aG s).1 ≠ 0)) (pjP s) (sZ (aS s j))) G' = sm (admL s j) G := by
  unfold shL admL
  rw [sm_filter, sm_filter]
  refine sm_cong (fun l hl => ?_)
  have e : admT (sgP s) (pjP s) (chP (aS s j)) (sZ (aS s j)) l ↔ shP (decide ((aG s).1 ≠ 0)) (pjP s) (sZ (aS s j)) l ∧ ∀ w, 1 ≤ w → w ≤ sZ (aS s j) → chP (aS s j) (hL l w) w := by rw [← sg_eq]; exact adm_sh
  by_cases q : shP (decide ((aG s).1 ≠ 0)) (pjP s) (sZ (aS s j)) l
  · rw [if_pos (@decide_eq_true _ (Classical.propDecidable _) q)]
    obtain ⟨a1, a2⟩ := h1 l hl q
    by_cases q2 : ∀ w, 1 ≤ w → w ≤ sZ (aS s j) → chP (aS s j) (hL l w) w
    · rw [if_pos (@decide_eq_true _ (Classical.propDecidable _) (e.mpr ⟨q, q2⟩)), a1 q2]
    · rw [if_neg (fun z => q2 (e.mp (@of_decide_eq_true _ (Classical.propDecidable _) z)).2)]
      refine a2 (Classical.byContradiction (fun z => q2 (fun w w1 w2 => Classical.byContradiction (fun y => z ⟨w, w1, w2, y⟩))))
  · rw [if_neg (fun z => q (@of_decide_eq_true _ (Classical.propDecidable _) z)), if_neg (fun z => q (e.mp (@of_decide_eq_true _ (Classical.propDecidable _) z)).1)]
theorem prW_cong {p p' : Nat → Nat → Int64} {t : Nat → Nat} : ∀ {L : List Nat}, (∀ w, w ∈ L → p (t w) w = p' (t w) w) → prW p t L = prW p' t L
  | [], _ => rfl
  | a :: L, h => by rw [prW, prW, h a List.mem_cons_self, prW_cong (fun w hw => h w (List.mem_cons_of_mem _ hw))]
theorem prW_zero {p : Nat → Nat → Int64} {t : Nat → Nat} {w : Nat} : ∀ {L : List Nat}, w ∈ L → p (t w) w = 0 → prW p t L = 0
  | [], h, _ => by cases h
  | a :: L, h, h2 => by
    rw [prW]
    rcases List.mem_cons.mp h with z | z
    · rw [← z, h2, Int64.zero_mul]
    · rw [prW_zero z h2, Int64.mul_zero]
theorem totW_prW {pt : Nat → Nat → Int32} : ∀ (r P : List Nat) (a : Int64), totW pt (P.length + 1) a r = a * prW (fun h w => Int32.toInt64 (pt h w)) (hL (P ++ r)) (List.range' (P.length + 1) r.length)
  | [], P, a => by rw [totW, List.length_nil, List.range'_zero, prW, Int64.mul_one]
  | h :: r, P, a => by
    have e : P ++ h :: r = (P ++ [h]) ++ r := by simp
    have ih := totW_prW (pt := pt) r (P ++ [h]) (a * Int32.toInt64 (pt h (P.length + 1)))
    rw [List.length_append, show [h].length = 1 from rfl] at ih
    rw [totW, ih, List.length_cons, List.range'_succ, prW, ← Int64.mul_assoc, hL_mid, e]
theorem wtL_prW {pt : Nat → Nat → Int32} {n : Nat} {l : List Nat} (hl : l.length = n) : wtL pt l = prW (fun h w => Int32.toInt64 (pt h w)) (hL l) (List.range' 1 n) := by
  have := totW_prW (pt := pt) l [] 1
  rw [Int64.one_mul, hl] at this
  exact this
theorem foldl_sm {α : Type} {g : α → Int64} : ∀ (A : List α) (a : Int64), A.foldl (fun b l => b + g l) a = a + sm A g
  | [], a => by rw [List.foldl_nil, sm_nil, Int64.add_zero]
  | x :: A, a => by rw [List.foldl_cons, foldl_sm A, sm_cons, Int64.add_assoc]
theorem wsL_sm {pt : Nat → Nat → Int32} {A : List (List Nat)} : wsL pt A = sm A (wtL pt) := by
  unfold wsL; rw [foldl_sm, Int64.zero_add]
theorem wsA_sm {pt : Nat → Nat → Int32} {h w : Nat} {A : List (List Nat)} : wsA pt h w A = sm A (fun l => if hL l w = h then wtL pt l else 0) := by
  unfold wsA
  rw [show (fun (b : Int64) (l : List Nat) => if hL l w = h then b + wtL pt l else b) = (fun b l => b + (if hL l w = h then wtL pt l else 0)) from by
    funext b l
    split
    · rfl
    · rw [Int64.add_zero], foldl_sm, Int64.zero_add]
variable {σ : St} {fl : Int32} {b f : Nat → Nat → List Mon} {p : Nat → Nat → Int64}
theorem hmbI (hr : RC σ s) : ∀ M, M < 64 → M ≠ 0 → (mbI (σ.1 125 1) M = true ↔ (pjP s → ∀ i j k, i < j → j < k → inS M i → inS M k → inS M j)) := by
  intro M hM h0
  rw [hr.g2]; exact mbI_ok hM h0
theorem pr_adm {l : List Nat} (hl : l ∈ allT (sZ (aS s j))) (hp : ∀ h w, h ≤ sZ (aS s j) → 1 ≤ w → w ≤ sZ (aS s j) → (chP (aS s j) h w → p h w = Int32.toInt64 (pvI s j fl h w)) ∧ (¬ chP (aS s j) h w → p h w = 0)) : ((∀ w, 1 ≤ w → w ≤ sZ (aS s j) → chP (aS s j) (hL l w) w) → prW p (hL l) (List.range' 1 (sZ (aS s j))) = wtL (pvI s j fl) l) ∧ ((∃ w, 1 ≤ w ∧ w ≤ sZ (aS s j) ∧ ¬ chP (aS s j) (hL l w) w) → prW p (hL l) (List.range' 1 (sZ (aS s j))) = 0) := by
  obtain ⟨l1, l2⟩ := allT_mem.mp hl
  constructor
  · intro hc
    rw [wtL_prW l1]
    refine prW_cong (fun w hw => ?_)
    rw [List.mem_range'_1] at hw
    exact (hp _ w (l2 w (by omega) (by omega)).1 (by omega) (by omega)).1 (hc w (by omega) (by omega))
  · rintro ⟨w, w1, w2, hc⟩
    exact prW_zero (w := w) (List.mem_range'_1.mpr (by omega)) ((hp _ w (l2 w w1 w2).1 w1 w2).2 hc)
theorem sum_val (hr : RC σ s) (hw : wf s) (hj : j < aM s) (E : EQS (sZ (aS s j)) (mbI (σ.1 125 1)) b f) (hp : ∀ h w, h ≤ sZ (aS s j) → 1 ≤ w → w ≤ sZ (aS s j) → (chP (aS s j) h w → p h w = Int32.toInt64 (pvI s j fl h w)) ∧ (¬ chP (aS s j) h w → p h w = 0)) : sm (totL (decide (σ.1 125 0 ≠ 0)) (sZ (aS s j)) b f) (prM p) = wsL (pvI s j fl) (admL s j) := by
  have hz := (hw.2.1.2 j hj).1
  rw [tot_ev p hz.1 hz.2 E (hmbI hr), hr.g1, wsL_sm]
  refine adm_sum (fun l hl _ => pr_adm hl hp)
theorem arc_val (hr : RC σ s) (hw : wf s) (hj : j < aM s) (E : EQS (sZ (aS s j)) (mbI (σ.1 125 1)) b f) (hp : ∀ h w, h ≤ sZ (aS s j) → 1 ≤ w → w ≤ sZ (aS s j) → (chP (aS s j) h w → p h w = Int32.toInt64 (pvI s j fl h w)) ∧ (¬ chP (aS s j) h w → p h w = 0)) {h w : Nat} (w1 : 1 ≤ w) (w2 : w ≤ sZ (aS s j)) : sm (totL (decide (σ.1 125 0 ≠ 0)) (sZ (aS s j)) b f) (dMo p (h, w)) = wsA (pvI s j fl) h w (admL s j) := by
  have hz := (hw.2.1.2 j hj).1
  rw [tot_de p w1 w2 hz.1 hz.2 E (hmbI hr), hr.g1, wsA_sm]
  refine adm_sum (fun l hl _ => ?_)
  obtain ⟨a1, a2⟩ := pr_adm (fl := fl) hl hp
  exact ⟨fun z => by rw [a1 z], fun z => by rw [a2 z, ite_self]⟩
end ADMSUM
