/-! the ranking's calls -/
noncomputable def RKf (s : AS) (j : Nat) : List (List Nat) := rkL (scI (aW s) (aS s j)) (admL s j)
abbrev vS (s : AS) (j : Nat) (h w : Nat) : Int := (scI (aW s) (aS s j) h w).toInt
theorem admL_mem {s : AS} {j : Nat} {l : List Nat} : l ∈ admL s j ↔ l ∈ allT (sZ (aS s j)) ∧ admT (sgP s) (pjP s) (chP (aS s j)) (sZ (aS s j)) l := by
  unfold admL
  rw [List.mem_filter]
  simp
theorem admL_sorted {s : AS} (hw : wf s) {j : Nat} (hj : j < aM s) : (admL s j).Pairwise (fun a b => cod 1 a < cod 1 b) := (allT_sorted ((hw.2.1.2 j hj).1).2).sublist List.filter_sublist
theorem RKf_top {s : AS} (hw : wf s) {j : Nat} (hj : j < aM s) : Top 6 (admS (sgP s) (pjP s) (chP (aS s j)) (vS s j) (sZ (aS s j))) ((RKf s j).map (WT (vS s j))) ∧ ∀ r, r ∈ RKf s j → r ∈ admL s j := by
  have hn6 := ((hw.2.1.2 j hj).1).2
  obtain ⟨h1, h2⟩ := rk_top (fun h w => scI_bd hw hj h w) hn6 (admL s j) [] (by rw [List.nil_append]; exact admL_sorted hw hj) (fun r hr => by rw [List.nil_append] at hr; exact (admL_mem.mp hr).1) [] (Top.nil (fun v ⟨l, hl, _⟩ => by cases hl)) (fun r hr => by cases hr)
  rw [List.nil_append] at h1 h2
  refine ⟨h1.congr (fun x => ?_), h2⟩
  unfold admS
  constructor
  · rintro ⟨l, hl, e⟩; exact ⟨l, (admL_mem.mp hl).1, (admL_mem.mp hl).2, e⟩
  · rintro ⟨l, hl, ha, e⟩; exact ⟨l, admL_mem.mpr ⟨hl, ha⟩, e⟩
theorem RKf_len {s : AS} (hw : wf s) {j : Nat} (hj : j < aM s) : (RKf s j).length ≤ 6 := by
  have := (RKf_top hw hj).1.1
  rw [List.length_map] at this; exact this
theorem vS_tot {s : AS} (hw : wf s) {j : Nat} (hj : j < aM s) {l : List Nat} (hl : l ∈ allT (sZ (aS s j))) : (scL (scI (aW s) (aS s j)) l).toInt = tot (vS s j) 1 l ∧ -2 ^ 44 ≤ tot (vS s j) 1 l ∧ tot (vS s j) 1 l ≤ 2 ^ 44 ∧ -12600 ≤ tot (vS s j) 1 l ∧ tot (vS s j) 1 l ≤ 12600 := by
  have hn6 := ((hw.2.1.2 j hj).1).2
  have hll := (all6 hn6 hl).1
  have h1 := scL_toInt (fun h w => scI_bd hw hj h w) (l := l) (by omega)
  have h2 := tot_small (v := vS s j) (B := 2100) (by omega) (fun h w => scI_bd hw hj h w) l 1
  refine ⟨h1, ?_⟩
  have : (l.length : Int) ≤ 6 := by omega
  omega
section RNKC
variable {σ : St} {s : AS} {K : Int32 → St → Prop}
theorem frO2_C {σ' : St} (h : frO2 σ σ') : frO dC σ σ' := ⟨fun k hk => ⟨h.1 k (by have := hk.1; omega) (by have := hk.1; omega) (by have := hk.1; omega), h.2.2.1 k (by have := hk.1; omega)⟩, h.2.2.2⟩
theorem frS_C {σ' : St} (h : frS σ σ') : frO dC σ σ' := ⟨fun k hk => ⟨h.1 k (by have := hk.1; omega) (by have := hk.1; omega), h.2.2.1 k (by have := hk.1; omega) (by have := hk.1; omega)⟩, h.2.2.2⟩
theorem frO2_M {σ' : St} (h : frO2 σ σ') : frM σ σ' := fun k hk => ⟨h.1 k (by omega) (by omega) (by omega), h.2.2.1 k (by omega)⟩
theorem frS_M {σ' : St} (h : frS σ σ') : frM σ σ' := fun k hk => ⟨h.1 k (by omega) (by omega), h.2.2.1 k (by omega) (by omega)⟩
theorem rank_C {K : St → Prop} {j k : Nat} (h : RC σ s) (hw : wf s) (hj : j < aM s) (hk1 : 1 ≤ k) (hk6 : k ≤ 6) (hK : ∀ σ' of, RC σ' s → frM σ σ' → σ'.2.2 = σ.2.2 → OFS (sZ (aS s j)) (sgP s) (pjP s) (chP (aS s j)) (vS s j) of σ' → KS σ' k (((RKf s j).take k).map (WT (vS s j))) → K σ') : P_X7_rankTrees (σ.2.2 j) (nI k) σ K := by
  unfold P_X7_rankTrees
  have hm := h.m4
  have hwS := hw.2.1.2 j hj
  have hz := hwS.1
  have hso := h.sok (i := j) (by omega)
  refine offerArcs_C (v := vS s j) (vI := fun h w => Int32.toInt64 (scI (aW s) (aS s j) h w)) hwS hso (h.sent hj) (fun a w _ _ _ => ⟨by rw [Int32.toInt_toInt64], by have := scI_bd hw hj a w; unfold vS; omega, by have := scI_bd hw hj a w; unfold vS; omega⟩) (fun _ σ' a w C hf w1 w2 hc hC => ?_) (fun q => absurd rfl q) (fun σ1 of f1 e1 ho => ?_)
  · have h' := RC_fr h (frO2_C hf)
    have e : σ'.2.2 = σ.2.2 := hf.2.2.2
    have := arcScore_C (a := σ.2.2 j) (K := fun r s => C (Int32.toInt64 r) s) hwS (by rw [← e]; exact h'.sent hj) (by rw [← e]; exact h'.root (i := j) (by omega)) h'.wts hc.1 w1 w2 hc.2.1 hC
    exact this
  · have h1 := RC_fr h (frO2_C f1)
    have hO : OFS (sZ (aS s j)) (sgP s) (pjP s) (chP (aS s j)) (vS s j) of σ1 := ⟨hz.1, hz.2, e1, by rw [h1.g1], by rw [h1.g2], ho, fun a w _ _ hc => ⟨hc.1, hc.2.1⟩, fun a w _ _ _ => by have := scI_bd hw hj a w; unfold vS; omega⟩
    refine seek_C hk1 hk6 hO (fun σ2 L f2 hKS hTop => ?_)
    have hu : L = ((RKf s j).take k).map (WT (vS s j)) := by
      have ht := (RKf_top hw hj).1.take hk6
      rw [← List.map_take] at ht
      exact Top.uniq k _ _ _ hTop ht
    rw [hu] at hKS
    exact hK σ2 of (RC_fr h1 (frS_C f2)) ((frO2_M f1).tr (frS_M f2)) (f2.2.2.2.trans f1.2.2.2) (hO.fr f2) hKS
/-- the head of a word in a tree of the ranking -/
theorem headRk_C {K : Int32 → St → Prop} {j k i w : Nat} (hw : wf s) (hj : j < aM s) (hk6 : k ≤ 6) (hKS : KS σ k (((RKf s j).take k).map (WT (vS s j)))) (hik : i < k) (hi : i < (RKf s j).length) (w1 : 1 ≤ w) (w2 : w ≤ sZ (aS s j)) (hK : K (nI (hL (RKf s j)[i] w)) σ) : P_X4_headAt (nI i) (nI w) σ K := by
  have hm := (admL_mem.mp ((RKf_top hw hj).2 _ (List.getElem_mem hi))).1
  have hv := vS_tot hw hj hm
  refine headAt_C (v := vS s j) ((hw.2.1.2 j hj).1).2 hk6 hKS (by rw [List.length_map, List.length_take]; omega) hm ?_ ⟨hv.2.1, hv.2.2.1⟩ w1 w2 hK
  rw [List.getElem_map, List.getElem_take]
theorem scoreRk_C {K : Int32 → St → Prop} {j k i : Nat} (hw : wf s) (hj : j < aM s) (hk6 : k ≤ 6) (hKS : KS σ k (((RKf s j).take k).map (WT (vS s j)))) (hik : i < k) (hi : i < (RKf s j).length) (hK : K (scL (scI (aW s) (aS s j)) (RKf s j)[i]) σ) : P_X4_scoreAt (nI i) σ K := by
  have hm := (admL_mem.mp ((RKf_top hw hj).2 _ (List.getElem_mem hi))).1
  have hv := vS_tot hw hj hm
  refine scoreAt_C (v := vS s j) ((hw.2.1.2 j hj).1).2 hk6 hKS (by rw [List.length_map, List.length_take]; omega) hm ?_ hv.1 hK
  rw [List.getElem_map, List.getElem_take]
theorem found_C {j k : Nat} (hKS : KS σ k (((RKf s j).take k).map (WT (vS s j)))) : σ.1 126 9 = nI (min k (RKf s j).length) := by
  have := hKS.2.1
  rw [List.length_map, List.length_take] at this
  exact this
/-! bestScore, bestHead, rankedScore, rankedHead -/
noncomputable def an_rkScore (s : AS) (j i : Nat) : Int32 := match (RKf s j)[i]? with
  | none => NONEV
  | some r => scL (scI (aW s) (aS s j)) r
noncomputable def an_rkHead (s : AS) (j i w : Nat) : Int32 := match (RKf s j)[i]? with
  | none => NONEV
  | some r => nI (hL r w)
noncomputable def an_bestScore (s : AS) (p : Int32) : Int32 := match idx p (aM s) with
  | none => BADI
  | some j => an_rkScore s j 0
noncomputable def an_bestHead (s : AS) (p q : Int32) : Int32 := match idx p (aM s) with
  | none => BADI
  | some j => match wdx q (sZ (aS s j)) with
    | none => BADI
    | some w => an_rkHead s j 0 w
noncomputable def an_rankedScore (s : AS) (p q : Int32) : Int32 := match idx p (aM s) with
  | none => BADI
  | some j => match idx q 6 with
    | none => BADV
    | some i => an_rkScore s j i
noncomputable def an_rankedHead (s : AS) (p q r : Int32) : Int32 := match idx p (aM s) with
  | none => BADI
  | some j => match wdx r (sZ (aS s j)) with
    | none => BADI
    | some w => match idx q 6 with
      | none => BADV
      | some i => an_rkHead s j i w
theorem c_bestScore {p : Int32} (h : RC σ s) (hw : wf s) (hK : ∀ σ', RC σ' s → frM σ σ' → K (an_bestScore s p) σ') : P_X7_bestScore p σ K := by
  unfold P_X7_bestScore
  have hm := h.m4
  refine find_C h (fun hi => ⟨fun _ => ?_, fun b e => by cases e⟩) (fun j hj hp hi => ⟨fun e => (by cases e), fun b e => ?_⟩)
  · rw [an_bestScore, hi] at hK; exact hK σ h frM.rf
  · cases e
    rw [an_bestScore, hi] at hK
    dsimp only at hK
    have hlen := RKf_len hw hj
    refine ⟨h.sok (by omega), rank_C (k := 1) h hw hj (by omega) (by omega) (fun σ' of r1 r2 _ _ r3 => ?_)⟩
    rw [found_C r3, show (0 : Int32) = nI 0 from rfl, nI_eq (by omega) (by omega)]
    have hk := hK σ' r1 r2
    unfold an_rkScore at hk
    refine ⟨fun z => ?_, fun z => scoreRk_C hw hj (by omega) r3 (by omega) (by omega) ?_⟩
    · rw [List.getElem?_eq_none (by omega)] at hk; exact hk
    · rw [List.getElem?_eq_getElem (by omega)] at hk; exact hk
theorem c_bestHead {p q : Int32} (h : RC σ s) (hw : wf s) (hK : ∀ σ', RC σ' s → frM σ σ' → K (an_bestHead s p q) σ') : P_X7_bestHead p q σ K := by
  unfold P_X7_bestHead
  have hm := h.m4
  refine find_C h (fun hi => ⟨fun _ => ?_, fun b e => by cases e⟩) (fun j hj hp hi => ⟨fun e => (by cases e), fun b e => ?_⟩)
  · rw [an_bestHead, hi] at hK; exact hK σ h frM.rf
  · cases e
    rw [an_bestHead, hi] at hK
    dsimp only at hK
    have hlen := RKf_len hw hj
    have hz := hw.sz hj
    refine ⟨h.sok (by omega), hasWord_C (h.sent hj).1 (by omega) (fun hv => ⟨fun _ => ?_, fun z => absurd rfl z⟩) (fun w w1 w2 hq hv => ⟨fun z => absurd z (by decide), fun _ => ?_⟩)⟩
    · rw [hv] at hK; exact hK σ h frM.rf
    · subst hq
      rw [hv] at hK
      dsimp only at hK
      refine rank_C (k := 1) h hw hj (by omega) (by omega) (fun σ' of r1 r2 _ _ r3 => ?_)
      rw [found_C r3, show (0 : Int32) = nI 0 from rfl, nI_eq (by omega) (by omega)]
      have hk := hK σ' r1 r2
      unfold an_rkHead at hk
      refine ⟨fun z => ?_, fun z => headRk_C hw hj (by omega) r3 (by omega) (by omega) w1 w2 ?_⟩
      · rw [List.getElem?_eq_none (by omega)] at hk; exact hk
      · rw [List.getElem?_eq_getElem (by omega)] at hk; exact hk
theorem idx6 {q : Int32} {X Y : Prop} (h0 : idx q 6 = none → X) (h1 : ∀ i, i < 6 → q = nI i → idx q 6 = some i → Y) : (q < 0 → X) ∧ (¬ q < 0 → (q < 6 → Y) ∧ (¬ q < 6 → X)) := by
  rcases idx_cases q (m := 6) (by decide) with ⟨hi, hc⟩ | ⟨i, hi, rfl, hx⟩
  · rcases hc with hc | ⟨hc, hc2⟩
    · exact ⟨fun _ => h0 hi, fun z => absurd hc z⟩
    · refine ⟨fun z => absurd z hc, fun _ => ⟨fun z => ?_, fun _ => h0 hi⟩⟩
      rw [T_lt, lit_toInt6] at z; rw [T_le, nI_toInt (by decide)] at hc2; omega
  · exact ⟨fun z => absurd z (nI_pos (by omega)), fun _ => ⟨fun _ => h1 i hi rfl hx, fun z => absurd (nI_lt hi (by decide)) z⟩⟩
theorem c_rankedScore {p q : Int32} (h : RC σ s) (hw : wf s) (hK : ∀ σ', RC σ' s → frM σ σ' → K (an_rankedScore s p q) σ') : P_X7_rankedScore p q σ K := by
  unfold P_X7_rankedScore
  have hm := h.m4
  refine find_C h (fun hi => ⟨fun _ => ?_, fun b e => by cases e⟩) (fun j hj hp hi => ⟨fun e => (by cases e), fun b e => ?_⟩)
  · rw [an_rankedScore, hi] at hK; exact hK σ h frM.rf
  · cases e
    rw [an_rankedScore, hi] at hK
    dsimp only at hK
    have hlen := RKf_len hw hj
    refine ⟨h.sok (by omega), idx6 (fun hx => ?_) (fun i hi6 hq hx => ?_)⟩
    · rw [hx] at hK; exact hK σ h frM.rf
    · subst hq
      rw [hx] at hK
      dsimp only at hK
      rw [nI_1]
      refine rank_C h hw hj (by omega) (by omega) (fun σ' of r1 r2 _ _ r3 => ?_)
      rw [found_C r3, nI_leI (by omega) (by omega)]
      have hk := hK σ' r1 r2
      unfold an_rkScore at hk
      refine ⟨fun z => ?_, fun z => scoreRk_C hw hj (by omega) r3 (by omega) (by omega) ?_⟩
      · rw [List.getElem?_eq_none (by omega)] at hk; exact hk
      · rw [List.getElem?_eq_getElem (by omega)] at hk; exact hk
theorem c_rankedHead {p q r : Int32} (h : RC σ s) (hw : wf s) (hK : ∀ σ', RC σ' s → frM σ σ' → K (an_rankedHead s p q r) σ') : P_X7_rankedHead p q r σ K := by
  unfold P_X7_rankedHead
  have hm := h.m4
  refine find_C h (fun hi => ⟨fun _ => ?_, fun b e => by cases e⟩) (fun j hj hp hi => ⟨fun e => (by cases e), fun b e => ?_⟩)
  · rw [an_rankedHead, hi] at hK; exact hK σ h frM.rf
  · cases e
    rw [an_rankedHead, hi] at hK
    dsimp only at hK
    have hlen := RKf_len hw hj
    have hz := hw.sz hj
    refine ⟨h.sok (by omega), hasWord_C (h.sent hj).1 (by omega) (fun hv => ⟨fun _ => ?_, fun z => absurd rfl z⟩) (fun w w1 w2 hq hv => ⟨fun z => absurd z (by decide), fun _ => idx6 (fun hx => ?_) (fun i hi6 hq2 hx => ?_)⟩)⟩
    · rw [hv] at hK; exact hK σ h frM.rf
    · rw [hv] at hK; dsimp only at hK; rw [hx] at hK; exact hK σ h frM.rf
    · subst hq hq2
      rw [hv] at hK
      dsimp only at hK
      rw [hx] at hK
      dsimp only at hK
      rw [nI_1]
      refine rank_C h hw hj (by omega) (by omega) (fun σ' of r1 r2 _ _ r3 => ?_)
      rw [found_C r3, nI_leI (by omega) (by omega)]
      have hk := hK σ' r1 r2
      unfold an_rkHead at hk
      refine ⟨fun z => ?_, fun z => headRk_C hw hj (by omega) r3 (by omega) (by omega) w1 w2 ?_⟩
      · rw [List.getElem?_eq_none (by omega)] at hk; exact hk
      · rw [List.getElem?_eq_getElem (by omega)] at hk; exact hk
/-! the reference -/
theorem lookR {K : St → Prop} {j : Nat} (h : RM σ s) (hw : wf s) (hj : j < aM s) (hK : ∀ σ', RM σ' s → frY σ σ' → LC (sZ (aS s j)) j (scI (aW s) (aS s j)) (potI (aW s) (aS s j) (aG s).2.2) (annL (aS s j)) σ' → LK (sZ (aS s j)) (scI (aW s) (aS s j)) (potI (aW s) (aS s j) (aG s).2.2) (annL (aS s j)) σ' (admL s j) → RKc (scI (aW s) (aS s j)) (sZ (aS s j)) σ' (RKf s j) → σ'.2.1 204 29 = -1 → K σ') : P_X8_looks (nI j) σ K :=
  looks_M h hw hj (fun σ' f1 r1 r2 r3 r4 => hK σ' r1 f1 r2 r3 r3.rk r4)
theorem m_bestScore {p : Int32} (h : RM σ s) (hw : wf s) (hK : ∀ σ', RM σ' s → frK σ σ' → K (an_bestScore s p) σ') : P_X8_bestScore p σ K := by
  unfold P_X8_bestScore
  refine isSent_M h (fun hi => ⟨fun _ => ?_, fun z => absurd rfl z⟩) (fun j hj hp hi => ⟨fun z => absurd z (by decide), fun _ => ?_⟩)
  · rw [an_bestScore, hi] at hK; exact hK σ h frK.rf
  · subst hp
    rw [an_bestScore, hi] at hK
    dsimp only at hK
    have hlen := RKf_len hw hj
    refine lookR h hw hj (fun σ' r1 r2 _ _ r3 _ => ?_)
    have hk := hK σ' r1 (frY_K r2)
    unfold an_rkScore at hk
    rw [r3.1, show (0 : Int32) = nI 0 from rfl, nI_leI (by omega) (by omega), show ix (nI 0) = 0 from ix_nI (by decide)]
    refine ⟨fun z => ?_, fun z => ?_⟩
    · rw [List.getElem?_eq_none (by omega)] at hk; exact hk
    · rw [List.getElem?_eq_getElem (by omega)] at hk
      rw [(r3.2.2 0 (by omega)).1]; exact hk
theorem m_bestHead {p q : Int32} (h : RM σ s) (hw : wf s) (hK : ∀ σ', RM σ' s → frK σ σ' → K (an_bestHead s p q) σ') : P_X8_bestHead p q σ K := by
  unfold P_X8_bestHead
  refine isWord_M h hw (fun hi => ⟨fun _ => ?_, fun z => absurd rfl z⟩) (fun i hi hp hx hv => ⟨fun _ => ?_, fun z => absurd rfl z⟩) (fun j w hj hp hx w1 w2 hq hv => ⟨fun z => absurd z (by decide), fun _ => ?_⟩)
  · rw [an_bestHead, hi] at hK; exact hK σ h frK.rf
  · rw [an_bestHead, hx] at hK; dsimp only at hK; rw [hv] at hK; exact hK σ h frK.rf
  · subst hp hq
    rw [an_bestHead, hx] at hK
    dsimp only at hK
    rw [hv] at hK
    dsimp only at hK
    have hlen := RKf_len hw hj
    have hz := hw.sz hj
    refine lookR h hw hj (fun σ' r1 r2 _ _ r3 _ => ?_)
    have hk := hK σ' r1 (frY_K r2)
    unfold an_rkHead at hk
    rw [r3.1, show (0 : Int32) = nI 0 from rfl, nI_leI (by omega) (by omega), ix_nI (by omega)]
    refine ⟨fun z => ?_, fun z => ⟨vp_in_nI (by omega) (by decide), ?_⟩⟩
    · rw [List.getElem?_eq_none (by omega)] at hk; exact hk
    · rw [List.getElem?_eq_getElem (by omega)] at hk
      have := (r3.2.2 0 (by omega)).2 w w1 w2
      rw [Nat.mul_zero, Nat.zero_add] at this
      rw [this]; exact hk
theorem in05 {q : Int32} {K : Int32 → St → Prop} (h0 : idx q 6 = none → K 0 σ) (h1 : ∀ i, i < 6 → q = nI i → idx q 6 = some i → K 1 σ) : P_X8_in q 0 5 σ K := by
  refine in_N (A := 0) (B := 5) rfl rfl (fun c => ?_) (fun c => ?_)
  · rcases idx_cases q (m := 6) (by decide) with ⟨hi, hc⟩ | ⟨j, hj, hp, hi⟩
    · exact h0 hi
    · rw [c_eq (by omega)] at hp; exact absurd ⟨by omega, by omega⟩ c
  · rcases idx_cases q (m := 6) (by decide) with ⟨hi, hc⟩ | ⟨j, hj, hp, hi⟩
    · exfalso
      obtain ⟨c1, c2⟩ := c
      rcases hc with hc | ⟨-, hc⟩
      · rw [T_lt, lit_toInt0] at hc; omega
      · rw [T_le, nI_toInt (by decide)] at hc; omega
    · exact h1 j hj hp hi
theorem m_rankedScore {p q : Int32} (h : RM σ s) (hw : wf s) (hK : ∀ σ', RM σ' s → frK σ σ' → K (an_rankedScore s p q) σ') : P_X8_rankedScore p q σ K := by
  unfold P_X8_rankedScore
  refine isSent_M h (fun hi => ⟨fun _ => ?_, fun z => absurd rfl z⟩) (fun j hj hp hi => ⟨fun z => absurd z (by decide), fun _ => ?_⟩)
  · rw [an_rankedScore, hi] at hK; exact hK σ h frK.rf
  · subst hp
    rw [an_rankedScore, hi] at hK
    dsimp only at hK
    have hlen := RKf_len hw hj
    refine in05 (fun hx => ⟨fun _ => ?_, fun z => absurd rfl z⟩) (fun i hi6 hq hx => ⟨fun z => absurd z (by decide), fun _ => ?_⟩)
    · rw [hx] at hK; exact hK σ h frK.rf
    · subst hq
      rw [hx] at hK
      dsimp only at hK
      refine lookR h hw hj (fun σ' r1 r2 _ _ r3 _ => ?_)
      have hk := hK σ' r1 (frY_K r2)
      unfold an_rkScore at hk
      rw [r3.1, nI_leI (by omega) (by omega), ix_nI (by omega)]
      refine ⟨fun z => ?_, fun z => ⟨vp_in_nI (by omega) (by decide), ?_⟩⟩
      · rw [List.getElem?_eq_none (by omega)] at hk; exact hk
      · rw [List.getElem?_eq_getElem (by omega)] at hk
        rw [(r3.2.2 i (by omega)).1]; exact hk
theorem m_rankedHead {p q r : Int32} (h : RM σ s) (hw : wf s) (hK : ∀ σ', RM σ' s → frK σ σ' → K (an_rankedHead s p q r) σ') : P_X8_rankedHead p q r σ K := by
  unfold P_X8_rankedHead
  refine isWord_M h hw (fun hi => ⟨fun _ => ?_, fun z => absurd rfl z⟩) (fun i hi hp hx hv => ⟨fun _ => ?_, fun z => absurd rfl z⟩) (fun j w hj hp hx w1 w2 hq hv => ⟨fun z => absurd z (by decide), fun _ => ?_⟩)
  · rw [an_rankedHead, hi] at hK; exact hK σ h frK.rf
  · rw [an_rankedHead, hx] at hK; dsimp only at hK; rw [hv] at hK; exact hK σ h frK.rf
  · subst hp hq
    rw [an_rankedHead, hx] at hK
    dsimp only at hK
    rw [hv] at hK
    dsimp only at hK
    have hlen := RKf_len hw hj
    have hz := hw.sz hj
    refine in05 (fun hx2 => ⟨fun _ => ?_, fun z => absurd rfl z⟩) (fun i hi6 hq hx2 => ⟨fun z => absurd z (by decide), fun _ => ?_⟩)
    · rw [hx2] at hK; exact hK σ h frK.rf
    · subst hq
      rw [hx2] at hK
      dsimp only at hK
      refine lookR h hw hj (fun σ' r1 r2 _ _ r3 _ => ?_)
      have hk := hK σ' r1 (frY_K r2)
      unfold an_rkHead at hk
      rw [r3.1, nI_leI (by omega) (by omega), pl7, ix_nI (by omega)]
      refine ⟨fun z => ?_, fun z => ⟨vp_in_nI (by omega) (by decide), ?_⟩⟩
      · rw [List.getElem?_eq_none (by omega)] at hk; exact hk
      · rw [List.getElem?_eq_getElem (by omega)] at hk
        rw [(r3.2.2 i (by omega)).2 w w1 w2]; exact hk
end RNKC
