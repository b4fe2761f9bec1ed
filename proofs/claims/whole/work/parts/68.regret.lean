set_option linter.unusedSectionVars false
/-! regret, margin -/
theorem max_fold {sc : Nat → Nat → Int32} {P : List Nat → Prop} [DecidablePred P] : ∀ (A : List (List Nat)) (b : Int32), let r := A.foldl (fun b l => if P l then (if scL sc l ≤ b then b else scL sc l) else b) b
    b.toInt ≤ r.toInt ∧ (∀ l, l ∈ A → P l → (scL sc l).toInt ≤ r.toInt) ∧ (r = b ∨ ∃ l, l ∈ A ∧ P l ∧ r = scL sc l)
  | [], b => ⟨Int.le_refl _, fun l hl => (by cases hl), Or.inl rfl⟩
  | l :: A, b => by
    intro r
    have ih := max_fold (sc := sc) (P := P) A (if P l then (if scL sc l ≤ b then b else scL sc l) else b)
    obtain ⟨h1, h2, h3⟩ := ih
    have hb : b.toInt ≤ (if P l then (if scL sc l ≤ b then b else scL sc l) else b).toInt ∧ (P l → (scL sc l).toInt ≤ (if P l then (if scL sc l ≤ b then b else scL sc l) else b).toInt) := by
      by_cases q : P l
      · rw [if_pos q]
        by_cases q2 : scL sc l ≤ b
        · rw [if_pos q2]; rw [T_le] at q2; exact ⟨Int.le_refl _, fun _ => q2⟩
        · rw [if_neg q2]; rw [T_le] at q2; exact ⟨by omega, fun _ => Int.le_refl _⟩
      · rw [if_neg q]; exact ⟨Int.le_refl _, fun y => absurd y q⟩
    refine ⟨Int.le_trans hb.1 h1, fun l' hl' hp => ?_, ?_⟩
    · rcases List.mem_cons.mp hl' with e | e
      · rw [e] at hp ⊢; exact Int.le_trans (hb.2 hp) h1
      · exact h2 l' e hp
    · rcases h3 with h3 | ⟨l', q1, q2, q3⟩
      · by_cases q : P l
        · rw [if_pos q] at h3
          by_cases q2 : scL sc l ≤ b
          · rw [if_pos q2] at h3; left; show A.foldl _ (if P l then _ else b) = b; rw [if_pos q, if_pos q2]; exact h3
          · rw [if_neg q2] at h3; right; exact ⟨l, List.mem_cons_self, q, by show A.foldl _ (if P l then _ else b) = _; rw [if_pos q, if_neg q2]; exact h3⟩
        · rw [if_neg q] at h3; left; show A.foldl _ (if P l then _ else b) = b; rw [if_neg q]; exact h3
      · exact Or.inr ⟨l', List.mem_cons_of_mem _ q1, q2, q3⟩
theorem othA_eq {sc : Nat → Nat → Int32} {an : List Nat} (A : List (List Nat)) : othA sc an A = A.foldl (fun b l => if l ≠ an then (if scL sc l ≤ b then b else scL sc l) else b) LOWV := by
  unfold othA
  congr 1
  funext b l
  by_cases q : l = an
  · have q2 : ¬ l ≠ an := fun y => y q
    simp only [if_pos q, if_neg q2]; split <;> rfl
  · have q2 : l ≠ an := q
    simp only [if_neg q, if_pos q2]
section MAXS
variable {s : AS} {j : Nat}
theorem adm_low (hw : wf s) (hj : j < aM s) {l : List Nat} (hl : l ∈ admL s j) : scL (scI (aW s) (aS s j)) l ≠ LOWV := by
  have hv := vS_tot hw hj (admL_mem.mp hl).1
  intro e
  have h1 := hv.1
  rw [e] at h1
  have : LOWV.toInt = -100000000 := by decide
  omega
theorem WT_sc (hw : wf s) (hj : j < aM s) {l l' : List Nat} (hl : l ∈ allT (sZ (aS s j))) (hl' : l' ∈ allT (sZ (aS s j))) (h : WT (vS s j) l ≤ WT (vS s j) l') : (scL (scI (aW s) (aS s j)) l).toInt ≤ (scL (scI (aW s) (aS s j)) l').toInt := by
  have hn6 := ((hw.2.1.2 j hj).1).2
  have h1 := (vS_tot hw hj hl).1
  have h2 := (vS_tot hw hj hl').1
  have c1 := WT_code hn6 hl
  have c2 := WT_code hn6 hl'
  rw [WT_eq, WT_eq] at h
  omega
theorem RK_nil (hw : wf s) (hj : j < aM s) (h : RKf s j = []) : ∀ l, l ∉ admL s j := by
  intro l hl
  have ht := (RKf_top hw hj).1
  rw [h] at ht
  rcases ht.2.2.2 (WT (vS s j) l) ⟨l, (admL_mem.mp hl).1, (admL_mem.mp hl).2, rfl⟩ with z | ⟨z, _⟩
  · cases z
  · cases z
theorem RK_first (hw : wf s) (hj : j < aM s) {r0 : List Nat} {R : List (List Nat)} (h : RKf s j = r0 :: R) : ∀ l, l ∈ admL s j → (scL (scI (aW s) (aS s j)) l).toInt ≤ (scL (scI (aW s) (aS s j)) r0).toInt := by
  intro l hl
  obtain ⟨ht, hm⟩ := RKf_top hw hj
  rw [h] at ht hm
  have hr0 := admL_mem.mp (hm r0 List.mem_cons_self)
  refine WT_sc hw hj (admL_mem.mp hl).1 hr0.1 ?_
  have hpw := ht.2.1
  rw [List.map_cons] at hpw
  obtain ⟨p1, -⟩ := List.pairwise_cons.mp hpw
  rcases ht.2.2.2 (WT (vS s j) l) ⟨l, (admL_mem.mp hl).1, (admL_mem.mp hl).2, rfl⟩ with z | ⟨_, z⟩
  · rw [List.map_cons] at z
    rcases List.mem_cons.mp z with z | z
    · omega
    · have := p1 _ z; omega
  · have := z (WT (vS s j) r0) (by rw [List.map_cons]; exact List.mem_cons_self)
    omega
theorem RK_second (hw : wf s) (hj : j < aM s) {r0 r1 : List Nat} {R : List (List Nat)} (h : RKf s j = r0 :: r1 :: R) : r1 ≠ r0 ∧ ∀ l, l ∈ admL s j → l ≠ r0 → (scL (scI (aW s) (aS s j)) l).toInt ≤ (scL (scI (aW s) (aS s j)) r1).toInt := by
  obtain ⟨ht, hm⟩ := RKf_top hw hj
  rw [h] at ht hm
  have hr0 := admL_mem.mp (hm r0 List.mem_cons_self)
  have hr1 := admL_mem.mp (hm r1 (by simp))
  have hpw := ht.2.1
  rw [List.map_cons, List.map_cons] at hpw
  obtain ⟨p1, p2⟩ := List.pairwise_cons.mp hpw
  obtain ⟨p3, -⟩ := List.pairwise_cons.mp p2
  refine ⟨fun e => by have := p1 (WT (vS s j) r1) List.mem_cons_self; rw [e] at this; omega, fun l hl hne => ?_⟩
  refine WT_sc hw hj (admL_mem.mp hl).1 hr1.1 ?_
  rcases ht.2.2.2 (WT (vS s j) l) ⟨l, (admL_mem.mp hl).1, (admL_mem.mp hl).2, rfl⟩ with z | ⟨_, z⟩
  · rw [List.map_cons, List.map_cons] at z
    rcases List.mem_cons.mp z with z | z
    · exact absurd (WT_inj ((hw.2.1.2 j hj).1).2 (admL_mem.mp hl).1 hr0.1 z) hne
    · rcases List.mem_cons.mp z with z | z
      · omega
      · have := p3 _ z; omega
  · have := z (WT (vS s j) r1) (by simp)
    omega
theorem RK_only (hw : wf s) (hj : j < aM s) {r0 : List Nat} (h : RKf s j = [r0]) : ∀ l, l ∈ admL s j → l = r0 := by
  intro l hl
  obtain ⟨ht, hm⟩ := RKf_top hw hj
  rw [h] at ht hm
  have hr0 := admL_mem.mp (hm r0 List.mem_cons_self)
  rcases ht.2.2.2 (WT (vS s j) l) ⟨l, (admL_mem.mp hl).1, (admL_mem.mp hl).2, rfl⟩ with z | ⟨z, _⟩
  · have z2 := List.mem_singleton.mp z
    exact WT_inj ((hw.2.1.2 j hj).1).2 (admL_mem.mp hl).1 hr0.1 z2
  · cases z
/-- the best with an arc -/
theorem bst_none (hw : wf s) (hj : j < aM s) {h w : Nat} (hn : ∀ l, l ∈ admL s j → hL l w ≠ h) : bstA (scI (aW s) (aS s j)) h w (admL s j) = LOWV := by
  have := max_fold (sc := scI (aW s) (aS s j)) (P := fun l => hL l w = h) (admL s j) LOWV
  rcases this.2.2 with z | ⟨l, q1, q2, q3⟩
  · exact z
  · exact absurd q2 (hn l q1)
theorem bst_some (hw : wf s) (hj : j < aM s) {h w : Nat} {l2 : List Nat} (hl : l2 ∈ admL s j) (hh : hL l2 w = h) (hmax : ∀ l, l ∈ admL s j → hL l w = h → (scL (scI (aW s) (aS s j)) l).toInt ≤ (scL (scI (aW s) (aS s j)) l2).toInt) : bstA (scI (aW s) (aS s j)) h w (admL s j) = scL (scI (aW s) (aS s j)) l2 := by
  have := max_fold (sc := scI (aW s) (aS s j)) (P := fun l => hL l w = h) (admL s j) LOWV
  have h1 := this.2.1 l2 hl hh
  have hv := vS_tot hw hj (admL_mem.mp hl).1
  rcases this.2.2 with z | ⟨l, q1, q2, q3⟩
  · have : LOWV.toInt = -100000000 := by decide
    rw [z] at h1
    have := hv.1
    omega
  · have h2 := hmax l q1 q2
    rw [← q3] at h2
    exact Int32.toInt_inj.mp (Int.le_antisymm h2 h1)
theorem oth_none (hw : wf s) (hj : j < aM s) (hn : ∀ l, l ∈ admL s j → l = annL (aS s j)) : othA (scI (aW s) (aS s j)) (annL (aS s j)) (admL s j) = LOWV := by
  rw [othA_eq]
  have := max_fold (sc := scI (aW s) (aS s j)) (P := fun l => l ≠ annL (aS s j)) (admL s j) LOWV
  rcases this.2.2 with z | ⟨l, q1, q2, q3⟩
  · exact z
  · exact absurd (hn l q1) q2
theorem oth_some (hw : wf s) (hj : j < aM s) {l2 : List Nat} (hl : l2 ∈ admL s j) (hh : l2 ≠ annL (aS s j)) (hmax : ∀ l, l ∈ admL s j → l ≠ annL (aS s j) → (scL (scI (aW s) (aS s j)) l).toInt ≤ (scL (scI (aW s) (aS s j)) l2).toInt) : othA (scI (aW s) (aS s j)) (annL (aS s j)) (admL s j) = scL (scI (aW s) (aS s j)) l2 := by
  rw [othA_eq]
  have := max_fold (sc := scI (aW s) (aS s j)) (P := fun l => l ≠ annL (aS s j)) (admL s j) LOWV
  have h1 := this.2.1 l2 hl hh
  have hv := vS_tot hw hj (admL_mem.mp hl).1
  rcases this.2.2 with z | ⟨l, q1, q2, q3⟩
  · have : LOWV.toInt = -100000000 := by decide
    rw [z] at h1
    have := hv.1
    omega
  · have h2 := hmax l q1 q2
    rw [← q3] at h2
    exact Int32.toInt_inj.mp (Int.le_antisymm h2 h1)
end MAXS
noncomputable def an_regret (s : AS) (p a q : Int32) : Int32 := match idx p (aM s) with
  | none => BADI
  | some j => match adx a q (sZ (aS s j)) with
    | none => BADI
    | some (h, w) => if bstA (scI (aW s) (aS s j)) h w (admL s j) = LOWV then NONEV else scL (scI (aW s) (aS s j)) ((RKf s j).getD 0 []) - bstA (scI (aW s) (aS s j)) h w (admL s j)
noncomputable def an_margin (s : AS) (p : Int32) : Int32 := match idx p (aM s) with
  | none => BADI
  | some j => if othA (scI (aW s) (aS s j)) (annL (aS s j)) (admL s j) = LOWV then NONEV else scL (scI (aW s) (aS s j)) (annL (aS s j)) - othA (scI (aW s) (aS s j)) (annL (aS s j)) (admL s j)
section REG
variable {σ : St} {s : AS} {K : Int32 → St → Prop}
theorem c_regret {p a q : Int32} (h : RC σ s) (hw : wf s) (hK : ∀ σ', RC σ' s → frM σ σ' → K (an_regret s p a q) σ') : P_X7_regret p a q σ K := by
  unfold P_X7_regret
  have hm := h.m4
  refine find_C h (fun hi => ⟨fun _ => ?_, fun b e => by cases e⟩) (fun j hj hp hi => ⟨fun e => (by cases e), fun b e => ?_⟩)
  · rw [an_regret, hi] at hK; exact hK σ h frM.rf
  · cases e
    rw [an_regret, hi] at hK
    dsimp only at hK
    have hlen := RKf_len hw hj
    have hz := hw.sz hj
    refine ⟨h.sok (by omega), hasArc_C (h.sent hj).1 (by omega) (fun hv => ⟨fun _ => ?_, fun z => absurd rfl z⟩) (fun b w b1 w1 w2 hne ha hq hv => ⟨fun z => absurd z (by decide), fun _ => ?_⟩)⟩
    · rw [hv] at hK; exact hK σ h frM.rf
    · rw [hv] at hK
      dsimp only at hK
      subst ha; subst hq
      refine rank_C (k := 1) h hw hj (by omega) (by omega) (fun σ' of r1 r2 r0 rO r3 => ?_)
      rw [found_C r3, show (0 : Int32) = nI 0 from rfl, nI_eq (by omega) (by omega)]
      refine ⟨fun z => ?_, fun z => scoreRk_C hw hj (by omega) r3 (by omega) (show 0 < (RKf s j).length by omega) ?_⟩
      · have hnil : RKf s j = [] := List.eq_nil_of_length_eq_zero (by omega)
        rw [if_pos (bst_none hw hj (fun l hl => absurd hl (RK_nil hw hj hnil l)))] at hK
        exact hK σ' r1 r2
      · refine keepOnly_C rO w1 w2 b1 (fun σ2 of2 hO2 ⟨t1, t2⟩ => ?_)
        refine seek_C (k := 1) (by omega) (by omega) hO2 (fun σ3 L f3 hKS hTop => ?_)
        have hRC : RC σ3 s := RC_fr (RC_fr r1 ⟨fun k hk => ⟨t2 k (by have := hk.1; omega) (by have := hk.1; omega), by rw [t1]⟩, by rw [t1]⟩) (frS_C f3)
        have hfM : frM σ σ3 := (r2.tr (fun k hk => ⟨t2 k (by omega) (by omega), by rw [t1]⟩)).tr (frS_M f3)
        have hk := hK σ3 hRC hfM
        have hset : ∀ l, l ∈ allT (sZ (aS s j)) → (admT (sgP s) (pjP s) (fun a u => chP (aS s j) a u ∧ (u = w → a = b)) (sZ (aS s j)) l ↔ l ∈ admL s j ∧ hL l w = b) := by
          intro l hl
          rw [admL_mem]
          constructor
          · rintro ⟨y1, y2, y3, y4⟩
            exact ⟨⟨hl, fun u u1 u2 => (y1 u u1 u2).1, y2, y3, y4⟩, (y1 w w1 w2).2 rfl⟩
          · rintro ⟨⟨_, y1, y2, y3, y4⟩, y5⟩
            exact ⟨fun u u1 u2 => ⟨y1 u u1 u2, fun e => by rw [e]; exact y5⟩, y2, y3, y4⟩
        rw [hKS.2.1, nI_eq (by have := hKS.1; omega) (by omega)]
        refine ⟨fun y => ?_, fun y => ?_⟩
        · have hL0 : L = [] := List.eq_nil_of_length_eq_zero y
          rw [if_pos (bst_none hw hj (fun l hl hb => ?_))] at hk
          · exact hk
          · rw [hL0] at hTop
            rcases hTop.2.2.2 (WT (vS s j) l) ⟨l, (admL_mem.mp hl).1, (hset l (admL_mem.mp hl).1).mpr ⟨hl, hb⟩, rfl⟩ with z | ⟨z, _⟩
            · cases z
            · cases z
        · cases L with
          | nil => exact absurd rfl y
          | cons x L =>
            have hL1 : L = [] := List.eq_nil_of_length_eq_zero (by have := hKS.1; rw [List.length_cons] at this; omega)
            subst hL1
            obtain ⟨l2, hl2, ha2, ex⟩ := hTop.2.2.1 x List.mem_cons_self
            obtain ⟨m1, m2⟩ := (hset l2 hl2).mp ha2
            have hbs := bst_some hw hj m1 m2 (fun l hl hb => WT_sc hw hj (admL_mem.mp hl).1 hl2 (by
              rcases hTop.2.2.2 (WT (vS s j) l) ⟨l, (admL_mem.mp hl).1, (hset l (admL_mem.mp hl).1).mpr ⟨hl, hb⟩, rfl⟩ with z | ⟨_, z⟩
              · have := List.mem_singleton.mp z; omega
              · have := z x List.mem_cons_self; omega))
            have hne : bstA (scI (aW s) (aS s j)) b w (admL s j) ≠ LOWV := by rw [hbs]; exact adm_low hw hj m1
            rw [if_neg hne, hbs, List.getD_eq_getElem?_getD, List.getElem?_eq_getElem (show 0 < (RKf s j).length by omega)] at hk
            exact scoreAt_C (i := 0) (v := vS s j) hz.2 (by omega) hKS (by simp) hl2 ex (vS_tot hw hj hl2).1 hk
theorem m_regret {p a q : Int32} (h : RM σ s) (hw : wf s) (hK : ∀ σ', RM σ' s → frK σ σ' → K (an_regret s p a q) σ') : P_X8_regret p a q σ K := by
  unfold P_X8_regret
  refine isArc_M h hw (fun hi => ⟨fun _ => ?_, fun z => absurd rfl z⟩) (fun i hi hp hx hv => ⟨fun _ => ?_, fun z => absurd rfl z⟩) (fun j b w hj hp hx b1 w1 w2 hne ha hq hv => ⟨fun z => absurd z (by decide), fun _ => ?_⟩)
  · rw [an_regret, hi] at hK; exact hK σ h frK.rf
  · rw [an_regret, hx] at hK; dsimp only at hK; rw [hv] at hK; exact hK σ h frK.rf
  · subst hp; subst ha; subst hq
    rw [an_regret, hx] at hK
    dsimp only at hK
    rw [hv] at hK
    dsimp only at hK
    have hz := hw.sz hj
    refine lookR h hw hj (fun σ' r1 r2 _ rL r3 _ => ?_)
    have hk := hK σ' r1 (frY_K r2)
    rw [pl7, ix_nI (by omega), (rL.ab b w b1 w1 w2).1, show ix (0 : Int32) = 0 from ix_nI (j := 0) (by decide)]
    refine ⟨vp_in_nI (by omega) (by decide), fun v5 e5 => ⟨fun z => ?_, fun z => ?_⟩⟩
    · rw [e5] at z
      rw [if_pos z] at hk; exact hk
    · rw [e5] at z ⊢
      rw [if_neg z] at hk
      have hlen : 0 < (RKf s j).length := by
        rcases Nat.eq_zero_or_pos (RKf s j).length with y | y
        · exact absurd (bst_none hw hj (fun l hl => absurd hl (RK_nil hw hj (List.eq_nil_of_length_eq_zero y) l))) z
        · exact y
      rw [List.getD_eq_getElem?_getD, List.getElem?_eq_getElem hlen] at hk
      rw [(r3.2.2 0 hlen).1]; exact hk
theorem annScore_C {K : Int32 → St → Prop} {j : Nat} (h : RC σ s) (hw : wf s) (hj : j < aM s) (hK : K (scL (scI (aW s) (aS s j)) (annL (aS s j))) σ) : P_X7_annotationScore (σ.2.2 j) σ K := by
  unfold P_X7_annotationScore
  have hm := h.m4
  have hwS := hw.2.1.2 j hj
  have hz := hwS.1
  have hTR := wfS_TR hwS
  have hal := annL_len (x := aS s j)
  refine LpE_inv (fun s' => s'.2.2 = σ ∧ ∃ i, i ≤ sZ (aS s j) ∧ s'.2.1 = nI (i + 1) ∧ totI (scI (aW s) (aS s j)) (i + 1) s'.1 ((annL (aS s j)).drop i) = scL (scI (aW s) (aS s j)) (annL (aS s j))) (fun s' => 20 - ix s'.2.1) ?_ _ ⟨rfl, 0, by omega, rfl, rfl⟩
  intro s' c hI hc
  obtain ⟨x1, x2, σ'⟩ := s'
  obtain ⟨e1, i, hi, e2, e3⟩ := hI
  dsimp only at e1 e2 e3
  subst e1 e2
  dsimp only
  unfold F_X7_annotationScore_4
  rw [(h.sent hj).1, nI_ltI (by omega) (by omega)]
  refine ⟨fun z => ?_, fun z => ⟨vp_in_nI (by omega) (by decide), ?_⟩⟩
  · rw [List.drop_of_length_le (by omega), totI] at e3
    rw [e3]; exact hK
  · have ht := hTR.ht (i + 1) (by omega) (by omega)
    rw [ix_nI (by omega), ((h.sent hj).2.1 (i + 1) (by omega) (by omega)).2, wfS_hd hwS (by omega) (by omega)]
    refine arcScore_C hwS (h.sent hj) (h.root (by omega)) h.wts ht.1 (by omega) (by omega) ht.2 (fun v4 e4 v5 e5 => ?_)
    rw [nI_1] at e5
    subst e4 e5
    refine hc _ ⟨rfl, i + 1, by omega, rfl, ?_⟩ ?_
    · rw [drop_hd (by omega), totI, annL_get (by omega) (by omega)] at e3; exact e3
    · show 20 - ix (nI (i + 1 + 1)) < 20 - ix (nI (i + 1))
      rw [ix_nI (by omega), ix_nI (by omega)]; omega
theorem c_margin {p : Int32} (h : RC σ s) (hw : wf s) (hK : ∀ σ', RC σ' s → frM σ σ' → K (an_margin s p) σ') : P_X7_margin p σ K := by
  unfold P_X7_margin
  have hm := h.m4
  refine find_C h (fun hi => ⟨fun _ => ?_, fun b e => by cases e⟩) (fun j hj hp hi => ⟨fun e => (by cases e), fun b e => ?_⟩)
  · rw [an_margin, hi] at hK; exact hK σ h frM.rf
  · cases e
    rw [an_margin, hi] at hK
    dsimp only at hK
    have hlen := RKf_len hw hj
    have hz := hw.sz hj
    refine ⟨h.sok (by omega), rank_C (k := 2) h hw hj (by omega) (by omega) (fun σ' of r1 r2 r0 rO r3 => ?_)⟩
    have hk := hK σ' r1 r2
    have hfd := found_C r3
    rw [← r0]
    -- one place of the ranking against the annotation
    have hgo : ∀ i, i < 2 → (∀ hi : i < (RKf s j).length, (RKf s j)[i] ≠ annL (aS s j) ∧ ∀ l, l ∈ admL s j → l ≠ annL (aS s j) → (scL (scI (aW s) (aS s j)) l).toInt ≤ (scL (scI (aW s) (aS s j)) (RKf s j)[i]).toInt) → ((RKf s j).length ≤ i → ∀ l, l ∈ admL s j → l = annL (aS s j)) → J_X7_margin_56 K (σ'.2.2 j) (nI i) σ' := by
      intro i hi2 h1 h2
      unfold J_X7_margin_56
      rw [hfd, nI_leI (by omega) (by omega)]
      refine ⟨fun z => ?_, fun z => annScore_C r1 hw hj (scoreRk_C hw hj (by omega) r3 hi2 (show i < (RKf s j).length by omega) ?_)⟩
      · rw [if_pos (oth_none hw hj (h2 (by omega)))] at hk; exact hk
      · have hil : i < (RKf s j).length := by omega
        obtain ⟨q1, q2⟩ := h1 hil
        have hmem := (RKf_top hw hj).2 _ (List.getElem_mem hil)
        have hos := oth_some hw hj hmem q1 q2
        rw [if_neg (by rw [hos]; exact adm_low hw hj hmem), hos] at hk
        exact hk
    have hann : ∀ hi0 : 0 < (RKf s j).length, (agN (RKf s j)[0] (hdN (aS s j)) (sZ (aS s j)) = sZ (aS s j) ↔ (RKf s j)[0] = annL (aS s j)) := by
      intro hi0
      have hmem := (admL_mem.mp ((RKf_top hw hj).2 _ (List.getElem_mem hi0))).1
      have hl1 := (allT_mem.mp hmem).1
      rw [agN_all]
      constructor
      · intro y
        exact hL_ext (by rw [hl1, annL_len]) (fun w w1 w2 => by rw [y w w1 (by omega), annL_get w1 (by omega)])
      · intro y w w1 w2
        rw [y, annL_get w1 w2]
    have h45 : (∀ hi0 : 0 < (RKf s j).length, (RKf s j)[0] ≠ annL (aS s j)) → J_X7_margin_45 K (σ'.2.2 j) σ' := by
      intro hne
      unfold J_X7_margin_45 J_X7_margin_46
      refine ⟨fun _ => hgo 0 (by omega) (fun hi => ⟨hne hi, fun l hl _ => ?_⟩) (fun hi l hl => absurd hl (RK_nil hw hj (List.eq_nil_of_length_eq_zero (by omega)) l)), fun y => absurd rfl y⟩
      have hcons : RKf s j = (RKf s j)[0] :: (RKf s j).drop 1 := by
        have := List.drop_eq_getElem_cons hi
        rw [List.drop_zero] at this; exact this
      exact RK_first hw hj hcons l hl
    rw [hfd, show (0 : Int32) = nI 0 from rfl, nI_leI (by omega) (by omega)]
    refine ⟨fun z => h45 (fun hi0 => by omega), fun z => ?_⟩
    have hi0 : 0 < (RKf s j).length := by omega
    have hag := agN_le (RKf s j)[0] (hdN (aS s j)) (sZ (aS s j))
    refine agree_C r1 hw hj (by omega) (by omega) r3 hi0 ?_
    rw [(r1.sent hj).1, nI_eq (by omega) (by omega), hann hi0]
    refine ⟨fun y => ?_, fun y => h45 (fun _ => y)⟩
    unfold J_X7_margin_46
    refine ⟨fun y2 => absurd y2 (by decide), fun _ => hgo 1 (by omega) (fun hi => ?_) (fun hi l hl => ?_)⟩
    · have hcons : RKf s j = (RKf s j)[0] :: (RKf s j)[1] :: (RKf s j).drop 2 := by
        have h1 := List.drop_eq_getElem_cons hi0
        have h2 := List.drop_eq_getElem_cons hi
        rw [List.drop_zero, Nat.zero_add, h2] at h1; exact h1
      obtain ⟨q1, q2⟩ := RK_second hw hj hcons
      refine ⟨fun e => q1 (by rw [e, y]), fun l hl hne => q2 l hl (fun e => hne (by rw [e, y]))⟩
    · have hone : RKf s j = [(RKf s j)[0]] := by
        have h1 := List.drop_eq_getElem_cons hi0
        rw [List.drop_zero, Nat.zero_add, List.drop_of_length_le (by omega)] at h1; exact h1
      rw [RK_only hw hj hone l hl]; exact y
theorem m_margin {p : Int32} (h : RM σ s) (hw : wf s) (hK : ∀ σ', RM σ' s → frK σ σ' → K (an_margin s p) σ') : P_X8_margin p σ K := by
  unfold P_X8_margin
  have hm := h.m4
  refine isSent_M h (fun hi => ⟨fun _ => ?_, fun z => absurd rfl z⟩) (fun j hj hp hi => ⟨fun z => absurd z (by decide), fun _ => ?_⟩)
  · rw [an_margin, hi] at hK; exact hK σ h frK.rf
  · subst hp
    rw [an_margin, hi] at hK
    dsimp only at hK
    have hwS := hw.2.1.2 j hj
    have hz := hwS.1
    have hTR := wfS_TR hwS
    have hal := annL_len (x := aS s j)
    refine lookR h hw hj (fun σ' r1 r2 rC rL r3 _ => ?_)
    have hk := hK σ' r1 (frY_K r2)
    rw [rL.bo]
    refine ⟨fun z => ?_, fun z => ?_⟩
    · rw [if_pos z] at hk; exact hk
    · rw [if_neg z] at hk
      refine LpE_inv (fun s' => s'.2.2 = σ' ∧ ∃ i, i ≤ sZ (aS s j) ∧ s'.2.1 = nI (i + 1) ∧ totI (scI (aW s) (aS s j)) (i + 1) s'.1 ((annL (aS s j)).drop i) = scL (scI (aW s) (aS s j)) (annL (aS s j))) (fun s' => 20 - ix s'.2.1) ?_ _ ⟨rfl, 0, by omega, rfl, rfl⟩
      intro s' c hI hc
      obtain ⟨x1, x2, σ2⟩ := s'
      obtain ⟨e1, i, hi, e2, e3⟩ := hI
      dsimp only at e1 e2 e3
      subst e1 e2
      dsimp only
      unfold F_X8_margin_32 P_X8_word
      refine ⟨vp_in_nI (by omega) (by decide), ?_⟩
      rw [ix_nI (by omega), r1.sz hj, nI_ltI (by omega) (by omega), rL.bo, pl7]
      dsimp only
      refine ⟨fun y => ?_, fun y => ?_⟩
      · rw [List.drop_of_length_le (by omega), totI] at e3
        rw [e3]; exact hk
      · have ht := hTR.ht (i + 1) (by omega) (by omega)
        rw [ix_nI (by omega), r1.hd hj (by omega) (by omega), wfS_hd hwS (by omega) (by omega), pl7, ix_nI (by omega), (rC.h217 _ _ ht.1 (by omega) (by omega) ht.2).1, nI_1]
        refine ⟨vp_in_nI (by omega) (by decide), vp_in_nI (by omega) (by decide), fun v9 e9 v10 e10 => ?_⟩
        subst e9 e10
        refine hc _ ⟨rfl, i + 1, by omega, rfl, ?_⟩ ?_
        · rw [drop_hd (by omega), totI, annL_get (by omega) (by omega)] at e3; exact e3
        · show 20 - ix (nI (i + 1 + 1)) < 20 - ix (nI (i + 1))
          rw [ix_nI (by omega), ix_nI (by omega)]; omega
end REG
