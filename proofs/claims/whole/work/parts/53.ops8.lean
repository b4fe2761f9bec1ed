/-! projectiveOrder, transitions, transition -/
theorem wfS_TR {x : SentT} (h : wfS x) : TR (sZ x) (hdN x) := by
  obtain ⟨⟨z1, z2⟩, hx2, hT, -⟩ := h
  refine ⟨z2, fun w w1 w2 => ?_, hT, rfl⟩
  obtain ⟨-, h, h1, h2, h3⟩ := hx2 w w1 w2
  have : hdN x w = h := by unfold hdN; rw [if_neg (by omega), h3]; exact ix_nI (by omega)
  rw [this]; exact ⟨h1, h2⟩
theorem wfS_hd {x : SentT} (h : wfS x) {w : Nat} (w1 : 1 ≤ w) (w2 : w ≤ sZ x) : sHd x w = nI (hdN x w) := by
  obtain ⟨⟨z1, z2⟩, hx2, hT, -⟩ := h
  obtain ⟨-, h, h1, h2, h3⟩ := hx2 w w1 w2
  have : hdN x w = h := by unfold hdN; rw [if_neg (by omega), h3]; exact ix_nI (by omega)
  rw [this]; exact h3
def an_order (s : AS) (p q : Int32) : Int32 := match idx p (aM s) with
  | none => BADI
  | some i => match idx q (sZ (aS s i)) with
    | none => BADI
    | some k => nI ((ordF (sZ (aS s i)) (hdN (aS s i)) 0).getD (k + 1) 0)
def an_transitions (s : AS) (p : Int32) : Int32 := match idx p (aM s) with
  | none => BADI
  | some i => nI (movesL (sZ (aS s i)) (hdN (aS s i))).length
def an_transition (s : AS) (p q : Int32) : Int32 := match idx p (aM s) with
  | none => BADI
  | some i => match idx q (movesL (sZ (aS s i)) (hdN (aS s i))).length with
    | none => NONEV
    | some k => nI ((movesL (sZ (aS s i)) (hdN (aS s i))).getD k 0)
section OP8
variable {σ : St} {s : AS} {K : Int32 → St → Prop}
theorem fr_run {σ' : St} (h : RC σ s) (h1 : σ'.2 = σ.2) (h2 : ∀ c, c < 196 ∨ 203 < c → σ'.1 c = σ.1 c) : RC σ' s ∧ frM σ σ' := ⟨RC_fr h ⟨fun k hk => ⟨h2 k (by have := hk.1; omega), by rw [h1]⟩, by rw [h1]⟩, fun k hk => ⟨h2 k (by omega), by rw [h1]⟩⟩
theorem countTr_C {a : Nat} {x : SentT} {K : Int32 → St → Prop} (hx : wfS x) (hr : RS σ a x) (ha : sOk a) (hK : ∀ σ', (σ'.2 = σ.2 ∧ ∀ c, c < 196 ∨ 203 < c → σ'.1 c = σ.1 c) → ranC (sZ x) (hdN x) σ' → K (nI (movesL (sZ x) (hdN x)).length) σ') : P_X7_countTransitions a σ K := by
  unfold P_X7_countTransitions
  refine arrange_C hx hr ha (fun σ1 h1 h2 => perform_C (wfS_TR hx) h2 (fun σ2 h3 h4 => ?_))
  rw [h4.1]
  exact hK σ2 ⟨h3.1.trans h1.1, fun c hc => (h3.2 c hc).trans (h1.2 c (by omega))⟩ h4
theorem mv_len {n : Nat} {t : Nat → Nat} : (movesL n t).length ≤ 64 := runQ_len _ _ _ _ _
theorem c_projectiveOrder {p q : Int32} (h : RC σ s) (hw : wf s) (hK : ∀ σ', RC σ' s → frM σ σ' → K (an_order s p q) σ') : P_X7_projectiveOrder p q σ K := by
  unfold P_X7_projectiveOrder
  have hm := h.m4
  refine find_C h (fun hi => ⟨fun _ => ?_, fun b e => by cases e⟩) (fun j hj hp hi => ⟨fun e => (by cases e), fun b e => ?_⟩)
  · rw [an_order, hi] at hK; exact hK σ h frM.rf
  · cases e
    have hso := h.sok (i := j) (by omega)
    have hwS := hw.2.1.2 j hj
    have hz := hw.sz hj
    have hT := wfS_TR hwS
    refine ⟨hso, ?_⟩
    rw [(h.sent hj).1]
    rw [an_order, hi] at hK
    dsimp only at hK
    rcases idx_cases q (m := sZ (aS s j)) (by omega) with ⟨hi2, hc⟩ | ⟨k, hk, rfl, hi2⟩
    · rw [hi2] at hK
      rcases hc with hc | ⟨hc, hc2⟩
      · exact ⟨fun _ => hK σ h frM.rf, fun z => absurd hc z⟩
      · refine ⟨fun z => absurd z hc, fun _ => ⟨fun z => ?_, fun _ => hK σ h frM.rf⟩⟩
        rw [T_lt] at z; rw [T_le] at hc2; omega
    · rw [hi2] at hK
      refine ⟨fun z => absurd z (nI_pos (by omega)), fun _ => ⟨fun _ => arrange_C hwS (h.sent hj) hso (fun σ' h1 h2 => ?_), fun z => absurd (nI_lt hk (by omega)) z⟩⟩
      have hl : k + 1 < (ordF (sZ (aS s j)) (hdN (aS s j)) 0).length := by rw [hT.len]; omega
      rw [nI_1, ix_nI (by omega), h2.2.2.1 _ hl]
      refine ⟨vp_in_nI (by omega) (by decide), ?_⟩
      obtain ⟨r1, r2⟩ := fr_run h h1.1 (fun c hc => h1.2 c (by omega))
      have := hK σ' r1 r2
      dsimp only at this
      rw [List.getD_eq_getElem?_getD, List.getElem?_eq_getElem hl] at this
      exact this
theorem m_projectiveOrder {p q : Int32} (h : RM σ s) (hw : wf s) (hK : ∀ σ', RM σ' s → frK σ σ' → K (an_order s p q) σ') : P_X8_projectiveOrder p q σ K := by
  unfold P_X8_projectiveOrder
  have hm := h.m4
  refine isSent_M h (fun hi => ⟨fun _ => ?_, fun z => absurd rfl z⟩) (fun j hj hp hi => ⟨fun z => absurd z (by decide), fun _ => ?_⟩)
  · rw [an_order, hi] at hK; exact hK σ h frK.rf
  · subst hp
    have hwS := hw.2.1.2 j hj
    have hz := hw.sz hj
    have hT := wfS_TR hwS
    refine ⟨vp_in_nI (by omega) (by decide), ?_⟩
    rw [ix_nI (by omega), h.sz hj, show nI (sZ (aS s j)) - 1 = nI (sZ (aS s j) - 1) from pk_sub (b := 1) (by omega)]
    rw [an_order, hi] at hK
    dsimp only at hK
    refine in_N (A := 0) (B := (sZ (aS s j) - 1 : Nat)) rfl (nI_toInt (by omega)) (fun c => ⟨fun _ => ?_, fun z => absurd rfl z⟩) (fun c => ⟨fun z => absurd z (by decide), fun _ => ?_⟩)
    · rcases idx_cases q (m := sZ (aS s j)) (by omega) with ⟨hi2, hc⟩ | ⟨k, hk, rfl, hi2⟩
      · rw [hi2] at hK; exact hK σ h frK.rf
      · exfalso
        rw [rng, nI_toInt (by omega)] at c
        omega
    · rcases idx_cases q (m := sZ (aS s j)) (by omega) with ⟨hi2, hc⟩ | ⟨k, hk, rfl, hi2⟩
      · exfalso
        rw [rng] at c
        rcases hc with hc | ⟨hc, hc2⟩
        · rw [T_lt, lit_toInt0] at hc; omega
        · rw [T_le, nI_toInt (by omega)] at hc2; omega
      · rw [hi2] at hK
        refine orders_M (by omega) hT (h.sz hj) (fun w w1 w2 => by rw [h.hd hj w1 w2]; exact wfS_hd hwS w1 w2) (fun σ' h1 h2 => ?_)
        have hl : k + 1 < (ordF (sZ (aS s j)) (hdN (aS s j)) 0).length := by rw [hT.len]; omega
        have h0 : σ'.1 226 0 = nI 0 := by
          have e0 : ordF (sZ (aS s j)) (hdN (aS s j)) 0 = 0 :: (rkT (sZ (aS s j)) (hdN (aS s j)) 0).flatMap (ordF (sZ (aS s j)) (hdN (aS s j))) := by
            rw [hT.fix (Nat.zero_le _)]; rfl
          have := h2.2 0 (by omega)
          have e1 : (ordF (sZ (aS s j)) (hdN (aS s j)) 0)[0]'(by omega) = 0 := by simp only [e0, List.getElem_cons_zero]
          rw [e1] at this
          exact this
        rw [show ix (0 : Int32) = 0 from ix_nI (j := 0) (by decide), h0, nI_1, ix_nI (by omega), h2.1 _ hl]
        refine ⟨fun _ => ⟨vp_in_nI (by omega) (by decide), ?_⟩, fun z => absurd (nI_le (Nat.zero_le _) (by omega)) z⟩
        have hf : frV σ σ' := ⟨h1.1, fun c a b => h1.2 c (by omega) (by omega), fun f hf => by rw [h1.2 204 (by omega) (by omega)]⟩
        have := hK σ' (frV_RM h hf) (frV_K hf)
        dsimp only at this
        rw [List.getD_eq_getElem?_getD, List.getElem?_eq_getElem hl] at this
        exact this
theorem c_transitions {p : Int32} (h : RC σ s) (hw : wf s) (hK : ∀ σ', RC σ' s → frM σ σ' → K (an_transitions s p) σ') : P_X7_transitions p σ K := by
  unfold P_X7_transitions
  have hm := h.m4
  refine find_C h (fun hi => ⟨fun _ => ?_, fun b e => by cases e⟩) (fun j hj hp hi => ⟨fun e => (by cases e), fun b e => ?_⟩)
  · rw [an_transitions, hi] at hK; exact hK σ h frM.rf
  · cases e
    rw [an_transitions, hi] at hK
    refine ⟨h.sok (by omega), countTr_C (hw.2.1.2 j hj) (h.sent hj) (h.sok (by omega)) (fun σ' h1 h2 => ?_)⟩
    obtain ⟨r1, r2⟩ := fr_run h h1.1 h1.2
    exact hK σ' r1 r2
theorem moves_R {j : Nat} {K : St → Prop} (h : RM σ s) (hw : wf s) (hj : j < aM s) (hK : ∀ σ', RM σ' s → frV σ σ' → ranM (sZ (aS s j)) (hdN (aS s j)) σ' → K σ') : P_X8_moves (nI j) σ K := by
  have hm := h.m4
  have hwS := hw.2.1.2 j hj
  exact moves_M (by omega) (wfS_TR hwS) (h.sz hj) (fun w w1 w2 => by rw [h.hd hj w1 w2]; exact wfS_hd hwS w1 w2) (fun σ' h1 h2 => hK σ' (frV_RM h h1) h1 h2)
theorem m_transitions {p : Int32} (h : RM σ s) (hw : wf s) (hK : ∀ σ', RM σ' s → frK σ σ' → K (an_transitions s p) σ') : P_X8_transitions p σ K := by
  unfold P_X8_transitions
  refine isSent_M h (fun hi => ⟨fun _ => ?_, fun z => absurd rfl z⟩) (fun j hj hp hi => ⟨fun z => absurd z (by decide), fun _ => ?_⟩)
  · rw [an_transitions, hi] at hK; exact hK σ h frK.rf
  · subst hp
    rw [an_transitions, hi] at hK
    refine moves_R h hw hj (fun σ' h1 h2 h3 => ?_)
    rw [h3.1]
    exact hK σ' h1 (frV_K h2)
theorem c_transition {p q : Int32} (h : RC σ s) (hw : wf s) (hK : ∀ σ', RC σ' s → frM σ σ' → K (an_transition s p q) σ') : P_X7_transition p q σ K := by
  unfold P_X7_transition
  have hm := h.m4
  refine find_C h (fun hi => ⟨fun _ => ?_, fun b e => by cases e⟩) (fun j hj hp hi => ⟨fun e => (by cases e), fun b e => ?_⟩)
  · rw [an_transition, hi] at hK; exact hK σ h frM.rf
  · cases e
    rw [an_transition, hi] at hK
    dsimp only at hK
    refine ⟨h.sok (by omega), ?_⟩
    have hml := mv_len (n := sZ (aS s j)) (t := hdN (aS s j))
    have hgo : ∀ {C : Int32 → St → Prop}, (∀ σ', RC σ' s → frM σ σ' → ranC (sZ (aS s j)) (hdN (aS s j)) σ' → C (nI (movesL (sZ (aS s j)) (hdN (aS s j))).length) σ') → P_X7_countTransitions (σ.2.2 j) σ C := by
      intro C hC
      refine countTr_C (hw.2.1.2 j hj) (h.sent hj) (h.sok (by omega)) (fun σ' h1 h2 => ?_)
      obtain ⟨r1, r2⟩ := fr_run h h1.1 h1.2
      exact hC σ' r1 r2 h2
    rcases idx_cases q (m := (movesL (sZ (aS s j)) (hdN (aS s j))).length) (by omega) with ⟨hi2, hc⟩ | ⟨k, hk, rfl, hi2⟩
    · rw [hi2] at hK
      rcases hc with hc | ⟨hc, hc2⟩
      · exact ⟨fun _ => hK σ h frM.rf, fun z => absurd hc z⟩
      · refine ⟨fun z => absurd z hc, fun _ => hgo (fun σ' r1 r2 r3 => ⟨fun z => ?_, fun _ => hK σ' r1 r2⟩)⟩
        rw [T_lt] at z; rw [T_le] at hc2; omega
    · rw [hi2] at hK
      refine ⟨fun z => absurd z (nI_pos (by omega)), fun _ => hgo (fun σ' r1 r2 r3 => ⟨fun _ => ⟨vp_in_nI (by omega) (by decide), ?_⟩, fun z => absurd (nI_lt hk (by omega)) z⟩)⟩
      have := hK σ' r1 r2
      dsimp only at this
      rw [List.getD_eq_getElem?_getD, List.getElem?_eq_getElem hk] at this
      rw [ix_nI (by omega), r3.2 k hk]; exact this
theorem m_transition {p q : Int32} (h : RM σ s) (hw : wf s) (hK : ∀ σ', RM σ' s → frK σ σ' → K (an_transition s p q) σ') : P_X8_transition p q σ K := by
  unfold P_X8_transition
  refine isSent_M h (fun hi => ⟨fun _ => ?_, fun z => absurd rfl z⟩) (fun j hj hp hi => ⟨fun z => absurd z (by decide), fun _ => ?_⟩)
  · rw [an_transition, hi] at hK; exact hK σ h frK.rf
  · subst hp
    rw [an_transition, hi] at hK
    dsimp only at hK
    have hml := mv_len (n := sZ (aS s j)) (t := hdN (aS s j))
    refine moves_R h hw hj (fun σ' h1 h2 h3 => ?_)
    rw [h3.1]
    have e1 : (nI (movesL (sZ (aS s j)) (hdN (aS s j))).length - 1).toInt = ((movesL (sZ (aS s j)) (hdN (aS s j))).length : Int) - 1 := pk_sub_toInt (a := (movesL (sZ (aS s j)) (hdN (aS s j))).length) (b := 1) (by omega) (by omega)
    refine in_N (A := 0) rfl e1 (fun c => ⟨fun _ => ?_, fun z => absurd rfl z⟩) (fun c => ⟨fun z => absurd z (by decide), fun _ => ?_⟩)
    · rcases idx_cases q (m := (movesL (sZ (aS s j)) (hdN (aS s j))).length) (by omega) with ⟨hi2, hc⟩ | ⟨k, hk, rfl, hi2⟩
      · rw [hi2] at hK; exact hK σ' h1 (frV_K h2)
      · exfalso
        rw [rng, nI_toInt (by omega)] at c
        omega
    · rcases idx_cases q (m := (movesL (sZ (aS s j)) (hdN (aS s j))).length) (by omega) with ⟨hi2, hc⟩ | ⟨k, hk, rfl, hi2⟩
      · exfalso
        rw [rng] at c
        rcases hc with hc | ⟨hc, hc2⟩
        · rw [T_lt, lit_toInt0] at hc; omega
        · rw [T_le, nI_toInt (by omega)] at hc2; omega
      · rw [hi2] at hK
        refine ⟨vp_in_nI (by omega) (by decide), ?_⟩
        have := hK σ' h1 (frV_K h2)
        dsimp only at this
        rw [List.getD_eq_getElem?_getD, List.getElem?_eq_getElem hk] at this
        rw [ix_nI (by omega), h3.2 k hk]; exact this
end OP8
