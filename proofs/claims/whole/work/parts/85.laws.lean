/-! THE LAW'S LOOP: each call, on both sides -/
def Rel (σ : St) : Prop := ∃ s, wf s ∧ RC σ s ∧ RM σ s
section LAWS
variable {L : Nat} {xs : Nat → Int32} {K : Unit} {c18 : (Int32 × St) → Prop} {u3 : Int32} {σ : St}
theorem l_216 (v1 : vp_in (u3 + 1) L) (v2 : vp_in (u3 + 2) L) (v3 : vp_in (u3 + 3) L) (v4 : vp_in (u3 + 4) L) (hR : Rel σ) (hc : ∀ σ', Rel σ' → c18 (u3 + 5, σ')) : J_L_law_216 L xs K c18 u3 σ := by
  obtain ⟨s, hw, hC, hM⟩ := hR
  unfold J_L_law_216
  exact ⟨v1, c_append hC hw (fun σ1 r1 m1 => ⟨v1, m_append (RM_frM hM m1) hw (fun σ2 r2 k2 => ⟨fun _ v e => by rw [e]; exact hc σ2 ⟨_, wf_append hw, RC_frK r1 k2, r2⟩, fun n => absurd rfl n⟩)⟩)⟩
theorem l_239 (v1 : vp_in (u3 + 1) L) (v2 : vp_in (u3 + 2) L) (v3 : vp_in (u3 + 3) L) (v4 : vp_in (u3 + 4) L) (hR : Rel σ) (hc : ∀ σ', Rel σ' → c18 (u3 + 5, σ')) : J_L_law_239 L xs K c18 u3 σ := by
  obtain ⟨s, hw, hC, hM⟩ := hR
  unfold J_L_law_239
  exact c_clearText hC (fun σ1 r1 m1 => m_clearText (RM_frM hM m1) (fun σ2 r2 k2 => ⟨fun _ v e => by rw [e]; exact hc σ2 ⟨_, wf_clear hw, RC_frK r1 k2, r2⟩, fun n => absurd rfl n⟩))
theorem l_252 (v1 : vp_in (u3 + 1) L) (v2 : vp_in (u3 + 2) L) (v3 : vp_in (u3 + 3) L) (v4 : vp_in (u3 + 4) L) (hR : Rel σ) (hc : ∀ σ', Rel σ' → c18 (u3 + 5, σ')) : J_L_law_252 L xs K c18 u3 σ := by
  obtain ⟨s, hw, hC, hM⟩ := hR
  unfold J_L_law_252
  exact c_faultPosition hC hw (fun σ1 r1 m1 => m_faultPosition (RM_frM hM m1) hw (fun σ2 r2 k2 => ⟨fun _ v e => by rw [e]; exact hc σ2 ⟨_, hw, RC_frK r1 k2, r2⟩, fun n => absurd rfl n⟩))
theorem l_265 (v1 : vp_in (u3 + 1) L) (v2 : vp_in (u3 + 2) L) (v3 : vp_in (u3 + 3) L) (v4 : vp_in (u3 + 4) L) (hR : Rel σ) (hc : ∀ σ', Rel σ' → c18 (u3 + 5, σ')) : J_L_law_265 L xs K c18 u3 σ := by
  obtain ⟨s, hw, hC, hM⟩ := hR
  unfold J_L_law_265
  exact c_read hC hw (fun σ1 r1 m1 => m_read (RM_frM hM m1) hw (fun σ2 r2 k2 => ⟨fun _ v e => by rw [e]; exact hc σ2 ⟨_, wf_read hw, RC_frK r1 k2, r2⟩, fun n => absurd rfl n⟩))
theorem l_278 (v1 : vp_in (u3 + 1) L) (v2 : vp_in (u3 + 2) L) (v3 : vp_in (u3 + 3) L) (v4 : vp_in (u3 + 4) L) (hR : Rel σ) (hc : ∀ σ', Rel σ' → c18 (u3 + 5, σ')) : J_L_law_278 L xs K c18 u3 σ := by
  obtain ⟨s, hw, hC, hM⟩ := hR
  unfold J_L_law_278
  exact ⟨v1, c_remove hC (fun σ1 r1 m1 => ⟨v1, m_remove (RM_frM hM m1) hw (fun σ2 r2 k2 => ⟨fun _ v e => by rw [e]; exact hc σ2 ⟨_, wf_remove hw, RC_frK r1 k2, r2⟩, fun n => absurd rfl n⟩)⟩)⟩
theorem l_301 (v1 : vp_in (u3 + 1) L) (v2 : vp_in (u3 + 2) L) (v3 : vp_in (u3 + 3) L) (v4 : vp_in (u3 + 4) L) (hR : Rel σ) (hc : ∀ σ', Rel σ' → c18 (u3 + 5, σ')) : J_L_law_301 L xs K c18 u3 σ := by
  obtain ⟨s, hw, hC, hM⟩ := hR
  unfold J_L_law_301
  exact c_sentences hC (m_sentences hM ⟨fun _ v e => by rw [e]; exact hc σ ⟨s, hw, hC, hM⟩, fun n => absurd rfl n⟩)
theorem l_314 (v1 : vp_in (u3 + 1) L) (v2 : vp_in (u3 + 2) L) (v3 : vp_in (u3 + 3) L) (v4 : vp_in (u3 + 4) L) (hR : Rel σ) (hc : ∀ σ', Rel σ' → c18 (u3 + 5, σ')) : J_L_law_314 L xs K c18 u3 σ := by
  obtain ⟨s, hw, hC, hM⟩ := hR
  unfold J_L_law_314
  exact ⟨v1, c_words hC ⟨v1, m_words hM ⟨fun _ v e => by rw [e]; exact hc σ ⟨s, hw, hC, hM⟩, fun n => absurd rfl n⟩⟩⟩
theorem l_337 (v1 : vp_in (u3 + 1) L) (v2 : vp_in (u3 + 2) L) (v3 : vp_in (u3 + 3) L) (v4 : vp_in (u3 + 4) L) (hR : Rel σ) (hc : ∀ σ', Rel σ' → c18 (u3 + 5, σ')) : J_L_law_337 L xs K c18 u3 σ := by
  obtain ⟨s, hw, hC, hM⟩ := hR
  unfold J_L_law_337
  exact ⟨v1, v2, c_tag hC hw ⟨v1, v2, m_tag hM hw ⟨fun _ v e => by rw [e]; exact hc σ ⟨s, hw, hC, hM⟩, fun n => absurd rfl n⟩⟩⟩
theorem l_370 (v1 : vp_in (u3 + 1) L) (v2 : vp_in (u3 + 2) L) (v3 : vp_in (u3 + 3) L) (v4 : vp_in (u3 + 4) L) (hR : Rel σ) (hc : ∀ σ', Rel σ' → c18 (u3 + 5, σ')) : J_L_law_370 L xs K c18 u3 σ := by
  obtain ⟨s, hw, hC, hM⟩ := hR
  unfold J_L_law_370
  exact ⟨v1, v2, c_annotatedHead hC hw ⟨v1, v2, m_annotatedHead hM hw ⟨fun _ v e => by rw [e]; exact hc σ ⟨s, hw, hC, hM⟩, fun n => absurd rfl n⟩⟩⟩
theorem l_403 (v1 : vp_in (u3 + 1) L) (v2 : vp_in (u3 + 2) L) (v3 : vp_in (u3 + 3) L) (v4 : vp_in (u3 + 4) L) (hR : Rel σ) (hc : ∀ σ', Rel σ' → c18 (u3 + 5, σ')) : J_L_law_403 L xs K c18 u3 σ := by
  obtain ⟨s, hw, hC, hM⟩ := hR
  unfold J_L_law_403
  exact ⟨v1, v2, v3, c_annotate hC hw (fun σ1 r1 m1 => ⟨v1, v2, v3, m_annotate (RM_frM hM m1) hw (fun σ2 r2 k2 => ⟨fun _ v e => by rw [e]; exact hc σ2 ⟨_, wf_annot hw, RC_frK r1 k2, r2⟩, fun n => absurd rfl n⟩)⟩)⟩
theorem l_446 (v1 : vp_in (u3 + 1) L) (v2 : vp_in (u3 + 2) L) (v3 : vp_in (u3 + 3) L) (v4 : vp_in (u3 + 4) L) (hR : Rel σ) (hc : ∀ σ', Rel σ' → c18 (u3 + 5, σ')) : J_L_law_446 L xs K c18 u3 σ := by
  obtain ⟨s, hw, hC, hM⟩ := hR
  unfold J_L_law_446
  exact ⟨v1, c_acceptBest hC hw (fun σ1 r1 m1 => ⟨v1, m_acceptBest (RM_frM hM m1) hw (fun σ2 r2 k2 => ⟨fun _ v e => by rw [e]; exact hc σ2 ⟨_, wf_accept hw, RC_frK r1 k2, r2⟩, fun n => absurd rfl n⟩)⟩)⟩
theorem l_469 (v1 : vp_in (u3 + 1) L) (v2 : vp_in (u3 + 2) L) (v3 : vp_in (u3 + 3) L) (v4 : vp_in (u3 + 4) L) (hR : Rel σ) (hc : ∀ σ', Rel σ' → c18 (u3 + 5, σ')) : J_L_law_469 L xs K c18 u3 σ := by
  obtain ⟨s, hw, hC, hM⟩ := hR
  unfold J_L_law_469
  exact ⟨v1, v2, v3, c_setTagWeight hC (fun σ1 r1 m1 => ⟨v1, v2, v3, m_setTagWeight (RM_frM hM m1) (fun σ2 r2 k2 => ⟨fun _ v e => by rw [e]; exact hc σ2 ⟨_, wf_set hw, RC_frK r1 k2, r2⟩, fun n => absurd rfl n⟩)⟩)⟩
theorem l_512 (v1 : vp_in (u3 + 1) L) (v2 : vp_in (u3 + 2) L) (v3 : vp_in (u3 + 3) L) (v4 : vp_in (u3 + 4) L) (hR : Rel σ) (hc : ∀ σ', Rel σ' → c18 (u3 + 5, σ')) : J_L_law_512 L xs K c18 u3 σ := by
  obtain ⟨s, hw, hC, hM⟩ := hR
  unfold J_L_law_512
  exact ⟨v1, v2, v3, c_setDistanceWeight hC (fun σ1 r1 m1 => ⟨v1, v2, v3, m_setDistanceWeight (RM_frM hM m1) (fun σ2 r2 k2 => ⟨fun _ v e => by rw [e]; exact hc σ2 ⟨_, wf_set hw, RC_frK r1 k2, r2⟩, fun n => absurd rfl n⟩)⟩)⟩
theorem l_555 (v1 : vp_in (u3 + 1) L) (v2 : vp_in (u3 + 2) L) (v3 : vp_in (u3 + 3) L) (v4 : vp_in (u3 + 4) L) (hR : Rel σ) (hc : ∀ σ', Rel σ' → c18 (u3 + 5, σ')) : J_L_law_555 L xs K c18 u3 σ := by
  obtain ⟨s, hw, hC, hM⟩ := hR
  unfold J_L_law_555
  exact ⟨v1, v2, v3, v4, c_setBias hC hw (fun σ1 r1 m1 => ⟨v1, v2, v3, v4, m_setBias (RM_frM hM m1) hw (fun σ2 r2 k2 => ⟨fun _ v e => by rw [e]; exact hc σ2 ⟨_, wf_bias hw, RC_frK r1 k2, r2⟩, fun n => absurd rfl n⟩)⟩)⟩
theorem l_608 (v1 : vp_in (u3 + 1) L) (v2 : vp_in (u3 + 2) L) (v3 : vp_in (u3 + 3) L) (v4 : vp_in (u3 + 4) L) (hR : Rel σ) (hc : ∀ σ', Rel σ' → c18 (u3 + 5, σ')) : J_L_law_608 L xs K c18 u3 σ := by
  obtain ⟨s, hw, hC, hM⟩ := hR
  unfold J_L_law_608
  exact ⟨v1, v2, v3, v4, c_constrain hC hw (fun σ1 r1 m1 => ⟨v1, v2, v3, v4, m_constrain (RM_frM hM m1) hw (fun σ2 r2 k2 => ⟨fun _ v e => by rw [e]; exact hc σ2 ⟨_, wf_cons hw, RC_frK r1 k2, r2⟩, fun n => absurd rfl n⟩)⟩)⟩
theorem l_739 (v1 : vp_in (u3 + 1) L) (v2 : vp_in (u3 + 2) L) (v3 : vp_in (u3 + 3) L) (v4 : vp_in (u3 + 4) L) (hR : Rel σ) (hc : ∀ σ', Rel σ' → c18 (u3 + 5, σ')) : J_L_law_739 L xs K c18 u3 σ := by
  obtain ⟨s, hw, hC, hM⟩ := hR
  unfold J_L_law_739
  exact ⟨v1, c_setShift hC (fun σ1 r1 m1 => ⟨v1, m_setShift (RM_frM hM m1) (fun σ2 r2 k2 => ⟨fun _ v e => by rw [e]; exact hc σ2 ⟨_, wf_shift hw, RC_frK r1 k2, r2⟩, fun n => absurd rfl n⟩)⟩)⟩
theorem l_762 (v1 : vp_in (u3 + 1) L) (v2 : vp_in (u3 + 2) L) (v3 : vp_in (u3 + 3) L) (v4 : vp_in (u3 + 4) L) (hR : Rel σ) (hc : ∀ σ', Rel σ' → c18 (u3 + 5, σ')) : J_L_law_762 L xs K c18 u3 σ := by
  obtain ⟨s, hw, hC, hM⟩ := hR
  unfold J_L_law_762
  exact ⟨v1, v2, c_tagWeight hC ⟨v1, v2, m_tagWeight hM ⟨fun _ v e => by rw [e]; exact hc σ ⟨s, hw, hC, hM⟩, fun n => absurd rfl n⟩⟩⟩
theorem l_795 (v1 : vp_in (u3 + 1) L) (v2 : vp_in (u3 + 2) L) (v3 : vp_in (u3 + 3) L) (v4 : vp_in (u3 + 4) L) (hR : Rel σ) (hc : ∀ σ', Rel σ' → c18 (u3 + 5, σ')) : J_L_law_795 L xs K c18 u3 σ := by
  obtain ⟨s, hw, hC, hM⟩ := hR
  unfold J_L_law_795
  exact ⟨v1, v2, c_distanceWeight hC ⟨v1, v2, m_distanceWeight hM ⟨fun _ v e => by rw [e]; exact hc σ ⟨s, hw, hC, hM⟩, fun n => absurd rfl n⟩⟩⟩
theorem l_828 (v1 : vp_in (u3 + 1) L) (v2 : vp_in (u3 + 2) L) (v3 : vp_in (u3 + 3) L) (v4 : vp_in (u3 + 4) L) (hR : Rel σ) (hc : ∀ σ', Rel σ' → c18 (u3 + 5, σ')) : J_L_law_828 L xs K c18 u3 σ := by
  obtain ⟨s, hw, hC, hM⟩ := hR
  unfold J_L_law_828
  exact ⟨v1, v2, v3, c_score hC hw ⟨v1, v2, v3, m_score hM hw ⟨fun _ v e => by rw [e]; exact hc σ ⟨s, hw, hC, hM⟩, fun n => absurd rfl n⟩⟩⟩
theorem l_871 (v1 : vp_in (u3 + 1) L) (v2 : vp_in (u3 + 2) L) (v3 : vp_in (u3 + 3) L) (v4 : vp_in (u3 + 4) L) (hR : Rel σ) (hc : ∀ σ', Rel σ' → c18 (u3 + 5, σ')) : J_L_law_871 L xs K c18 u3 σ := by
  obtain ⟨s, hw, hC, hM⟩ := hR
  unfold J_L_law_871
  exact ⟨v1, c_bestScore hC hw (fun σ1 r1 m1 => ⟨v1, m_bestScore (RM_frM hM m1) hw (fun σ2 r2 k2 => ⟨fun _ v e => by rw [e]; exact hc σ2 ⟨_, hw, RC_frK r1 k2, r2⟩, fun n => absurd rfl n⟩)⟩)⟩
theorem l_894 (v1 : vp_in (u3 + 1) L) (v2 : vp_in (u3 + 2) L) (v3 : vp_in (u3 + 3) L) (v4 : vp_in (u3 + 4) L) (hR : Rel σ) (hc : ∀ σ', Rel σ' → c18 (u3 + 5, σ')) : J_L_law_894 L xs K c18 u3 σ := by
  obtain ⟨s, hw, hC, hM⟩ := hR
  unfold J_L_law_894
  exact ⟨v1, v2, c_bestHead hC hw (fun σ1 r1 m1 => ⟨v1, v2, m_bestHead (RM_frM hM m1) hw (fun σ2 r2 k2 => ⟨fun _ v e => by rw [e]; exact hc σ2 ⟨_, hw, RC_frK r1 k2, r2⟩, fun n => absurd rfl n⟩)⟩)⟩
theorem l_927 (v1 : vp_in (u3 + 1) L) (v2 : vp_in (u3 + 2) L) (v3 : vp_in (u3 + 3) L) (v4 : vp_in (u3 + 4) L) (hR : Rel σ) (hc : ∀ σ', Rel σ' → c18 (u3 + 5, σ')) : J_L_law_927 L xs K c18 u3 σ := by
  obtain ⟨s, hw, hC, hM⟩ := hR
  unfold J_L_law_927
  exact ⟨v1, v2, c_rankedScore hC hw (fun σ1 r1 m1 => ⟨v1, v2, m_rankedScore (RM_frM hM m1) hw (fun σ2 r2 k2 => ⟨fun _ v e => by rw [e]; exact hc σ2 ⟨_, hw, RC_frK r1 k2, r2⟩, fun n => absurd rfl n⟩)⟩)⟩
theorem l_960 (v1 : vp_in (u3 + 1) L) (v2 : vp_in (u3 + 2) L) (v3 : vp_in (u3 + 3) L) (v4 : vp_in (u3 + 4) L) (hR : Rel σ) (hc : ∀ σ', Rel σ' → c18 (u3 + 5, σ')) : J_L_law_960 L xs K c18 u3 σ := by
  obtain ⟨s, hw, hC, hM⟩ := hR
  unfold J_L_law_960
  exact ⟨v1, v2, v3, c_rankedHead hC hw (fun σ1 r1 m1 => ⟨v1, v2, v3, m_rankedHead (RM_frM hM m1) hw (fun σ2 r2 k2 => ⟨fun _ v e => by rw [e]; exact hc σ2 ⟨_, hw, RC_frK r1 k2, r2⟩, fun n => absurd rfl n⟩)⟩)⟩
theorem l_1003 (v1 : vp_in (u3 + 1) L) (v2 : vp_in (u3 + 2) L) (v3 : vp_in (u3 + 3) L) (v4 : vp_in (u3 + 4) L) (hR : Rel σ) (hc : ∀ σ', Rel σ' → c18 (u3 + 5, σ')) : J_L_law_1003 L xs K c18 u3 σ := by
  obtain ⟨s, hw, hC, hM⟩ := hR
  unfold J_L_law_1003
  exact ⟨v1, v2, v3, c_regret hC hw (fun σ1 r1 m1 => ⟨v1, v2, v3, m_regret (RM_frM hM m1) hw (fun σ2 r2 k2 => ⟨fun _ v e => by rw [e]; exact hc σ2 ⟨_, hw, RC_frK r1 k2, r2⟩, fun n => absurd rfl n⟩)⟩)⟩
theorem l_1046 (v1 : vp_in (u3 + 1) L) (v2 : vp_in (u3 + 2) L) (v3 : vp_in (u3 + 3) L) (v4 : vp_in (u3 + 4) L) (hR : Rel σ) (hc : ∀ σ', Rel σ' → c18 (u3 + 5, σ')) : J_L_law_1046 L xs K c18 u3 σ := by
  obtain ⟨s, hw, hC, hM⟩ := hR
  unfold J_L_law_1046
  exact ⟨v1, c_margin hC hw (fun σ1 r1 m1 => ⟨v1, m_margin (RM_frM hM m1) hw (fun σ2 r2 k2 => ⟨fun _ v e => by rw [e]; exact hc σ2 ⟨_, hw, RC_frK r1 k2, r2⟩, fun n => absurd rfl n⟩)⟩)⟩
theorem l_1069 (v1 : vp_in (u3 + 1) L) (v2 : vp_in (u3 + 2) L) (v3 : vp_in (u3 + 3) L) (v4 : vp_in (u3 + 4) L) (hR : Rel σ) (hc : ∀ σ', Rel σ' → c18 (u3 + 5, σ')) : J_L_law_1069 L xs K c18 u3 σ := by
  obtain ⟨s, hw, hC, hM⟩ := hR
  unfold J_L_law_1069
  exact ⟨v1, c_correct hC hw (fun σ1 r1 m1 => ⟨v1, m_correct (RM_frM hM m1) hw (fun σ2 r2 k2 => ⟨fun _ v e => by rw [e]; exact hc σ2 ⟨_, hw, RC_frK r1 k2, r2⟩, fun n => absurd rfl n⟩)⟩)⟩
theorem l_1092 (v1 : vp_in (u3 + 1) L) (v2 : vp_in (u3 + 2) L) (v3 : vp_in (u3 + 3) L) (v4 : vp_in (u3 + 4) L) (hR : Rel σ) (hc : ∀ σ', Rel σ' → c18 (u3 + 5, σ')) : J_L_law_1092 L xs K c18 u3 σ := by
  obtain ⟨s, hw, hC, hM⟩ := hR
  unfold J_L_law_1092
  exact ⟨v1, c_treeCount hC hw (fun σ1 r1 m1 => ⟨v1, m_treeCount (RM_frM hM m1) hw (fun σ2 r2 k2 => ⟨fun _ v e => by rw [e]; exact hc σ2 ⟨_, hw, RC_frK r1 k2, r2⟩, fun n => absurd rfl n⟩)⟩)⟩
theorem l_1115 (v1 : vp_in (u3 + 1) L) (v2 : vp_in (u3 + 2) L) (v3 : vp_in (u3 + 3) L) (v4 : vp_in (u3 + 4) L) (hR : Rel σ) (hc : ∀ σ', Rel σ' → c18 (u3 + 5, σ')) : J_L_law_1115 L xs K c18 u3 σ := by
  obtain ⟨s, hw, hC, hM⟩ := hR
  unfold J_L_law_1115
  exact ⟨v1, c_weightSum hC hw (fun σ1 r1 m1 => ⟨v1, m_weightSum (RM_frM hM m1) hw (fun σ2 r2 k2 => ⟨fun _ v e => by rw [e]; exact hc σ2 ⟨_, hw, RC_frK r1 k2, r2⟩, fun n => absurd rfl n⟩)⟩)⟩
theorem l_1209 (v1 : vp_in (u3 + 1) L) (v2 : vp_in (u3 + 2) L) (v3 : vp_in (u3 + 3) L) (v4 : vp_in (u3 + 4) L) (hR : Rel σ) (hc : ∀ σ', Rel σ' → c18 (u3 + 5, σ')) : J_L_law_1209 L xs K c18 u3 σ := by
  obtain ⟨s, hw, hC, hM⟩ := hR
  unfold J_L_law_1209
  exact ⟨v1, v2, c_riskHead hC hw (fun σ1 r1 m1 => ⟨v1, v2, m_riskHead (RM_frM hM m1) hw (fun σ2 r2 k2 => ⟨fun _ v e => by rw [e]; exact hc σ2 ⟨_, hw, RC_frK r1 k2, r2⟩, fun n => absurd rfl n⟩)⟩)⟩
theorem l_1242 (v1 : vp_in (u3 + 1) L) (v2 : vp_in (u3 + 2) L) (v3 : vp_in (u3 + 3) L) (v4 : vp_in (u3 + 4) L) (hR : Rel σ) (hc : ∀ σ', Rel σ' → c18 (u3 + 5, σ')) : J_L_law_1242 L xs K c18 u3 σ := by
  obtain ⟨s, hw, hC, hM⟩ := hR
  unfold J_L_law_1242
  exact ⟨v1, c_crossings hC hw ⟨v1, m_crossings hM hw ⟨fun _ v e => by rw [e]; exact hc σ ⟨s, hw, hC, hM⟩, fun n => absurd rfl n⟩⟩⟩
theorem l_1265 (v1 : vp_in (u3 + 1) L) (v2 : vp_in (u3 + 2) L) (v3 : vp_in (u3 + 3) L) (v4 : vp_in (u3 + 4) L) (hR : Rel σ) (hc : ∀ σ', Rel σ' → c18 (u3 + 5, σ')) : J_L_law_1265 L xs K c18 u3 σ := by
  obtain ⟨s, hw, hC, hM⟩ := hR
  unfold J_L_law_1265
  exact ⟨v1, v2, c_depth hC hw ⟨v1, v2, m_depth hM hw ⟨fun _ v e => by rw [e]; exact hc σ ⟨s, hw, hC, hM⟩, fun n => absurd rfl n⟩⟩⟩
theorem l_1298 (v1 : vp_in (u3 + 1) L) (v2 : vp_in (u3 + 2) L) (v3 : vp_in (u3 + 3) L) (v4 : vp_in (u3 + 4) L) (hR : Rel σ) (hc : ∀ σ', Rel σ' → c18 (u3 + 5, σ')) : J_L_law_1298 L xs K c18 u3 σ := by
  obtain ⟨s, hw, hC, hM⟩ := hR
  unfold J_L_law_1298
  exact ⟨v1, v2, c_projectiveOrder hC hw (fun σ1 r1 m1 => ⟨v1, v2, m_projectiveOrder (RM_frM hM m1) hw (fun σ2 r2 k2 => ⟨fun _ v e => by rw [e]; exact hc σ2 ⟨_, hw, RC_frK r1 k2, r2⟩, fun n => absurd rfl n⟩)⟩)⟩
theorem l_1331 (v1 : vp_in (u3 + 1) L) (v2 : vp_in (u3 + 2) L) (v3 : vp_in (u3 + 3) L) (v4 : vp_in (u3 + 4) L) (hR : Rel σ) (hc : ∀ σ', Rel σ' → c18 (u3 + 5, σ')) : J_L_law_1331 L xs K c18 u3 σ := by
  obtain ⟨s, hw, hC, hM⟩ := hR
  unfold J_L_law_1331
  exact ⟨v1, c_transitions hC hw (fun σ1 r1 m1 => ⟨v1, m_transitions (RM_frM hM m1) hw (fun σ2 r2 k2 => ⟨fun _ v e => by rw [e]; exact hc σ2 ⟨_, hw, RC_frK r1 k2, r2⟩, fun n => absurd rfl n⟩)⟩)⟩
theorem l_1354 (v1 : vp_in (u3 + 1) L) (v2 : vp_in (u3 + 2) L) (v3 : vp_in (u3 + 3) L) (v4 : vp_in (u3 + 4) L) (hR : Rel σ) (hc : ∀ σ', Rel σ' → c18 (u3 + 5, σ')) : J_L_law_1354 L xs K c18 u3 σ := by
  obtain ⟨s, hw, hC, hM⟩ := hR
  unfold J_L_law_1354
  exact ⟨v1, v2, c_transition hC hw (fun σ1 r1 m1 => ⟨v1, v2, m_transition (RM_frM hM m1) hw (fun σ2 r2 k2 => ⟨fun _ v e => by rw [e]; exact hc σ2 ⟨_, hw, RC_frK r1 k2, r2⟩, fun n => absurd rfl n⟩)⟩)⟩
theorem l_1387 (v1 : vp_in (u3 + 1) L) (v2 : vp_in (u3 + 2) L) (v3 : vp_in (u3 + 3) L) (v4 : vp_in (u3 + 4) L) (hR : Rel σ) (hc : ∀ σ', Rel σ' → c18 (u3 + 5, σ')) : J_L_law_1387 L xs K c18 u3 σ := by
  obtain ⟨s, hw, hC, hM⟩ := hR
  unfold J_L_law_1387
  exact ⟨v1, c_train hC hw (fun σ1 r1 m1 => ⟨v1, m_train (RM_frM hM m1) hw (fun σ2 r2 k2 => ⟨fun _ v e => by rw [e]; exact hc σ2 ⟨_, wf_train hw, RC_frK r1 k2, r2⟩, fun n => absurd rfl n⟩)⟩)⟩
theorem l_1410 (v1 : vp_in (u3 + 1) L) (v2 : vp_in (u3 + 2) L) (v3 : vp_in (u3 + 3) L) (v4 : vp_in (u3 + 4) L) (hR : Rel σ) (hc : ∀ σ', Rel σ' → c18 (u3 + 5, σ')) : J_L_law_1410 L xs K c18 u3 σ := by
  obtain ⟨s, hw, hC, hM⟩ := hR
  unfold J_L_law_1410
  exact ⟨v1, c_trainAll hC hw (fun σ1 r1 m1 => ⟨v1, m_trainAll (RM_frM hM m1) hw (fun σ2 r2 k2 => ⟨fun _ v e => by rw [e]; exact hc σ2 ⟨_, wf_trainAll hw, RC_frK r1 k2, r2⟩, fun n => absurd rfl n⟩)⟩)⟩
theorem l_1433 (v1 : vp_in (u3 + 1) L) (v2 : vp_in (u3 + 2) L) (v3 : vp_in (u3 + 3) L) (v4 : vp_in (u3 + 4) L) (hR : Rel σ) (hc : ∀ σ', Rel σ' → c18 (u3 + 5, σ')) : J_L_law_1433 L xs K c18 u3 σ := by
  obtain ⟨s, hw, hC, hM⟩ := hR
  unfold J_L_law_1433
  exact ⟨v1, c_save hC (fun σ1 r1 m1 => ⟨v1, m_save (RM_frM hM m1) (fun σ2 r2 k2 => ⟨fun _ v e => by rw [e]; exact hc σ2 ⟨_, wf_save hw, RC_frK r1 k2, r2⟩, fun n => absurd rfl n⟩)⟩)⟩
theorem l_1456 (v1 : vp_in (u3 + 1) L) (v2 : vp_in (u3 + 2) L) (v3 : vp_in (u3 + 3) L) (v4 : vp_in (u3 + 4) L) (hR : Rel σ) (hc : ∀ σ', Rel σ' → c18 (u3 + 5, σ')) : J_L_law_1456 L xs K c18 u3 σ := by
  obtain ⟨s, hw, hC, hM⟩ := hR
  unfold J_L_law_1456
  exact ⟨v1, c_restore hC (fun σ1 r1 m1 => ⟨v1, m_restore (RM_frM hM m1) (fun σ2 r2 k2 => ⟨fun _ v e => by rw [e]; exact hc σ2 ⟨_, wf_restore hw, RC_frK r1 k2, r2⟩, fun n => absurd rfl n⟩)⟩)⟩
theorem l_1479 (v1 : vp_in (u3 + 1) L) (v2 : vp_in (u3 + 2) L) (v3 : vp_in (u3 + 3) L) (v4 : vp_in (u3 + 4) L) (hR : Rel σ) (hc : ∀ σ', Rel σ' → c18 (u3 + 5, σ')) : J_L_law_1479 L xs K c18 u3 σ := by
  obtain ⟨s, hw, hC, hM⟩ := hR
  unfold J_L_law_1479
  exact c_checksum hC hw (fun σ1 r1 m1 => m_checksum (RM_frM hM m1) hw (fun σ2 r2 k2 => ⟨fun _ v e => by rw [e]; exact hc σ2 ⟨_, hw, RC_frK r1 k2, r2⟩, fun n => absurd rfl n⟩))
theorem l_661 (v1 : vp_in (u3 + 1) L) (v2 : vp_in (u3 + 2) L) (v3 : vp_in (u3 + 3) L) (v4 : vp_in (u3 + 4) L) (hR : Rel σ) (hc : ∀ σ', Rel σ' → c18 (u3 + 5, σ')) : J_L_law_661 L xs K c18 u3 σ := by
  obtain ⟨s, hw, hC, hM⟩ := hR
  have go : ∀ t : Int32, isB t → (xs (ix (u3 + 1)) = 0 → t = 0) → (¬ xs (ix (u3 + 1)) = 0 → t = 1) → J_L_law_675 L xs K c18 u3 t σ := by
    intro t ht t0 t1
    unfold J_L_law_675
    refine c_setSingleRoot hC ht (fun σ1 r1 m1 => ⟨v1, fun z => ?_, fun z => ?_⟩)
    · have e := t0 z
      subst e
      unfold J_L_law_692
      exact m_setSingleRoot (RM_frM hM m1) ht (fun σ2 r2 k2 => ⟨fun _ v e => by rw [e]; exact hc σ2 ⟨_, wf_G1 hw ht, RC_frK r1 k2, r2⟩, fun n => absurd rfl n⟩)
    · have e := t1 z
      subst e
      unfold J_L_law_692
      exact m_setSingleRoot (RM_frM hM m1) ht (fun σ2 r2 k2 => ⟨fun _ v e => by rw [e]; exact hc σ2 ⟨_, wf_G1 hw ht, RC_frK r1 k2, r2⟩, fun n => absurd rfl n⟩)
  unfold J_L_law_661
  exact ⟨v1, fun z => go 0 (Or.inl rfl) (fun _ => rfl) (fun y => absurd z y), fun z => go 1 (Or.inr rfl) (fun y => absurd y z) (fun _ => rfl)⟩
theorem l_700 (v1 : vp_in (u3 + 1) L) (v2 : vp_in (u3 + 2) L) (v3 : vp_in (u3 + 3) L) (v4 : vp_in (u3 + 4) L) (hR : Rel σ) (hc : ∀ σ', Rel σ' → c18 (u3 + 5, σ')) : J_L_law_700 L xs K c18 u3 σ := by
  obtain ⟨s, hw, hC, hM⟩ := hR
  have go : ∀ t : Int32, isB t → (xs (ix (u3 + 1)) = 0 → t = 0) → (¬ xs (ix (u3 + 1)) = 0 → t = 1) → J_L_law_714 L xs K c18 u3 t σ := by
    intro t ht t0 t1
    unfold J_L_law_714
    refine c_setProjective hC ht (fun σ1 r1 m1 => ⟨v1, fun z => ?_, fun z => ?_⟩)
    · have e := t0 z
      subst e
      unfold J_L_law_731
      exact m_setProjective (RM_frM hM m1) ht (fun σ2 r2 k2 => ⟨fun _ v e => by rw [e]; exact hc σ2 ⟨_, wf_G2 hw ht, RC_frK r1 k2, r2⟩, fun n => absurd rfl n⟩)
    · have e := t1 z
      subst e
      unfold J_L_law_731
      exact m_setProjective (RM_frM hM m1) ht (fun σ2 r2 k2 => ⟨fun _ v e => by rw [e]; exact hc σ2 ⟨_, wf_G2 hw ht, RC_frK r1 k2, r2⟩, fun n => absurd rfl n⟩)
  unfold J_L_law_700
  exact ⟨v1, fun z => go 0 (Or.inl rfl) (fun _ => rfl) (fun y => absurd z y), fun z => go 1 (Or.inr rfl) (fun y => absurd y z) (fun _ => rfl)⟩
theorem l_1139 (v1 : vp_in (u3 + 1) L) (v2 : vp_in (u3 + 2) L) (v3 : vp_in (u3 + 3) L) (v4 : vp_in (u3 + 4) L) (hR : Rel σ) (hc : ∀ σ', Rel σ' → c18 (u3 + 5, σ')) : J_L_law_1139 L xs K c18 u3 σ := by
  obtain ⟨s, hw, hC, hM⟩ := hR
  have go : ∀ t : Int32, (xs (ix (u3 + 4)) = 0 → t = 0) → (¬ xs (ix (u3 + 4)) = 0 → t = 1) → J_L_law_1168 L xs K c18 u3 (xs (ix (u3 + 1))) (xs (ix (u3 + 2))) (xs (ix (u3 + 3))) t σ := by
    intro t t0 t1
    unfold J_L_law_1168
    refine c_chance hC hw (fun σ1 r1 m1 => ⟨v1, v2, v3, v4, fun z => ?_, fun z => ?_⟩)
    · have e := t0 z
      subst e
      unfold J_L_law_1200
      exact m_chance (RM_frM hM m1) hw (fun σ2 r2 k2 => ⟨fun _ v e => by rw [e]; exact hc σ2 ⟨_, hw, RC_frK r1 k2, r2⟩, fun n => absurd rfl n⟩)
    · have e := t1 z
      subst e
      unfold J_L_law_1200
      exact m_chance (RM_frM hM m1) hw (fun σ2 r2 k2 => ⟨fun _ v e => by rw [e]; exact hc σ2 ⟨_, hw, RC_frK r1 k2, r2⟩, fun n => absurd rfl n⟩)
  unfold J_L_law_1139
  exact ⟨v1, v2, v3, v4, fun z => go 0 (fun _ => rfl) (fun y => absurd z y), fun z => go 1 (fun y => absurd y z) (fun _ => rfl)⟩
end LAWS
theorem law_pure {L : Nat} {xs : Nat → Int32} {K : Unit} {σ : St} (hL : L < 2 ^ 30) (hR : Rel σ) : P_L_law L xs σ K := by
  unfold P_L_law
  refine LpE_for (S := Int32 × St) (fun k t => (nI (5 * k), t)) (fun k σ' => 5 * k ≤ L + 5 ∧ Rel σ') (L + 1) ?_ 0 σ (by omega) ⟨by omega, hR⟩
  intro k σ' c hk ⟨hk5, hR'⟩ hc
  dsimp only
  unfold F_L_law_18
  have e5 : (nI L - 5).toInt = (L : Int) - 5 := by
    rw [Int32.toInt_sub, nI_toInt (by omega), show (5 : Int32).toInt = 5 from by decide]
    exact Int.bmod_eq_of_le (by omega) (by omega)
  refine ⟨fun _ => trivial, fun z => ?_⟩
  have h5 : 5 * k + 5 ≤ L := by
    rw [T_lt, e5, nI_toInt (by omega)] at z
    omega
  have ea : ∀ d, nI (5 * k) + nI d = nI (5 * k + d) := fun d => nI_add _ _
  have vp : ∀ d, d < 5 → vp_in (nI (5 * k) + nI d) L := fun d hd => by rw [ea]; exact vp_in_nI (by omega) (by omega)
  have v1 : vp_in (nI (5 * k) + 1) L := vp 1 (by omega)
  have v2 : vp_in (nI (5 * k) + 2) L := vp 2 (by omega)
  have v3 : vp_in (nI (5 * k) + 3) L := vp 3 (by omega)
  have v4 : vp_in (nI (5 * k) + 4) L := vp 4 (by omega)
  have hgo : ∀ σ'', Rel σ'' → c (nI (5 * k) + 5, σ'') := fun σ'' h => by
    have := hc σ'' (by omega) ⟨by omega, h⟩
    rw [show nI (5 * k) + 5 = nI (5 * (k + 1)) from (ea 5).trans (by rw [show 5 * k + 5 = 5 * (k + 1) by omega])]
    exact this
  refine ⟨vp_in_nI (by omega) (by omega), fun w _ => ⟨fun _ => l_216 v1 v2 v3 v4 hR' hgo, fun _ => l_239 v1 v2 v3 v4 hR' hgo, fun _ => l_252 v1 v2 v3 v4 hR' hgo, fun _ => l_265 v1 v2 v3 v4 hR' hgo, fun _ => l_278 v1 v2 v3 v4 hR' hgo, fun _ => l_301 v1 v2 v3 v4 hR' hgo, fun _ => l_314 v1 v2 v3 v4 hR' hgo, fun _ => l_337 v1 v2 v3 v4 hR' hgo, fun _ => l_370 v1 v2 v3 v4 hR' hgo, fun _ => l_403 v1 v2 v3 v4 hR' hgo, fun _ => l_446 v1 v2 v3 v4 hR' hgo, fun _ => l_469 v1 v2 v3 v4 hR' hgo, fun _ => l_512 v1 v2 v3 v4 hR' hgo, fun _ => l_555 v1 v2 v3 v4 hR' hgo, fun _ => l_608 v1 v2 v3 v4 hR' hgo, fun _ => l_661 v1 v2 v3 v4 hR' hgo, fun _ => l_700 v1 v2 v3 v4 hR' hgo, fun _ => l_739 v1 v2 v3 v4 hR' hgo, fun _ => l_762 v1 v2 v3 v4 hR' hgo, fun _ => l_795 v1 v2 v3 v4 hR' hgo, fun _ => l_828 v1 v2 v3 v4 hR' hgo, fun _ => l_871 v1 v2 v3 v4 hR' hgo, fun _ => l_894 v1 v2 v3 v4 hR' hgo, fun _ => l_927 v1 v2 v3 v4 hR' hgo, fun _ => l_960 v1 v2 v3 v4 hR' hgo, fun _ => l_1003 v1 v2 v3 v4 hR' hgo, fun _ => l_1046 v1 v2 v3 v4 hR' hgo, fun _ => l_1069 v1 v2 v3 v4 hR' hgo, fun _ => l_1092 v1 v2 v3 v4 hR' hgo, fun _ => l_1115 v1 v2 v3 v4 hR' hgo, fun _ => l_1139 v1 v2 v3 v4 hR' hgo, fun _ => l_1209 v1 v2 v3 v4 hR' hgo, fun _ => l_1242 v1 v2 v3 v4 hR' hgo, fun _ => l_1265 v1 v2 v3 v4 hR' hgo, fun _ => l_1298 v1 v2 v3 v4 hR' hgo, fun _ => l_1331 v1 v2 v3 v4 hR' hgo, fun _ => l_1354 v1 v2 v3 v4 hR' hgo, fun _ => l_1387 v1 v2 v3 v4 hR' hgo, fun _ => l_1410 v1 v2 v3 v4 hR' hgo, fun _ => l_1433 v1 v2 v3 v4 hR' hgo, fun _ => l_1456 v1 v2 v3 v4 hR' hgo, fun _ => l_1479 v1 v2 v3 v4 hR' hgo, fun _ v e => by rw [e]; exact hgo σ' hR'⟩⟩
