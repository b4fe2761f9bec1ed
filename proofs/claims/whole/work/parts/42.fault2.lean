/-! the reference's faultOf -/
def SGL (s : AS) : List (Nat × Nat) := sg (aN s) (tx s) (aN s + 1) 0 0
def frF (σ σ' : St) : Prop := (∀ k, k ≠ 204 → k ≠ 214 → k ≠ 215 → k ≠ 216 → σ'.1 k = σ.1 k) ∧ (∀ j, j ≠ 14 → σ'.1 204 j = σ.1 204 j) ∧ σ'.2 = σ.2
theorem frF_K {σ σ' : St} (h : frF σ σ') : frK σ σ' := ⟨fun k hk => ⟨h.1 k (by omega) (by omega) (by omega) (by omega), by rw [h.2.2]⟩, by rw [h.2.2]⟩
theorem frF_RM {σ σ' : St} {s : AS} (hr : RM σ s) (h : frF σ σ') : RM σ' s := RM_fr hr (fun k k1 k2 => h.1 k (by omega) (by omega) (by omega) (by omega)) (fun j hj => h.2.1 j (by omega))
def toldOk (σ' : St) (L : List (Nat × Nat)) : Prop := σ'.1 204 14 = nI L.length ∧ ∀ k, (hk : k < L.length) → σ'.1 214 k = nI (L[k]).2 ∧ σ'.1 215 k = nI (L[k]).1
section FLT2
variable {σ : St} {s : AS} {K : Int32 → St → Prop}
theorem m_faultOf (h : RM σ s) (hw : wf s) (hK : ∀ σ', frF σ σ' → (fltR s = none → toldOk σ' (SGL s)) → K (an_fault s) σ') : P_X8_faultOf σ K := by
  unfold P_X8_faultOf
  intro s1 es1
  have hN := hw.1.1
  have hF1 : frF σ s1 := by
    rw [es1]
    exact ⟨fun k k1 _ _ _ => wI_ne k1, fun j hj => wI_ni hj, rfl⟩
  rw [show s1.1 204 1 = nI (aN s) by rw [hF1.2.1 1 (by decide)]; exact h.1.1, show (0 : Int32) = nI 0 from rfl, nI_eq (by omega) (by omega)]
  refine ⟨fun q => ?_, fun hN0 => ?_⟩
  · have hR : fltR s = some 0 := by
      unfold fltR
      rw [ff, if_pos (by omega), if_pos (Or.inl q), q]
    have := hK s1 hF1 (fun z => by rw [hR] at z; cases z)
    rw [an_fault, hR] at this; exact this
  · refine LpE_inv (fun s' => frF σ s'.2 ∧ ∃ f i L, aN s < i + f ∧ i ≤ aN s ∧ fltR s = ff (aN s) (tx s) f i 0 (fun _ => 0) ∧ SGL s = L ++ sg (aN s) (tx s) f i 0 ∧ toldOk s'.2 L ∧ 3 * L.length ≤ i ∧ s'.1 = nI i) (fun s' => 200 - ix s'.1) ?_ _ ⟨hF1, aN s + 1, 0, [], by omega, by omega, rfl, rfl, ⟨by show s1.1 204 14 = nI 0; rw [es1]; exact wI_self, fun k hk => absurd hk (Nat.not_lt_zero _)⟩, by simp, rfl⟩
    intro s' c hI hc
    obtain ⟨x1, σ'⟩ := s'
    obtain ⟨e1, f, i, L, hf, hi, hR, hS, hT, h3, e2⟩ := hI
    dsimp only at e1 e2 hT
    subst e2
    dsimp only
    unfold F_X8_faultOf_16
    rw [show σ'.1 204 1 = nI (aN s) by rw [e1.2.1 1 (by decide)]; exact h.1.1, nI_leI (by omega) (by omega)]
    obtain ⟨f, rfl⟩ : ∃ g, f = g + 1 := ⟨f - 1, by omega⟩
    refine ⟨fun q => ?_, fun q => ?_⟩
    · rw [ff, if_pos q, if_neg (by omega)] at hR
      rw [sg, if_pos q, List.append_nil] at hS
      have := hK σ' e1 (fun _ => by rw [hS]; exact hT)
      rw [an_fault, hR] at this; exact this
    · rw [hT.1]
      refine ⟨vp_in_nI (by omega) (by decide), fun s3 es3 => ?_⟩
      rw [ix_nI (by omega)] at es3
      have hF3 : frF σ s3 := by
        rw [es3]
        exact ⟨fun k k1 k2 k3 k4 => by rw [wI_ne k3]; exact e1.1 k k1 k2 k3 k4, fun j hj => by rw [wI_ne (by decide)]; exact e1.2.1 j hj, by rw [wI_2]; exact e1.2.2⟩
      refine LpE_inv (fun s' => frF σ s'.2.2 ∧ ∃ f' i' n row, aN s < i' + f' ∧ i' ≤ aN s ∧ i' = i + 2 * n ∧ n ≤ 6 ∧ fltR s = ff (aN s) (tx s) f' i' n row ∧ SGL s = L ++ sg (aN s) (tx s) f' i' n ∧ toldOk s'.2.2 L ∧ s'.2.2.1 215 L.length = nI i ∧ (∀ v, 1 ≤ v → v ≤ n → s'.2.2.1 216 v = nI (row v) ∧ row v < 100) ∧ s'.1 = nI i' ∧ s'.2.1 = nI n) (fun s' => 200 - ix s'.1) ?_ _ ⟨hF3, f + 1, i, 0, fun _ => 0, hf, hi, by omega, by omega, hR, hS, ⟨by show s3.1 204 14 = _; rw [es3, wI_ne (by decide)]; exact hT.1, fun k hk => ?_⟩, by show s3.1 215 L.length = _; rw [es3]; exact wI_self, fun v v1 v2 => by omega, rfl, rfl⟩
      · intro s' c2 hI2 hc2
        obtain ⟨x1, x2, σ2⟩ := s'
        obtain ⟨g1, f', i', n, row, hf', hi', hin, hn, hR2, hS2, hT2, hB, hr, rfl, rfl⟩ := hI2
        dsimp only at g1 hT2 hB hr
        dsimp only
        have hlen : σ2.1 204 1 = nI (aN s) := by rw [g1.2.1 1 (by decide)]; exact h.1.1
        have htx : ∀ j, j < aN s → σ2.1 205 j = nI (tx s j) := fun j hj => by
          rw [g1.1 205 (by decide) (by decide) (by decide) (by decide), h.1.2 j hj]; exact (tx_eq hw hj).1
        obtain ⟨f', rfl⟩ : ∃ g, f' = g + 1 := ⟨f' - 1, by omega⟩
        have hJ : i' = aN s ∨ (i' < aN s ∧ (¬ (65 ≤ tx s i' ∧ tx s i' ≤ 72) ∨ 6 ≤ n)) → i < aN s → J_X8_faultOf_132 K c (nI i') (nI n) σ2 := by
          intro hx hi1
          unfold J_X8_faultOf_132
          rw [hlen, nI_eq (by omega) (by omega), show (0 : Int32) = nI 0 from rfl, nI_eq (by omega) (by omega)]
          refine ⟨fun q2 => ?_, fun q2 => ?_⟩
          · rw [ff, if_pos (by omega), if_pos (Or.inr (by omega))] at hR2
            have := hK σ2 g1 (fun z => by rw [hR2] at z; cases z)
            rw [an_fault, hR2, ← q2] at this; exact this
          · have hi1 : i' < aN s := by omega
            have hx2 : ¬ (65 ≤ tx s i' ∧ tx s i' ≤ 72) ∨ 6 ≤ n := by rcases hx with hx | hx; omega; exact hx.2
            rw [ff, if_neg (by omega)] at hR2
            rw [sg, if_neg (by omega)] at hS2
            have h128 := (tx_eq hw hi1).2
            refine ⟨fun q3 => ?_, fun q3 => ⟨vp_in_nI (by omega) (by decide), ?_⟩⟩
            · have : fltR s = some i' := by
                rw [hR2]
                by_cases q4 : tx s i' = 59
                · rw [if_pos q4, if_pos (Or.inl q3)]
                · rw [if_neg q4, if_pos hx2]
              have h2 := hK σ2 g1 (fun z => by rw [this] at z; cases z)
              rw [an_fault, this] at h2; exact h2
            · rw [ix_nI (by omega), htx i' hi1, show (59 : Int32) = nI 59 from rfl, nI_eq (by omega) (by omega)]
              refine ⟨fun q4 => ?_, fun q4 => ?_⟩
              · rw [if_pos q4] at hR2 hS2
                refine isTree_M (f := 0) (t := row) (by omega) (by omega) (show 0 + n < 7 by omega) (by decide) (fun v v1 v2 => by rw [Nat.zero_add]; exact hr v v1 v2) (fun ht => ⟨fun z => absurd z (by decide), fun _ => ?_⟩) (fun ht => ⟨fun _ => ?_, fun z => absurd rfl z⟩)
                · rw [if_neg (fun z => z.elim q3 (fun z => by rw [ht] at z; cases z))] at hR2
                  rw [hT2.1]
                  refine ⟨vp_in_nI (by omega) (by decide), fun s8 es8 s9 es9 v10 ev10 => ?_⟩
                  rw [ix_nI (by omega)] at es8
                  have h814 : s8.1 204 14 = nI L.length := by rw [es8, wI_ne (by decide)]; exact hT2.1
                  rw [h814, nI_1] at es9
                  rw [nI_1] at ev10
                  subst ev10
                  refine hc _ ⟨⟨fun k k1 k2 k3 k4 => ?_, fun j hj => ?_, ?_⟩, f', i' + 1, L ++ [(i' - 2 * n, n)], by omega, by omega, hR2, by rw [hS2, List.append_assoc]; rfl, ⟨?_, fun k hk => ?_⟩, ?_, rfl⟩ ?_
                  · show s9.1 k = _
                    rw [es9, wI_ne k1, es8, wI_ne k2]; exact g1.1 k k1 k2 k3 k4
                  · show s9.1 204 j = _
                    rw [es9, wI_ni hj, es8, wI_ne (by decide)]; exact g1.2.1 j hj
                  · show s9.2 = _
                    rw [es9, wI_2, es8, wI_2]; exact g1.2.2
                  · show s9.1 204 14 = _
                    rw [es9, List.length_append]; exact wI_self
                  · show s9.1 214 k = _ ∧ s9.1 215 k = _
                    rw [es9, wI_ne (by decide), wI_ne (by decide), es8]
                    rw [wI_ne (show (215 : Nat) ≠ 214 by decide)]
                    rw [List.length_append] at hk
                    have hk' : k < L.length + 1 := hk
                    by_cases e : k = L.length
                    · subst e
                      rw [List.getElem_append_right (Nat.le_refl _)]
                      simp only [Nat.sub_self, List.getElem_cons_zero]
                      refine ⟨wI_self, ?_⟩
                      rw [hB]; congr 1; omega
                    · have hk2 : k < L.length := by omega
                      rw [wI_ni e, List.getElem_append_left hk2]
                      exact hT2.2 k hk2
                  · rw [List.length_append]
                    show 3 * (L.length + 1) ≤ i' + 1
                    omega
                  · show 200 - ix (nI (i' + 1)) < 200 - ix (nI i)
                    rw [ix_nI (by omega), ix_nI (by omega)]; omega
                · rw [if_pos (Or.inr ht)] at hR2
                  have := hK σ2 g1 (fun z => by rw [hR2] at z; cases z)
                  rw [an_fault, hR2] at this; exact this
              · rw [if_neg q4, if_pos hx2] at hR2
                have := hK σ2 g1 (fun z => by rw [hR2] at z; cases z)
                rw [an_fault, hR2] at this; exact this
        unfold F_X8_faultOf_36
        rw [hlen, show (6 : Int32) = nI 6 from rfl, nI_leI (by omega) (by omega), nI_leI (by omega) (by omega)]
        refine ⟨fun q2 => hJ (by omega) (by omega), fun q2 => ⟨fun q3 => hJ (by omega) (by omega), fun q3 => ⟨vp_in_nI (by omega) (by decide), ?_⟩⟩⟩
        have hi1 : i' < aN s := by omega
        have h128 := (tx_eq hw hi1).2
        rw [ix_nI (by omega), htx i' hi1]
        refine in_N (A := 65) (B := 72) rfl rfl (fun ht => ⟨fun _ => hJ (Or.inr ⟨hi1, Or.inl (fun z => ht ?_)⟩) (by omega), fun z => absurd rfl z⟩) (fun ht => ⟨fun z => absurd z (by decide), fun _ v14 ev14 v15 ev15 => ?_⟩)
        · rw [rng, nI_toInt (by omega)]; omega
        · rw [rng, nI_toInt (by omega)] at ht
          rw [nI_1] at ev14 ev15
          subst ev14 ev15
          rw [ff, if_neg (by omega), if_neg (by omega), if_neg (by omega)] at hR2
          rw [sg, if_neg (by omega), if_neg (by omega)] at hS2
          rw [hlen, nI_eq (by omega) (by omega)]
          refine ⟨fun q4 => ?_, fun q4 => ⟨vp_in_nI (by omega) (by decide), ?_⟩⟩
          · rw [if_pos (by omega)] at hR2
            have := hK σ2 g1 (fun z => by rw [hR2] at z; cases z)
            rw [an_fault, hR2] at this; exact this
          · have hi2 : i' + 1 < aN s := by omega
            have h1282 := (tx_eq hw hi2).2
            rw [if_neg (by omega)] at hR2
            rw [ix_nI (by omega), htx _ hi2]
            refine in_N (A := 48) (B := 57) rfl rfl (fun hd => ⟨fun _ => ?_, fun z => absurd rfl z⟩) (fun hd => ⟨fun z => absurd z (by decide), fun _ => ⟨vp_in_nI (by omega) (by decide), ?_⟩⟩)
            · rw [rng, nI_toInt (by omega)] at hd
              rw [if_pos (by omega)] at hR2
              have := hK σ2 g1 (fun z => by rw [hR2] at z; cases z)
              rw [an_fault, hR2] at this; exact this
            · rw [rng, nI_toInt (by omega)] at hd
              rw [htx _ hi2, show nI (tx s (i' + 1)) - 48 = nI (tx s (i' + 1) - 48) from pk_sub (b := 48) (by omega), nI_eq (by omega) (by omega)]
              refine ⟨fun q5 => ?_, fun q5 => ⟨vp_in_nI (by omega) (by decide), vp_in_nI (by omega) (by decide), fun s22 es22 v23 ev23 => ?_⟩⟩
              · rw [if_pos (by omega)] at hR2
                have := hK σ2 g1 (fun z => by rw [hR2] at z; cases z)
                rw [an_fault, hR2] at this; exact this
              · rw [if_neg (by omega)] at hR2
                rw [nI_1] at ev23
                rw [ix_nI (by omega)] at es22
                subst ev23
                refine hc2 _ ⟨⟨fun k k1 k2 k3 k4 => ?_, fun j hj => ?_, ?_⟩, f', i' + 2, n + 1, _, by omega, by omega, by omega, by omega, hR2, hS2, ⟨?_, fun k hk => ?_⟩, ?_, fun v v1 v2 => ?_, rfl, rfl⟩ ?_
                · show s22.1 k = _
                  rw [es22, wI_ne k4]; exact g1.1 k k1 k2 k3 k4
                · show s22.1 204 j = _
                  rw [es22, wI_ne (by decide)]; exact g1.2.1 j hj
                · show s22.2 = _
                  rw [es22, wI_2]; exact g1.2.2
                · show s22.1 204 14 = _
                  rw [es22, wI_ne (by decide)]; exact hT2.1
                · show s22.1 214 k = _ ∧ s22.1 215 k = _
                  rw [es22, wI_ne (by decide), wI_ne (by decide)]; exact hT2.2 k hk
                · show s22.1 215 L.length = _
                  rw [es22, wI_ne (by decide)]; exact hB
                · show s22.1 216 v = _ ∧ _
                  rw [es22]
                  show (if 216 = 216 ∧ v = n + 1 then _ else σ2.1 216 v) = _ ∧ _
                  unfold u1
                  by_cases e : v = n + 1
                  · rw [if_pos ⟨rfl, e⟩, if_pos e]; exact ⟨rfl, by omega⟩
                  · rw [if_neg (fun z => e z.2), if_neg e]; exact hr v v1 (by omega)
                · show 200 - ix (nI (i' + 1 + 1)) < 200 - ix (nI i')
                  rw [ix_nI (by omega), ix_nI (by omega)]; omega
      · show s3.1 214 k = _ ∧ s3.1 215 k = _
        rw [es3, wI_ne (by decide), wI_ni (by omega)]
        exact hT.2 k hk
theorem m_faultPosition (h : RM σ s) (hw : wf s) (hK : ∀ σ', RM σ' s → frK σ σ' → K (an_fault s) σ') : P_X8_faultPosition σ K := by
  unfold P_X8_faultPosition
  exact m_faultOf h hw (fun σ' e _ => hK σ' (frF_RM h e) (frF_K e))
end FLT2
