/-! the reference's read -/
def SM (σ : St) (i : Nat) (x : SentT) : Prop := σ.1 206 i = nI (sZ x) ∧ (∀ w, 1 ≤ w → w ≤ sZ x → σ.1 207 (7 * i + w) = sTg x w ∧ σ.1 208 (7 * i + w) = sHd x w) ∧ ∀ h, h < 7 → ∀ w, w < 7 → σ.1 209 (49 * i + 7 * h + w) = sBi x h w ∧ σ.1 210 (49 * i + 7 * h + w) = sCo x h w
theorem SM_fr {σ σ' : St} {i : Nat} {x : SentT} (h : SM σ i x) (h6 : sZ x ≤ 6) (h1 : σ'.1 206 i = σ.1 206 i) (h2 : ∀ w, w < 7 → σ'.1 207 (7 * i + w) = σ.1 207 (7 * i + w) ∧ σ'.1 208 (7 * i + w) = σ.1 208 (7 * i + w)) (h3 : ∀ z, z < 49 → σ'.1 209 (49 * i + z) = σ.1 209 (49 * i + z) ∧ σ'.1 210 (49 * i + z) = σ.1 210 (49 * i + z)) : SM σ' i x := by
  obtain ⟨r1, r2, r3⟩ := h
  refine ⟨by rw [h1]; exact r1, fun w w1 w2 => ?_, fun a ha w hw => ?_⟩
  · rw [(h2 w (by omega)).1, (h2 w (by omega)).2]; exact r2 w w1 w2
  · have := h3 (7 * a + w) (by omega)
    rw [← Nat.add_assoc] at this
    rw [this.1, this.2]; exact r3 a ha w hw
section RD3
variable {σ : St} {s : AS} {K : Int32 → St → Prop}
def GR (σ : St) (s : AS) (L : List (Nat × Nat)) (k : Nat) (σ' : St) : Prop := σ'.2 = σ.2 ∧ (∀ c, c < 204 ∨ c = 205 ∨ 210 < c → σ'.1 c = σ.1 c) ∧ (∀ j, j ≠ 2 → σ'.1 204 j = σ.1 204 j) ∧ σ'.1 204 2 = nI (aM s + k) ∧ (∀ i, i < aM s → SM σ' i (aS s i)) ∧ ∀ q, (hq : q < L.length) → q < k → SM σ' (aM s + q) (newS (tx s) L[q])
/-- a step that touches only the places of one sentence behind the known ones -/
theorem GR_step {σ' σ2 : St} {L : List (Nat × Nat)} {k : Nat} (hw : wf s) (hL : ∀ e, e ∈ L → e.2 ≤ 6) (h : GR σ s L k σ') (h1 : σ2.2 = σ'.2) (h2 : ∀ c, c < 206 ∨ 210 < c → σ2.1 c = σ'.1 c) (h3 : ∀ i, i ≠ aM s + k → σ2.1 206 i = σ'.1 206 i) (h4 : ∀ z, z < 7 * (aM s + k) ∨ 7 * (aM s + k) + 7 ≤ z → σ2.1 207 z = σ'.1 207 z ∧ σ2.1 208 z = σ'.1 208 z) (h5 : ∀ z, z < 49 * (aM s + k) ∨ 49 * (aM s + k) + 49 ≤ z → σ2.1 209 z = σ'.1 209 z ∧ σ2.1 210 z = σ'.1 210 z) : GR σ s L k σ2 := by
  obtain ⟨g1, g2, g3, g4, g5, g6⟩ := h
  refine ⟨h1.trans g1, fun c hc => (h2 c (by omega)).trans (g2 c hc), fun j hj => by rw [h2 204 (by omega)]; exact g3 j hj, by rw [h2 204 (by omega)]; exact g4, fun i hi => ?_, fun q hq hk => ?_⟩
  · exact SM_fr (g5 i hi) (hw.sz hi).2 (h3 i (by omega)) (fun w hw => h4 _ (by omega)) (fun z hz => h5 _ (by omega))
  · exact SM_fr (g6 q hq hk) (hL _ (List.getElem_mem hq)) (h3 _ (by omega)) (fun w hw => h4 _ (by omega)) (fun z hz => h5 _ (by omega))
theorem m_read (h : RM σ s) (hw : wf s) (hK : ∀ σ', RM σ' (nx_read s) → frK σ σ' → K (an_read s) σ') : P_X8_read σ K := by
  unfold P_X8_read
  have hN := hw.1.1
  have hm := h.m4
  refine m_faultOf h hw (fun σ1 e1 hT => ?_)
  have h1 : RM σ1 s := frF_RM h e1
  have hfK := frF_K e1
  refine ⟨fun q => ?_, fun q => ?_⟩
  · have hR : fltR s = none := by
      cases hz : fltR s with
      | none => rfl
      | some p =>
        exfalso
        rw [an_fault, hz] at q
        have hp : p ≤ aN s := ff_le _ _ _ _ _ (Nat.zero_le _) hz
        have q2 : nI p = NONEV := q
        rw [T_eq, nI_toInt (by omega)] at q2
        have : NONEV.toInt = -1000004 := by decide
        omega
    have hT := hT hR
    have hlen : (SGL s).length ≤ 100 := by
      have := sg_cnt (N := aN s) (τ := tx s) _ 0 0 _ (by omega) hR
      unfold SGL
      rw [this]
      exact Nat.le_trans (List.length_filter_le _ _) (by rw [List.length_range]; omega)
    have hok := SGL_ok hR
    rw [h1.cnt, hT.1, nI_add, show (4 : Int32) = nI 4 from rfl, nI_leI (by omega) (by omega)]
    unfold an_read nx_read at hK
    rw [if_pos hR] at hK
    refine ⟨fun q4 => ?_, fun q4 => ?_⟩
    · rw [if_pos q4, if_pos ⟨hR, q4⟩] at hK
      generalize hLL : SGL s = L at *
      have hL6 : ∀ e, e ∈ L → e.2 ≤ 6 := fun e he => (hok e he).2.1
      refine LpE_for1 (fun k σ' => GR σ1 s L k σ') L.length ?_ 0 σ1 (by omega) ⟨rfl, fun _ _ => rfl, fun _ _ => rfl, h1.cnt, fun i hi => h1.2.2.1 i hi, fun q hq hk => absurd hk (Nat.not_lt_zero _)⟩
      intro k σ' c hk hG hc
      dsimp only
      unfold F_X8_read_30
      rw [show σ'.1 204 14 = nI L.length by rw [hG.2.2.1 14 (by decide)]; exact hT.1, hG.2.2.2.1, nI_leI (by omega) (by omega)]
      refine ⟨fun z => ?_, fun z v3 e3 => ?_⟩
      · have hkL : k = L.length := by omega
        subst hkL
        obtain ⟨g1, g2, g3, g4, g5, g6⟩ := hG
        refine hK σ' ?_ (hfK.tr ⟨fun c hc => ⟨g2 c (Or.inl hc), by rw [g1]⟩, by rw [g1]⟩)
        obtain ⟨⟨a1, a2⟩, a3, a5, a6, a7, a8, a9, a10⟩ := h1
        refine ⟨⟨by rw [g3 1 (by decide)]; exact a1, fun i hi => by rw [g2 205 (by omega)]; exact a2 i hi⟩, ⟨g4, q4⟩, fun i hi => ?_, fun k hk => by rw [g2 211 (by omega)]; exact a6 k hk, fun j hj => by rw [g2 212 (by omega), g2 213 (by omega)]; exact a7 j hj, by rw [g3 11 (by decide)]; exact a8, by rw [g3 12 (by decide)]; exact a9, by rw [g3 13 (by decide)]; exact a10⟩
        have hi' : i < aM s + L.length := hi
        show SM σ' i (if i < aM s then aS s i else _)
        by_cases e : i < aM s
        · rw [if_pos e]; exact g5 i e
        · rw [if_neg e]
          have hl : i - aM s < L.length := by omega
          have := g6 _ hl hl
          rw [show aM s + (i - aM s) = i by omega] at this
          rw [List.getD_eq_getElem?_getD, List.getElem?_eq_getElem hl]
          exact this
      · have hkL : k < L.length := by omega
        have hoE := hok _ (List.getElem_mem hkL)
        obtain ⟨o1, o2, o3, o4, -⟩ := hoE
        rw [show (49 : Int32) = nI 49 from rfl, pk_mul] at e3
        subst e3
        refine LpE_for (S := Int32 × St) (fun z t => (nI (49 * (aM s + k) + z), t)) (fun z σ2 => GR σ1 s L k σ2 ∧ ∀ y, y < z → σ2.1 209 (49 * (aM s + k) + y) = 0 ∧ σ2.1 210 (49 * (aM s + k) + y) = 0) 49 ?_ 0 σ' (by omega) ⟨hG, fun y hy => absurd hy (Nat.not_lt_zero _)⟩
        intro z σ2 c2 hz ⟨hG2, hZ⟩ hc2
        dsimp only
        unfold F_X8_read_46
        have hcn2 := hG2.2.2.2.1
        have h214 : ∀ σ3, GR σ1 s L k σ3 → σ3.1 214 k = nI (L[k]).2 ∧ σ3.1 215 k = nI (L[k]).1 := fun σ3 g => by
          rw [g.2.1 214 (by omega), g.2.1 215 (by omega)]; exact hT.2 k hkL
        rw [hcn2, show (49 * nI (aM s + k)) + 49 = nI (49 * (aM s + k) + 49) from pl49 (k := 49), nI_leI (by omega) (by omega)]
        refine ⟨fun z2 => ⟨vp_in_nI (by omega) (by decide), vp_in_nI (by omega) (by decide), fun s6 e6 => ?_⟩, fun z2 => ⟨vp_in_nI (by omega) (by decide), fun s24 e24 => ⟨vp_in_nI (by omega) (by decide), fun s26 e26 v27 e27 => ?_⟩⟩⟩
        · rw [ix_nI (by omega), ix_nI (by omega), (h214 σ2 hG2).1] at e6
          have hG6 : GR σ1 s L k s6 := GR_step hw hL6 hG2 (by rw [e6, wI_2]) (fun c hc => by rw [e6, wI_ne (by omega)]) (fun i hi => by rw [e6, wI_ni hi]) (fun z _ => by rw [e6, wI_ne (by omega), wI_ne (by omega)]; exact ⟨rfl, rfl⟩) (fun z _ => by rw [e6, wI_ne (by omega), wI_ne (by omega)]; exact ⟨rfl, rfl⟩)
          refine LpE_for (S := Int32 × St) (fun w t => (nI (w + 1), t)) (fun w σ3 => GR σ1 s L k σ3 ∧ (∀ y, y < 49 → σ3.1 209 (49 * (aM s + k) + y) = 0 ∧ σ3.1 210 (49 * (aM s + k) + y) = 0) ∧ σ3.1 206 (aM s + k) = nI (L[k]).2 ∧ ∀ y, 1 ≤ y → y < w + 1 → σ3.1 207 (7 * (aM s + k) + y) = nI (tx s ((L[k]).1 + 2 * y - 2) - 65) ∧ σ3.1 208 (7 * (aM s + k) + y) = nI (tx s ((L[k]).1 + 2 * y - 1) - 48)) (L[k]).2 ?_ 0 s6 (by omega) ⟨hG6, fun y hy => by rw [e6, wI_ne (by omega), wI_ne (by omega)]; exact hZ y (by omega), by rw [e6]; exact wI_self, fun y y1 y2 => by omega⟩
          intro w σ3 c3 hwn ⟨hG3, hZ3, hn3, hW3⟩ hc3
          dsimp only
          unfold F_X8_read_97 P_X8_word
          have hcn3 := hG3.2.2.2.1
          have htx : ∀ σ4, GR σ1 s L k σ4 → ∀ j, j < aN s → σ4.1 205 j = nI (tx s j) := fun σ4 g j hj => by
            rw [g.2.1 205 (by omega), h1.1.2 j hj]; exact (tx_eq hw hj).1
          rw [ix_nI (by omega), (h214 σ3 hG3).1, hcn3, nI_ltI (by omega) (by omega)]
          refine ⟨vp_in_nI (by omega) (by decide), fun z3 s8 e8 v9 e9 => ?_, fun z3 => ⟨vp_in_nI (by omega) (by decide), ?_⟩⟩
          · rw [nI_1] at e8 e9
            subst e9
            obtain ⟨g1, g2, g3, g4, g5, g6⟩ := hG3
            have h8 : ∀ c, c ≠ 204 → s8.1 c = σ3.1 c := fun c hc => by rw [e8, wI_ne hc]
            have hSM : ∀ i x, SM σ3 i x → SM s8 i x := fun i x r => by
              unfold SM
              rw [h8 206 (by decide), h8 207 (by decide), h8 208 (by decide), h8 209 (by decide), h8 210 (by decide)]
              exact r
            refine hc s8 hkL ⟨by rw [e8, wI_2]; exact g1, fun c hc => by rw [h8 c (by omega)]; exact g2 c hc, fun j hj => by rw [e8, wI_ni hj]; exact g3 j hj, by rw [e8, wI_self]; rfl, fun i hi => hSM _ _ (g5 i hi), fun q hq hk => ?_⟩
            by_cases e : q = k
            · subst e
              refine hSM _ _ ⟨hn3, fun y y1 y2 => hW3 y y1 (by have : y ≤ (L[q]).2 := y2; omega), fun a ha y hy => ?_⟩
              have := hZ3 (7 * a + y) (by omega)
              rw [← Nat.add_assoc] at this
              exact this
            · exact hSM _ _ (g6 q hq (by omega))
          · have hi1 : (L[k]).1 + 2 * (w + 1) - 2 < aN s := by omega
            have hi2 : (L[k]).1 + 2 * (w + 1) - 1 < aN s := by omega
            have t1 := o4 (w + 1) (by omega) (by omega)
            have ex : ∀ a b : Nat, nI a + 2 * nI b = nI (a + 2 * b) := fun a b => by rw [show (2 : Int32) = nI 2 from rfl, pk_mul, nI_add]
            rw [(h214 σ3 hG3).2, ex, show nI ((L[k]).1 + 2 * (w + 1)) - 2 = nI ((L[k]).1 + 2 * (w + 1) - 2) from pk_sub (b := 2) (by omega), pl7, ix_nI (by omega), ix_nI (by omega), htx σ3 hG3 _ hi1, show nI (tx s ((L[k]).1 + 2 * (w + 1) - 2)) - 65 = nI (tx s ((L[k]).1 + 2 * (w + 1) - 2) - 65) from pk_sub (b := 65) (by omega)]
            refine ⟨vp_in_nI (by omega) (by decide), vp_in_nI (by omega) (by decide), fun s15 e15 => ⟨vp_in_nI (by omega) (by decide), ?_⟩⟩
            have hG15 : GR σ1 s L k s15 := GR_step hw hL6 hG3 (by rw [e15, wI_2]) (fun c hc => by rw [e15, wI_ne (by omega)]) (fun i hi => by rw [e15, wI_ne (by omega)]) (fun z hz => by rw [e15, wI_ni (by omega), wI_ne (by omega)]; exact ⟨rfl, rfl⟩) (fun z _ => by rw [e15, wI_ne (by omega), wI_ne (by omega)]; exact ⟨rfl, rfl⟩)
            rw [hG15.2.2.2.1, (h214 s15 hG15).2, ex, show nI ((L[k]).1 + 2 * (w + 1)) - 1 = nI ((L[k]).1 + 2 * (w + 1) - 1) from pk_sub (b := 1) (by omega), pl7, ix_nI (by omega), ix_nI (by omega), htx s15 hG15 _ hi2, show nI (tx s ((L[k]).1 + 2 * (w + 1) - 1)) - 48 = nI (tx s ((L[k]).1 + 2 * (w + 1) - 1) - 48) from pk_sub (b := 48) (by omega)]
            refine ⟨vp_in_nI (by omega) (by decide), vp_in_nI (by omega) (by decide), fun s21 e21 v22 e22 => ?_⟩
            rw [nI_1] at e22
            subst e22
            have hG21 : GR σ1 s L k s21 := GR_step hw hL6 hG15 (by rw [e21, wI_2]) (fun c hc => by rw [e21, wI_ne (by omega)]) (fun i hi => by rw [e21, wI_ne (by omega)]) (fun z hz => by rw [e21, wI_ne (by omega), wI_ni (by omega)]; exact ⟨rfl, rfl⟩) (fun z _ => by rw [e21, wI_ne (by omega), wI_ne (by omega)]; exact ⟨rfl, rfl⟩)
            refine hc3 s21 (by omega) ⟨hG21, fun y hy => ?_, ?_, fun y y1 y2 => ?_⟩
            · rw [e21, wI_ne (by omega), wI_ne (by omega), e15, wI_ne (by omega), wI_ne (by omega)]; exact hZ3 y hy
            · rw [e21, wI_ne (by omega), e15, wI_ne (by omega)]; exact hn3
            · rw [e21, wI_ne (show (207 : Nat) ≠ 208 by decide), e15]
              by_cases e : y = w + 1
              · rw [e]; exact ⟨wI_self, wI_self⟩
              · rw [wI_ni (by omega), wI_ni (by omega), wI_ne (show (208 : Nat) ≠ 207 by decide)]; exact hW3 y y1 (by omega)
        · rw [ix_nI (by omega)] at e24 e26
          rw [nI_1] at e27
          subst e27
          refine hc2 s26 (by omega) ⟨GR_step hw hL6 hG2 (by rw [e26, wI_2, e24, wI_2]) (fun c hc => by rw [e26, wI_ne (by omega), e24, wI_ne (by omega)]) (fun i hi => by rw [e26, wI_ne (by omega), e24, wI_ne (by omega)]) (fun y _ => by rw [e26, wI_ne (by omega), wI_ne (by omega), e24, wI_ne (by omega), wI_ne (by omega)]; exact ⟨rfl, rfl⟩) (fun y hy => by rw [e26, wI_ne (show (209 : Nat) ≠ 210 by decide), wI_ni (by omega), e24, wI_ni (by omega), wI_ne (by omega)]; exact ⟨rfl, rfl⟩), fun y hy => ?_⟩
          rw [e26, wI_ne (show (209 : Nat) ≠ 210 by decide), e24]
          by_cases e : y = z
          · rw [e]; exact ⟨wI_self, wI_self⟩
          · rw [wI_ni (by omega), wI_ni (by omega), wI_ne (show (210 : Nat) ≠ 209 by decide)]; exact hZ y (by omega)
    · rw [if_neg q4, if_neg (fun z => q4 z.2)] at hK; exact hK σ1 h1 hfK
  · have hR : ¬ fltR s = none := fun z => q (by rw [an_fault, z])
    unfold an_read nx_read at hK
    rw [if_neg hR, if_neg (fun z => hR z.1)] at hK; exact hK σ1 h1 hfK
end RD3
