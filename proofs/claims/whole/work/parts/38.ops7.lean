/-! the reference's save and restore; remove -/
theorem RM_slot {σ σ' : St} {s : AS} {j : Nat} {v : Int32 × (Nat → Int32)} (h : RM σ s) (hf : ∀ k, 204 < k → k ≤ 213 → k ≠ 212 → k ≠ 213 → σ'.1 k = σ.1 k) (h4 : ∀ i, i = 1 ∨ i = 2 ∨ i = 11 ∨ i = 12 ∨ i = 13 → σ'.1 204 i = σ.1 204 i) (hs : ∀ i, i < 2 → σ'.1 213 i = (u1 (aK s) j v i).1 ∧ ∀ k, k < 84 → σ'.1 212 (84 * i + k) = (u1 (aK s) j v i).2 k) : RM σ' (inK j v s) := by
  obtain ⟨⟨h1, h2⟩, h3, h5, h6, h7, h8, h9, h10⟩ := h
  refine ⟨⟨by rw [h4 1 (by decide)]; exact h1, fun i hi => by rw [hf 205 (by decide) (by decide) (by decide) (by decide)]; exact h2 i hi⟩, ⟨by rw [h4 2 (by decide)]; exact h3.1, h3.2⟩, fun i hi => ?_, fun k hk => by rw [hf 211 (by decide) (by decide) (by decide) (by decide)]; exact h6 k hk, hs, by rw [h4 11 (by decide)]; exact h8, by rw [h4 12 (by decide)]; exact h9, by rw [h4 13 (by decide)]; exact h10⟩
  rw [hf 206 (by decide) (by decide) (by decide) (by decide), hf 207 (by decide) (by decide) (by decide) (by decide), hf 208 (by decide) (by decide) (by decide) (by decide), hf 209 (by decide) (by decide) (by decide) (by decide), hf 210 (by decide) (by decide) (by decide) (by decide)]
  exact h5 i hi
theorem RM_allw {σ σ' : St} {s : AS} {W : Nat → Int32} (h : RM σ s) (hf : ∀ k, 204 < k → k ≤ 213 → k ≠ 211 → σ'.1 k = σ.1 k) (h4 : ∀ i, i = 1 ∨ i = 2 ∨ i = 11 ∨ i = 12 ∨ i = 13 → σ'.1 204 i = σ.1 204 i) (hW : ∀ k, k < 84 → σ'.1 211 k = W k) : RM σ' (inW (fun _ => W) s) := by
  obtain ⟨⟨h1, h2⟩, h3, h5, h6, h7, h8, h9, h10⟩ := h
  refine ⟨⟨by rw [h4 1 (by decide)]; exact h1, fun i hi => by rw [hf 205 (by decide) (by decide) (by decide)]; exact h2 i hi⟩, ⟨by rw [h4 2 (by decide)]; exact h3.1, h3.2⟩, fun i hi => ?_, hW, fun j hj => by rw [hf 212 (by decide) (by decide) (by decide), hf 213 (by decide) (by decide) (by decide)]; exact h7 j hj, by rw [h4 11 (by decide)]; exact h8, by rw [h4 12 (by decide)]; exact h9, by rw [h4 13 (by decide)]; exact h10⟩
  rw [hf 206 (by decide) (by decide) (by decide), hf 207 (by decide) (by decide) (by decide), hf 208 (by decide) (by decide) (by decide), hf 209 (by decide) (by decide) (by decide), hf 210 (by decide) (by decide) (by decide)]
  exact h5 i hi
section OPF
variable {σ : St} {s : AS} {K : Int32 → St → Prop}
theorem slot_M {p : Int32} {K : Int32 → St → Prop} (h0 : idx p 2 = none → K 0 σ) (h1 : ∀ j, j < 2 → p = nI j → idx p 2 = some j → K 1 σ) : P_X8_in p 0 1 σ K := by
  refine in_N (A := 0) (B := 1) rfl rfl (fun c => ?_) (fun c => ?_)
  · rcases idx_cases p (m := 2) (by decide) with ⟨hi, hc⟩ | ⟨j, hj, hp, hi⟩
    · exact h0 hi
    · rw [c_eq (by omega)] at hp; exact absurd ⟨by omega, by omega⟩ c
  · rcases idx_cases p (m := 2) (by decide) with ⟨hi, hc⟩ | ⟨j, hj, hp, hi⟩
    · exfalso
      obtain ⟨c1, c2⟩ := c
      rcases hc with hc | ⟨-, hc⟩
      · rw [T_lt, lit_toInt0] at hc; omega
      · rw [T_le, nI_toInt (by decide)] at hc; omega
    · exact h1 j hj hp hi
theorem pl84 {j k : Nat} : (84 * nI j) + nI k = nI (84 * j + k) := by
  rw [show (84 : Int32) = nI 84 from rfl, pk_mul, nI_add]
theorem m_save {p : Int32} (h : RM σ s) (hK : ∀ σ', RM σ' (nx_save s p) → frK σ σ' → K (an_save s p) σ') : P_X8_save p σ K := by
  unfold P_X8_save
  dsimp only [nx_save, an_save] at hK
  refine slot_M (fun hi => ⟨fun _ => ?_, fun z => absurd rfl z⟩) (fun j hj hp hi => ⟨fun z => absurd z (by decide), fun _ => ?_⟩)
  · rw [hi] at hK; exact hK σ h frK.rf
  · rw [hi] at hK
    dsimp only at hK
    subst hp
    refine LpE_inv (fun s' => ∃ k, k ≤ 84 ∧ s'.1 = nI k ∧ s'.2.2 = σ.2 ∧ (∀ c, c ≠ 212 → s'.2.1 c = σ.1 c) ∧ (∀ q, q < k → s'.2.1 212 (84 * j + q) = aW s q) ∧ ∀ i, (i < 84 * j ∨ 84 * j + 84 ≤ i) → s'.2.1 212 i = σ.1 212 i) (fun s' => 90 - ix s'.1) ?_ _ ⟨0, by omega, rfl, rfl, fun c _ => rfl, fun q hq => absurd hq (Nat.not_lt_zero _), fun i _ => rfl⟩
    intro s' c hI hc
    obtain ⟨u2, σ'⟩ := s'
    obtain ⟨k, hk, e1, e2, e3, e4, e5⟩ := hI
    dsimp only at e1 e2 e3 e4 e5
    subst e1
    dsimp only
    unfold F_X8_save_14
    rw [show (84 : Int32) = nI 84 from rfl, nI_leI (by decide) (by omega)]
    refine ⟨fun q => ⟨vp_in_nI hj (by decide), fun s4 f4 => ?_⟩, fun q => ⟨vp_in_nI (by omega) (by decide), ?_⟩⟩
    · rw [ix_nI (by omega)] at f4
      refine used_M (W := aW s) (fun q hq => by rw [f4, wI_ne (by decide), e3 211 (by decide)]; exact h.wts hq) (hK _ ?_ ?_)
      · refine RM_slot h (fun c c1 c2 c3 c4 => by rw [f4, wI_ne c4, e3 c c3]) (fun i hi => by rw [f4, wI_ne (by decide), e3 204 (by decide)]) (fun i hi => ?_)
        rw [f4]
        refine ⟨?_, fun q hq => ?_⟩
        · show (if 213 = 213 ∧ i = j then 1 else σ'.1 213 i) = _
          rw [e3 213 (by decide), u1]
          by_cases e : i = j
          · rw [if_pos ⟨rfl, e⟩, if_pos e]
          · rw [if_neg (fun z => e z.2), if_neg e]; exact (h.slot hi).1
        · rw [wI_ne (by decide), u1]
          by_cases e : i = j
          · rw [if_pos e, e]; exact e4 q (by omega)
          · rw [if_neg e, e5 _ (by omega)]; exact (h.slot hi).2 q hq
      · refine ⟨fun c hc => ?_, by rw [f4, wI_2, e2]⟩
        rw [f4, wI_ne (by omega), wI_2, e2, e3 c (by omega)]
        exact ⟨rfl, rfl⟩
    · rw [show (nI 84 : Int32) = 84 from rfl, pl84]
      refine ⟨vp_in_nI (by omega) (by decide), fun s9 f9 v10 f10 => ?_⟩
      rw [ix_nI (by omega), ix_nI (by omega)] at f9
      rw [nI_1] at f10
      subst f9 f10
      refine hc _ ⟨k + 1, by omega, rfl, e2, fun c hc => ?_, fun q hq => ?_, fun i hi => ?_⟩ ?_
      · show (wI σ' 212 (84 * j + k) (σ'.1 211 k)).1 c = _
        rw [wI_ne hc]; exact e3 c hc
      · show (if 212 = 212 ∧ 84 * j + q = 84 * j + k then σ'.1 211 k else σ'.1 212 (84 * j + q)) = _
        by_cases e : q = k
        · rw [if_pos ⟨rfl, by omega⟩, e3 211 (by decide), e]; exact h.wts (by omega)
        · rw [if_neg (fun z => by omega)]; exact e4 q (by omega)
      · show (if 212 = 212 ∧ i = 84 * j + k then σ'.1 211 k else σ'.1 212 i) = _
        rw [if_neg (fun z => by omega)]; exact e5 i hi
      · show 90 - ix (nI (k + 1)) < 90 - ix (nI k)
        rw [ix_nI (by omega), ix_nI (by omega)]; omega
theorem m_restore {p : Int32} (h : RM σ s) (hK : ∀ σ', RM σ' (nx_restore s p) → frK σ σ' → K (an_restore s p) σ') : P_X8_restore p σ K := by
  unfold P_X8_restore
  dsimp only [nx_restore, an_restore] at hK
  refine slot_M (fun hi => ⟨fun _ => ?_, fun z => absurd rfl z⟩) (fun j hj hp hi => ⟨fun z => absurd z (by decide), fun _ => ?_⟩)
  · rw [hi] at hK; exact hK σ h frK.rf
  · rw [hi] at hK
    dsimp only at hK
    subst hp
    refine ⟨vp_in_nI hj (by decide), ?_⟩
    rw [ix_nI (by omega), (h.slot hj).1]
    refine ⟨fun z => ?_, fun z => ?_⟩
    · rw [if_pos z, if_pos z] at hK; exact hK σ h frK.rf
    · rw [if_neg z, if_neg z] at hK
      refine LpE_inv (fun s' => ∃ k, k ≤ 84 ∧ s'.1 = nI k ∧ s'.2.2 = σ.2 ∧ (∀ c, c ≠ 211 → s'.2.1 c = σ.1 c) ∧ (∀ q, q < k → s'.2.1 211 q = (aK s j).2 q)) (fun s' => 90 - ix s'.1) ?_ _ ⟨0, by omega, rfl, rfl, fun c _ => rfl, fun q hq => absurd hq (Nat.not_lt_zero _)⟩
      intro s' c hI hc
      obtain ⟨u2, σ'⟩ := s'
      obtain ⟨k, hk, e1, e2, e3, e4⟩ := hI
      dsimp only at e1 e2 e3 e4
      subst e1
      dsimp only
      unfold F_X8_restore_26
      rw [show (84 : Int32) = nI 84 from rfl, nI_leI (by decide) (by omega)]
      refine ⟨fun q => ?_, fun q => ?_⟩
      · refine used_M (W := (aK s j).2) (fun q hq => e4 q (by omega)) (hK _ ?_ ⟨fun c hc => ⟨e3 c (by omega), by rw [e2]⟩, by rw [e2]⟩)
        exact RM_allw h (fun c c1 c2 c3 => e3 c c3) (fun i hi => by rw [e3 204 (by decide)]) (fun q hq => e4 q (by omega))
      · rw [show (nI 84 : Int32) = 84 from rfl, pl84]
        refine ⟨vp_in_nI (by omega) (by decide), vp_in_nI (by omega) (by decide), fun s8 f8 v9 f9 => ?_⟩
        rw [ix_nI (by omega), ix_nI (by omega)] at f8
        rw [nI_1] at f9
        subst f8 f9
        refine hc _ ⟨k + 1, by omega, rfl, e2, fun c hc => ?_, fun q hq => ?_⟩ ?_
        · show (wI σ' 211 k (σ'.1 212 (84 * j + k))).1 c = _
          rw [wI_ne hc]; exact e3 c hc
        · show (if 211 = 211 ∧ q = k then σ'.1 212 (84 * j + k) else σ'.1 211 q) = _
          by_cases e : q = k
          · rw [if_pos ⟨rfl, e⟩, e3 212 (by decide), e]; exact (h.slot hj).2 k (by omega)
          · rw [if_neg (fun z => e z.2)]; exact e4 q (by omega)
        · show 90 - ix (nI (k + 1)) < 90 - ix (nI k)
          rw [ix_nI (by omega), ix_nI (by omega)]; omega
end OPF
