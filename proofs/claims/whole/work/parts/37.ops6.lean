/-! crossings, save, restore -/
section OPC
variable {σ : St} {s : AS} {K : Int32 → St → Prop}
theorem countCr_C {a : Nat} {x : SentT} (hx : wfS x) (r : RS σ a x) (hK : K (nI (crA (hdN x) (sZ x + 1))) σ) : P_X7_countCrossings a σ K := by
  have hz := hx.1
  unfold P_X7_countCrossings
  have hb : ∀ w, w ≤ 7 → crA (hdN x) w ≤ 49 := fun w hw => Nat.le_trans (crA_le _ w) (Nat.le_trans (Nat.mul_le_mul hw hw) (by decide))
  refine LpE_inv (fun s' => s'.2.2 = σ ∧ ∃ w, 2 ≤ w ∧ w ≤ sZ x + 1 ∧ s'.2.1 = nI w ∧ s'.1 = nI (crA (hdN x) w)) (fun s' => 9 - ix s'.2.1) ?_ _ ⟨rfl, 2, by omega, by omega, rfl, rfl⟩
  intro s' c hI hc
  obtain ⟨u1, u2, σ'⟩ := s'
  obtain ⟨e1, w, w1, w2, e2, e3⟩ := hI
  dsimp only at e1 e2 e3
  subst e1 e2 e3
  dsimp only
  unfold F_X7_countCrossings_4
  rw [r.1, nI_ltI (by omega) (by omega)]
  refine ⟨fun q => ?_, fun q => ?_⟩
  · rw [show w = sZ x + 1 by omega]; exact hK
  · refine LpE_inv (fun s' => s'.2.2 = σ' ∧ ∃ u, 1 ≤ u ∧ u ≤ w ∧ s'.2.1 = nI u ∧ s'.1 = nI (crA (hdN x) w + cr1 (hdN x) w u)) (fun s' => 9 - ix s'.2.1) ?_ _ ⟨rfl, 1, by omega, by omega, rfl, rfl⟩
    intro s2 c2 hI2 hc2
    obtain ⟨u1, u3, σ2⟩ := s2
    obtain ⟨e1, u, u1', u2', e2, e3⟩ := hI2
    dsimp only at e1 e2 e3
    subst e1 e2 e3
    dsimp only
    unfold F_X7_countCrossings_14
    have hbw := hb w (by omega)
    have hb1 := cr1_le (hdN x) w u
    rw [nI_leI (by omega) (by omega)]
    refine ⟨fun q2 v1 e1 => ?_, fun q2 => ⟨vp_in_nI (by omega) (by decide), vp_in_nI (by omega) (by decide), ?_⟩⟩
    · rw [nI_1] at e1
      subst e1
      refine hc _ ⟨rfl, w + 1, by omega, by omega, rfl, ?_⟩ ?_
      · show nI _ = nI (crA (hdN x) (w + 1))
        rw [crA, if_pos w1, show u = w by omega]
      · show 9 - ix (nI (w + 1)) < 9 - ix (nI w)
        rw [ix_nI (by omega), ix_nI (by omega)]; omega
    · have hw6 : w ≤ sZ x := by omega
      rw [ix_nI (by omega), ix_nI (by omega), (r.2.1 w (by omega) hw6).2, (r.2.1 u u1' (by omega)).2, (hx.hd (by omega) hw6).1, (hx.hd u1' (by omega)).1]
      have l1 := (hx.hd (w := w) (by omega) hw6).2.1
      have l2 := (hx.hd (w := u) u1' (by omega)).2.1
      have hdec : 9 - ix (nI (u + 1)) < 9 - ix (nI u) := by rw [ix_nI (by omega), ix_nI (by omega)]; omega
      refine cross_C (by omega) (by omega) (by omega) (by omega) (fun hcr => ⟨fun z => absurd z (by decide), fun _ v7 e7 v8 e8 => ?_⟩) (fun hcr => ⟨fun _ v6 e6 => ?_, fun z => absurd rfl z⟩)
      · rw [nI_1] at e7 e8
        subst e7 e8
        refine hc2 _ ⟨rfl, u + 1, by omega, by omega, rfl, ?_⟩ hdec
        show nI _ = nI _
        rw [cr1, if_pos ⟨u1', hcr⟩]; congr 1
      · rw [nI_1] at e6
        subst e6
        refine hc2 _ ⟨rfl, u + 1, by omega, by omega, rfl, ?_⟩ hdec
        show nI _ = nI _
        rw [cr1, if_neg (fun z => hcr z.2)]; congr 1
theorem crossed_M {a f n : Nat} {t : Nat → Nat} (hn : 1 ≤ n) (hn6 : n ≤ 6) (hf : f < 1000) (hl : f + n < ln a) (hln : ln a < 2 ^ 31) (ha : ∀ v, 1 ≤ v → v ≤ n → σ.1 a (f + v) = nI (t v) ∧ t v ≤ n) (hK : K (nI (crA t (n + 1))) σ) : P_X8_crossed a (nI f) (nI n) σ K := by
  unfold P_X8_crossed
  have hb : ∀ w, w ≤ 7 → crA t w ≤ 49 := fun w hw => Nat.le_trans (crA_le _ w) (Nat.le_trans (Nat.mul_le_mul hw hw) (by decide))
  refine LpE_inv (fun s' => s'.2.2 = σ ∧ ∃ w, 2 ≤ w ∧ w ≤ n + 1 ∧ s'.2.1 = nI w ∧ s'.1 = nI (crA t w)) (fun s' => 9 - ix s'.2.1) ?_ _ ⟨rfl, 2, by omega, by omega, rfl, rfl⟩
  intro s' c hI hc
  obtain ⟨u1, u2, σ'⟩ := s'
  obtain ⟨e1, w, w1, w2, e2, e3⟩ := hI
  dsimp only at e1 e2 e3
  subst e1 e2 e3
  dsimp only
  unfold F_X8_crossed_5
  rw [nI_ltI (by omega) (by omega)]
  refine ⟨fun q => ?_, fun q => ?_⟩
  · rw [show w = n + 1 by omega]; exact hK
  · refine LpE_inv (fun s' => s'.2.2 = σ' ∧ ∃ u, 1 ≤ u ∧ u ≤ w ∧ s'.2.1 = nI u ∧ s'.1 = nI (crA t w + cr1 t w u)) (fun s' => 9 - ix s'.2.1) ?_ _ ⟨rfl, 1, by omega, by omega, rfl, rfl⟩
    intro s2 c2 hI2 hc2
    obtain ⟨u1, u3, σ2⟩ := s2
    obtain ⟨e1, u, u1', u2', e2, e3⟩ := hI2
    dsimp only at e1 e2 e3
    subst e1 e2 e3
    dsimp only
    unfold F_X8_crossed_14
    have hbw := hb w (by omega)
    have hb1 := cr1_le t w u
    rw [nI_leI (by omega) (by omega)]
    refine ⟨fun q2 v1 e1 => ?_, fun q2 => ?_⟩
    · rw [nI_1] at e1
      subst e1
      refine hc _ ⟨rfl, w + 1, by omega, by omega, rfl, ?_⟩ ?_
      · show nI _ = nI (crA t (w + 1))
        rw [crA, if_pos w1, show u = w by omega]
      · show 9 - ix (nI (w + 1)) < 9 - ix (nI w)
        rw [ix_nI (by omega), ix_nI (by omega)]; omega
    · have hw6 : w ≤ n := by omega
      rw [nI_add, nI_add]
      refine ⟨vp_in_nI (by omega) hln, vp_in_nI (by omega) hln, ?_⟩
      rw [ix_nI (by omega), ix_nI (by omega), (ha u u1' (by omega)).1, (ha w (by omega) hw6).1]
      have l1 := (ha w (by omega) hw6).2
      have l2 := (ha u u1' (by omega)).2
      have hdec : 9 - ix (nI (u + 1)) < 9 - ix (nI u) := by rw [ix_nI (by omega), ix_nI (by omega)]; omega
      refine cross_M (by omega) (by omega) (by omega) (by omega) (fun hcr => ⟨fun z => absurd z (by decide), fun _ v7 e7 v8 e8 => ?_⟩) (fun hcr => ⟨fun _ v6 e6 v9 e9 => ?_, fun z => absurd rfl z⟩)
      · rw [nI_1] at e7 e8
        subst e7 e8
        refine hc2 _ ⟨rfl, u + 1, by omega, by omega, rfl, ?_⟩ hdec
        show nI _ = nI _
        rw [cr1, if_pos ⟨u1', crP_symm.mp hcr⟩]; congr 1
      · rw [Int32.add_zero] at e6
        rw [nI_1] at e9
        subst e6 e9
        refine hc2 _ ⟨rfl, u + 1, by omega, by omega, rfl, ?_⟩ hdec
        show nI _ = nI _
        rw [cr1, if_neg (fun z => hcr (crP_symm.mp z.2))]; congr 1
def an_cross (s : AS) (p : Int32) : Int32 := match idx p (aM s) with
  | none => BADI
  | some i => nI (crA (hdN (aS s i)) (sZ (aS s i) + 1))
theorem c_crossings {p : Int32} (h : RC σ s) (hw : wf s) (hK : K (an_cross s p) σ) : P_X7_crossings p σ K := by
  unfold P_X7_crossings
  refine find_C h (fun hi => ⟨fun _ => ?_, fun b e => by cases e⟩) (fun j hj hp hi => ⟨fun e => (by cases e), fun b e => ?_⟩)
  · rw [an_cross, hi] at hK; exact hK
  · cases e
    rw [an_cross, hi] at hK
    exact ⟨h.sok (by have := h.m4; omega), countCr_C (hw.2.1.2 j hj) (h.sent hj) hK⟩
theorem m_crossings {p : Int32} (h : RM σ s) (hw : wf s) (hK : K (an_cross s p) σ) : P_X8_crossings p σ K := by
  unfold P_X8_crossings
  have hm := h.m4
  refine isSent_M h (fun hi => ⟨fun _ => ?_, fun z => absurd rfl z⟩) (fun j hj hp hi => ⟨fun z => absurd z (by decide), fun _ => ?_⟩)
  · rw [an_cross, hi] at hK; exact hK
  · rw [an_cross, hi] at hK
    subst hp
    have hx := hw.2.1.2 j hj
    have hz := hx.1
    refine ⟨vp_in_nI (by omega) (by decide), ?_⟩
    rw [ix_nI (by omega), h.sz hj, show (7 : Int32) * nI j = nI (7 * j) from by rw [show (7 : Int32) = nI 7 from rfl, pk_mul]]
    have hl208 : ln 208 = 28 := rfl
    exact crossed_M hz.1 hz.2 (by omega) (by rw [hl208]; omega) (by decide) (fun v v1 v2 => ⟨by rw [h.hd hj v1 v2]; exact (hx.hd v1 v2).1, (hx.hd v1 v2).2.1⟩) hK
end OPC
/-! how many weights are not 0 -/
def cnt (W : Nat → Int32) : Nat → Nat
  | 0 => 0
  | k + 1 => cnt W k + (if W k = 0 then 0 else 1)
theorem cnt_le (W : Nat → Int32) : ∀ k, cnt W k ≤ k
  | 0 => Nat.le_refl _
  | k + 1 => by
    have := cnt_le W k
    unfold cnt
    split <;> omega
section OPD
variable {σ : St} {s : AS} {K : Int32 → St → Prop}
theorem count_C {b : Nat} {W : Nat → Int32} (r : RW σ b W) (hK : K (nI (cnt W 84)) σ) : P_X6_countNonZero b σ K := by
  unfold P_X6_countNonZero
  refine LpE_inv (fun s' => s'.2.2 = σ ∧ ∃ h, h ≤ 9 ∧ s'.2.1 = nI h ∧ s'.1 = nI (cnt W (8 * h))) (fun s' => 10 - ix s'.2.1) ?_ _ ⟨rfl, 0, by omega, rfl, rfl⟩
  intro s' c hI hc
  obtain ⟨u1, u2, σ'⟩ := s'
  obtain ⟨e1, h, hh, e2, e3⟩ := hI
  dsimp only at e1 e2 e3
  subst e1 e2 e3
  dsimp only
  unfold F_X6_countNonZero_4
  rw [show (8 : Int32) = nI 8 from rfl, nI_ltI (by decide) (by omega)]
  refine ⟨fun q => ?_, fun q => ?_⟩
  · rw [show h = 9 by omega]
    refine LpE_inv (fun s' => s'.2.2 = σ' ∧ ∃ d, d ≤ 2 ∧ s'.2.1 = nI d ∧ s'.1 = nI (cnt W (72 + 6 * d))) (fun s' => 10 - ix s'.2.1) ?_ _ ⟨rfl, 0, by omega, rfl, rfl⟩
    intro s2 c2 hI2 hc2
    obtain ⟨u1, u3, σ2⟩ := s2
    obtain ⟨e1, d, hd, e2, e3⟩ := hI2
    dsimp only at e1 e2 e3
    subst e1 e2 e3
    dsimp only
    unfold F_X6_countNonZero_51
    rw [show (2 : Int32) = nI 2 from rfl, nI_leI (by decide) (by omega)]
    refine ⟨fun q2 => ?_, fun q2 => ?_⟩
    · rw [show d = 2 by omega]; exact hK
    · refine LpE_inv (fun s' => s'.2.2 = σ2 ∧ ∃ k, 1 ≤ k ∧ k ≤ 7 ∧ s'.2.1 = nI k ∧ s'.1 = nI (cnt W (71 + 6 * d + k))) (fun s' => 10 - ix s'.2.1) ?_ _ ⟨rfl, 1, by omega, by omega, rfl, by show nI (cnt W (72 + 6 * d)) = nI (cnt W (71 + 6 * d + 1)); rw [show 72 + 6 * d = 71 + 6 * d + 1 by omega]⟩
      intro s3 c3 hI3 hc3
      obtain ⟨u1, u4, σ3⟩ := s3
      obtain ⟨e1, k, k1, k2, e2, e3⟩ := hI3
      dsimp only at e1 e2 e3
      subst e1 e2 e3
      dsimp only
      unfold F_X6_countNonZero_58
      have hcl := cnt_le W (71 + 6 * d + k)
      rw [show (6 : Int32) = nI 6 from rfl, nI_ltI (by decide) (by omega)]
      refine ⟨fun q3 v1 e1 => ?_, fun q3 => ⟨vp_in_nI (by omega) (by decide), vp_in_nI (by omega) (by decide), ?_⟩⟩
      · rw [nI_1] at e1
        subst e1
        refine hc2 _ ⟨rfl, d + 1, by omega, rfl, ?_⟩ ?_
        · show nI _ = nI _
          rw [show 71 + 6 * d + k = 72 + 6 * (d + 1) by omega]
        · show 10 - ix (nI (d + 1)) < 10 - ix (nI d)
          rw [ix_nI (by omega), ix_nI (by omega)]; omega
      · rw [ix_nI (by omega), ix_nI (by omega)]
        have e : σ3.1 (b + 11 + 1 + d) k = W (71 + 6 * d + k) := r.2 d (by omega) k k1 (by omega)
        rw [e]
        have hdec : 10 - ix (nI (k + 1)) < 10 - ix (nI k) := by rw [ix_nI (by omega), ix_nI (by omega)]; omega
        refine ⟨fun z v4 e4 v5 e5 => ?_, fun z v6 e6 v7 e7 => ?_⟩
        · rw [Int32.add_zero] at e4
          rw [nI_1] at e5
          subst e4 e5
          refine hc3 _ ⟨rfl, k + 1, by omega, by omega, rfl, ?_⟩ hdec
          show nI _ = nI (cnt W (71 + 6 * d + k + 1))
          rw [cnt, if_pos z]; rfl
        · rw [nI_1] at e6 e7
          subst e6 e7
          refine hc3 _ ⟨rfl, k + 1, by omega, by omega, rfl, ?_⟩ hdec
          show nI _ = nI (cnt W (71 + 6 * d + k + 1))
          rw [cnt, if_neg z]
  · refine LpE_inv (fun s' => s'.2.2 = σ' ∧ ∃ w, w ≤ 8 ∧ s'.2.1 = nI w ∧ s'.1 = nI (cnt W (8 * h + w))) (fun s' => 10 - ix s'.2.1) ?_ _ ⟨rfl, 0, by omega, rfl, rfl⟩
    intro s3 c3 hI3 hc3
    obtain ⟨u1, u4, σ3⟩ := s3
    obtain ⟨e1, k, k2, e2, e3⟩ := hI3
    dsimp only at e1 e2 e3
    subst e1 e2 e3
    dsimp only
    unfold F_X6_countNonZero_12
    have hcl := cnt_le W (8 * h + k)
    rw [show (8 : Int32) = nI 8 from rfl, nI_leI (by decide) (by omega)]
    refine ⟨fun q3 v1 e1 => ?_, fun q3 => ⟨vp_in_nI (by omega) (by decide), vp_in_nI (by omega) (by decide), ?_⟩⟩
    · rw [nI_1] at e1
      subst e1
      refine hc _ ⟨rfl, h + 1, by omega, rfl, ?_⟩ ?_
      · show nI _ = nI _
        rw [show 8 * h + k = 8 * (h + 1) by omega]
      · show 10 - ix (nI (h + 1)) < 10 - ix (nI h)
        rw [ix_nI (by omega), ix_nI (by omega)]; omega
    · rw [ix_nI (by omega), ix_nI (by omega)]
      have e : σ3.1 (b + 1 + 1 + h) k = W (8 * h + k) := r.1 h (by omega) k (by omega)
      rw [e]
      have hdec : 10 - ix (nI (k + 1)) < 10 - ix (nI k) := by rw [ix_nI (by omega), ix_nI (by omega)]; omega
      refine ⟨fun z v4 e4 v5 e5 => ?_, fun z v6 e6 v7 e7 => ?_⟩
      · rw [Int32.add_zero] at e4
        rw [nI_1] at e5
        subst e4 e5
        refine hc3 _ ⟨rfl, k + 1, by omega, rfl, ?_⟩ hdec
        show nI _ = nI (cnt W (8 * h + k + 1))
        rw [cnt, if_pos z]; rfl
      · rw [nI_1] at e6 e7
        subst e6 e7
        refine hc3 _ ⟨rfl, k + 1, by omega, rfl, ?_⟩ hdec
        show nI _ = nI (cnt W (8 * h + k + 1))
        rw [cnt, if_neg z]
theorem used_M {W : Nat → Int32} (r : ∀ k, k < 84 → σ.1 211 k = W k) (hK : K (nI (cnt W 84)) σ) : P_X8_used σ K := by
  unfold P_X8_used
  refine LpE_inv (fun s' => s'.2.2 = σ ∧ ∃ k, k ≤ 84 ∧ s'.2.1 = nI k ∧ s'.1 = nI (cnt W k)) (fun s' => 90 - ix s'.2.1) ?_ _ ⟨rfl, 0, by omega, rfl, rfl⟩
  intro s' c hI hc
  obtain ⟨u1, u2, σ'⟩ := s'
  obtain ⟨e1, k, hk, e2, e3⟩ := hI
  dsimp only at e1 e2 e3
  subst e1 e2 e3
  dsimp only
  unfold F_X8_used_4
  have hcl := cnt_le W k
  rw [show (84 : Int32) = nI 84 from rfl, nI_leI (by decide) (by omega)]
  refine ⟨fun q => ?_, fun q => ⟨vp_in_nI (by omega) (by decide), ?_⟩⟩
  · rw [show k = 84 by omega]; exact hK
  · rw [ix_nI (by omega), r k (by omega)]
    have hdec : 90 - ix (nI (k + 1)) < 90 - ix (nI k) := by rw [ix_nI (by omega), ix_nI (by omega)]; omega
    refine ⟨fun z v4 e4 v5 e5 => ?_, fun z v6 e6 v7 e7 => ?_⟩
    · rw [Int32.add_zero] at e4
      rw [nI_1] at e5
      subst e4 e5
      refine hc _ ⟨rfl, k + 1, by omega, rfl, ?_⟩ hdec
      show nI _ = nI (cnt W (k + 1))
      rw [cnt, if_pos z]; rfl
    · rw [nI_1] at e6 e7
      subst e6 e7
      refine hc _ ⟨rfl, k + 1, by omega, rfl, ?_⟩ hdec
      show nI _ = nI (cnt W (k + 1))
      rw [cnt, if_neg z]
theorem copy_C {K : St → Prop} {a b : Nat} {W : Nat → Int32} (hab : a + 14 ≤ b ∨ b + 14 ≤ a) (r : RW σ b W) (hK : ∀ σ', RW σ' a W → (∀ k, k < a + 2 ∨ a + 14 ≤ k → σ'.1 k = σ.1 k) → σ'.2 = σ.2 → K σ') : P_X6_copyFrom a b σ K := by
  unfold P_X6_copyFrom
  refine LpE_inv (fun s' => ∃ h, h ≤ 9 ∧ s'.1 = nI h ∧ s'.2.2 = σ.2 ∧ (∀ k, k < a + 2 ∨ a + 14 ≤ k → s'.2.1 k = σ.1 k) ∧ ∀ p, p < h → ∀ w, w < 8 → s'.2.1 (a + 2 + p) w = W (8 * p + w)) (fun s' => 10 - ix s'.1) ?_ _ ⟨0, by omega, rfl, rfl, fun k _ => rfl, fun p hp => absurd hp (Nat.not_lt_zero _)⟩
  intro s' c hI hc
  obtain ⟨u2, σ'⟩ := s'
  obtain ⟨h, hh, e1, e2, e3, e4⟩ := hI
  dsimp only at e1 e2 e3 e4
  subst e1
  dsimp only
  unfold F_X6_copyFrom_2
  rw [show (8 : Int32) = nI 8 from rfl, nI_ltI (by decide) (by omega)]
  refine ⟨fun q => ?_, fun q => ⟨vp_in_nI (by omega) (by decide), vp_in_nI (by omega) (by decide), fun s7 e7 v8 e8 => ?_⟩⟩
  · refine LpE_inv (fun s' => ∃ d, d ≤ 2 ∧ s'.1 = nI d ∧ s'.2.2 = σ.2 ∧ (∀ k, k < a + 2 ∨ a + 14 ≤ k → s'.2.1 k = σ.1 k) ∧ (∀ p, p < 9 → ∀ w, w < 8 → s'.2.1 (a + 2 + p) w = W (8 * p + w)) ∧ ∀ p, p < d → ∀ k, 1 ≤ k → k ≤ 6 → s'.2.1 (a + 12 + p) k = W (71 + 6 * p + k)) (fun s' => 10 - ix s'.1) ?_ _ ⟨0, by omega, rfl, e2, e3, fun p hp w hw => e4 p (by omega) w hw, fun p hp => absurd hp (Nat.not_lt_zero _)⟩
    intro s2 c2 hI2 hc2
    obtain ⟨u3, σ2⟩ := s2
    obtain ⟨d, hd, e1, f2, f3, f4, f5⟩ := hI2
    dsimp only at e1 f2 f3 f4 f5
    subst e1
    dsimp only
    unfold F_X6_copyFrom_35
    rw [show (2 : Int32) = nI 2 from rfl, nI_leI (by decide) (by omega)]
    refine ⟨fun q2 => ?_, fun q2 => ⟨vp_in_nI (by omega) (by decide), vp_in_nI (by omega) (by decide), fun s3 g3 v4 g4 => ?_⟩⟩
    · exact hK σ2 ⟨f4, fun p hp k k1 k2 => f5 p (by omega) k k1 k2⟩ f3 f2
    · rw [ix_nI (by omega)] at g3
      rw [nI_1] at g4
      subst g3 g4
      refine hc2 _ ⟨d + 1, by omega, rfl, f2, fun k hk => ?_, fun p hp w hw => ?_, fun p hp k k1 k2 => ?_⟩ ?_
      · rw [← f3 k hk]
        funext j
        show (if k = a + 11 + 1 + d ∧ j < 7 then _ else σ2.1 k j) = _
        rw [if_neg (fun z => by omega)]
      · show (if a + 2 + p = a + 11 + 1 + d ∧ w < 7 then _ else σ2.1 (a + 2 + p) w) = _
        rw [if_neg (fun z => by omega)]; exact f4 p hp w hw
      · show (if a + 12 + p = a + 11 + 1 + d ∧ k < 7 then σ2.1 (b + 11 + 1 + d) k else σ2.1 (a + 12 + p) k) = _
        by_cases e : p = d
        · rw [if_pos ⟨by omega, by omega⟩, f3 _ (by omega), e]
          exact r.2 d (by omega) k k1 k2
        · rw [if_neg (fun z => by omega)]; exact f5 p (by omega) k k1 k2
      · show 10 - ix (nI (d + 1)) < 10 - ix (nI d)
        rw [ix_nI (by omega), ix_nI (by omega)]; omega
  · rw [ix_nI (by omega)] at e7
    rw [nI_1] at e8
    subst e7 e8
    refine hc _ ⟨h + 1, by omega, rfl, e2, fun k hk => ?_, fun p hp w hw => ?_⟩ ?_
    · rw [← e3 k hk]
      funext j
      show (if k = a + 1 + 1 + h ∧ j < 8 then _ else σ'.1 k j) = _
      rw [if_neg (fun z => by omega)]
    · show (if a + 2 + p = a + 1 + 1 + h ∧ w < 8 then σ'.1 (b + 1 + 1 + h) w else σ'.1 (a + 2 + p) w) = _
      by_cases e : p = h
      · rw [if_pos ⟨by omega, hw⟩, e3 _ (by omega), e]
        exact r.1 h (by omega) w hw
      · rw [if_neg (fun z => by omega)]; exact e4 p (by omega) w hw
    · show 10 - ix (nI (h + 1)) < 10 - ix (nI h)
      rw [ix_nI (by omega), ix_nI (by omega)]; omega
end OPD
/-! slots -/
def inK (j : Nat) (v : Int32 × (Nat → Int32)) (s : AS) : AS := (s.1, s.2.1, s.2.2.1, u1 (aK s) j v, s.2.2.2.2)
theorem RC_slot {σ σ' : St} {s : AS} {j : Nat} {W : Nat → Int32} (h : RC σ s) (hj : j < 2) (hf : ∀ k, dC k → k ≠ 124 → (k < 96 + 14 * j + 2 ∨ 96 + 14 * j + 14 ≤ k) → σ'.1 k = σ.1 k) (h2 : σ'.2.2 = σ.2.2) (hu : ∀ i, i < 2 → σ'.1 124 i = if i = j then 1 else σ.1 124 i) (hW : RW σ' (96 + 14 * j) W) : RC σ' (inK j (1, W) s) := by
  have hm := h.m4
  obtain ⟨⟨h1, h1'⟩, h3, ⟨h4, h5, h6⟩, ⟨h7, h8⟩, h9, h10, h11, h12, h13⟩ := h
  rw [RC, h2]
  have hRS : ∀ a x, sOk a → RS σ a x → RS σ' a x := fun a x ha r => by
    have := s_rng ha
    obtain ⟨r1, r2, r3⟩ := r
    refine ⟨by rw [hf a ⟨by omega, by omega⟩ (by omega) (by omega)]; exact r1, fun w w1 w2 => ?_, fun p p1 w w1 => ?_⟩
    · rw [hf _ ⟨by omega, by omega⟩ (by omega) (by omega), hf _ ⟨by omega, by omega⟩ (by omega) (by omega)]; exact r2 w w1 w2
    · rw [hf _ ⟨by omega, by omega⟩ (by omega) (by omega), hf _ ⟨by omega, by omega⟩ (by omega) (by omega)]; exact r3 p p1 w w1
  have hRW : ∀ a W, 4 ≤ a → a ≤ 110 → (a + 14 ≤ 96 + 14 * j + 2 ∨ 96 + 14 * j + 12 ≤ a) → RW σ a W → RW σ' a W := fun a W ha1 ha2 hd r => by
    obtain ⟨r1, r2⟩ := r
    refine ⟨fun p p1 q q1 => ?_, fun p p1 q q1 q2 => ?_⟩
    · rw [hf _ ⟨by omega, by omega⟩ (by omega) (by omega)]; exact r1 p p1 q q1
    · rw [hf _ ⟨by omega, by omega⟩ (by omega) (by omega)]; exact r2 p p1 q q1 q2
  refine ⟨⟨by rw [hf 1 (by decide) (by decide) (by omega)]; exact h1, fun i hi => by rw [hf 2 (by decide) (by decide) (by omega)]; exact h1' i hi⟩, ⟨by rw [hf 0 (by decide) (by decide) (by omega)]; exact h3.1, h3.2⟩, ⟨h4, h5, fun i hi => ?_⟩, ⟨fun i hi => hRS _ _ (h4 i (by have : i < aM s := hi; omega)) (h7 i hi), fun i hi hi4 => ?_⟩, hRW 81 _ (by decide) (by decide) (by omega) h9, fun i hi => ?_, by rw [hf 125 (by decide) (by decide) (by omega)]; exact h11, by rw [hf 125 (by decide) (by decide) (by omega)]; exact h12, by rw [hf 125 (by decide) (by decide) (by omega)]; exact h13⟩
  · have := s_rng (h4 i hi)
    rw [hf _ ⟨by omega, by omega⟩ (by omega) (by omega)]; exact h6 i hi
  · have := s_rng (h4 i hi4)
    obtain ⟨r1, r3⟩ := h8 i hi hi4
    refine ⟨by rw [hf _ ⟨by omega, by omega⟩ (by omega) (by omega)]; exact r1, fun p p1 w w1 => ?_⟩
    rw [hf _ ⟨by omega, by omega⟩ (by omega) (by omega), hf _ ⟨by omega, by omega⟩ (by omega) (by omega)]; exact r3 p p1 w w1
  · show σ'.1 124 i = (u1 (aK s) j (1, W) i).1 ∧ RW σ' (96 + 14 * i) (u1 (aK s) j (1, W) i).2
    rw [hu i hi, u1]
    by_cases e : i = j
    · rw [if_pos e, if_pos e, e]; exact ⟨rfl, hW⟩
    · rw [if_neg e, if_neg e]; exact ⟨(h10 i hi).1, hRW _ _ (by omega) (by omega) (by omega) (h10 i hi).2⟩
def an_save (s : AS) (p : Int32) : Int32 := match idx p 2 with
  | none => BADI
  | some _ => nI (cnt (aW s) 84)
def nx_save (s : AS) (p : Int32) : AS := match idx p 2 with
  | none => s
  | some j => inK j (1, aW s) s
def an_restore (s : AS) (p : Int32) : Int32 := match idx p 2 with
  | none => BADI
  | some j => if (aK s j).1 = 0 then NONEV else nI (cnt (aK s j).2 84)
def nx_restore (s : AS) (p : Int32) : AS := match idx p 2 with
  | none => s
  | some j => if (aK s j).1 = 0 then s else inW (fun _ => (aK s j).2) s
section OPE
variable {σ : St} {s : AS} {K : Int32 → St → Prop}
theorem slot_C {p : Int32} (h0 : idx p 2 = none → K BADI σ) {Q : Prop} (h1 : ∀ j, j < 2 → p = nI j → idx p 2 = some j → Q) : (p < 0 → K BADI σ) ∧ (¬ p < 0 → (p < 2 → Q) ∧ (¬ p < 2 → K BADI σ)) := by
  rcases idx_cases p (m := 2) (by decide) with ⟨hi, hc⟩ | ⟨j, hj, hp, hi⟩
  · refine ⟨fun _ => h0 hi, fun c => ⟨fun c2 => ?_, fun _ => h0 hi⟩⟩
    rcases hc with hc | ⟨-, hc⟩
    · exact absurd hc c
    · exact absurd c2 (Int32.not_lt.mpr hc)
  · refine ⟨fun c => ?_, fun _ => ⟨fun _ => h1 j hj hp hi, fun c => ?_⟩⟩
    · rw [hp] at c; exact absurd c (nI_pos (by omega))
    · rw [hp] at c; exact absurd (nI_lt (b := 2) hj (by decide)) c
theorem c_save {p : Int32} (h : RC σ s) (hK : ∀ σ', RC σ' (nx_save s p) → frM σ σ' → K (an_save s p) σ') : P_X7_save p σ K := by
  unfold P_X7_save
  dsimp only [nx_save, an_save] at hK
  refine slot_C (fun hi => ?_) (fun j hj hp hi => ?_)
  · rw [hi] at hK; exact hK σ h frM.rf
  · rw [hi] at hK
    dsimp only at hK
    subst hp
    have hv : vp_in (nI j) 2 := vp_in_nI hj (by decide)
    refine ⟨hv, ?_⟩
    rw [ix_nI (by omega)]
    refine copy_C (by omega) h.wts (fun σ1 r1 r2 r3 => ⟨hv, fun s4 e4 => ?_⟩)
    have hRW : RW s4 81 (aW s) := by
      rw [e4]
      refine RW_far (by omega) ?_
      obtain ⟨q1, q2⟩ := h.wts
      refine ⟨fun a a1 w w1 => by rw [r2 _ (by omega)]; exact q1 a a1 w w1, fun a a1 w w1 w2 => by rw [r2 _ (by omega)]; exact q2 a a1 w w1 w2⟩
    refine count_C hRW (hK _ ?_ ?_)
    · refine RC_slot h hj (fun k hk hk2 hk3 => ?_) (by rw [e4, wI_2, r3]) (fun i hi => ?_) ?_
      · rw [e4, wI_ne hk2, r2 k hk3]
      · rw [e4]
        show (if 124 = 124 ∧ i = j then 1 else σ1.1 124 i) = _
        rw [r2 124 (by omega)]
        by_cases e : i = j
        · rw [if_pos ⟨rfl, e⟩, if_pos e]
        · rw [if_neg (fun z => e z.2), if_neg e]
      · rw [e4]; exact RW_far (by omega) r1
    · intro k hk
      rw [e4, wI_ne (by omega), wI_2, r3, r2 k (by omega)]
      exact ⟨rfl, rfl⟩
theorem c_restore {p : Int32} (h : RC σ s) (hK : ∀ σ', RC σ' (nx_restore s p) → frM σ σ' → K (an_restore s p) σ') : P_X7_restore p σ K := by
  unfold P_X7_restore
  dsimp only [nx_restore, an_restore] at hK
  refine slot_C (fun hi => ?_) (fun j hj hp hi => ?_)
  · rw [hi] at hK; exact hK σ h frM.rf
  · rw [hi] at hK
    dsimp only at hK
    subst hp
    have hv : vp_in (nI j) 2 := vp_in_nI hj (by decide)
    refine ⟨hv, ?_⟩
    rw [ix_nI (by omega), (h.slot hj).1]
    refine ⟨fun c => ?_, fun c => ⟨hv, ?_⟩⟩
    · rw [if_pos c, if_pos c] at hK; exact hK σ h frM.rf
    · rw [if_neg c, if_neg c] at hK
      refine copy_C (by omega) (h.slot hj).2 (fun σ1 r1 r2 r3 => ?_)
      refine count_C r1 (hK _ (RC_wts' h (fun k hk hk2 => r2 k (by omega)) (by rw [r3]) r1) (fun k hk => ⟨r2 k (by omega), by rw [r3]⟩))
end OPE
