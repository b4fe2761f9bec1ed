/-! remove -/
def rmS (j m i : Nat) : Nat := if i < j then i else if i + 1 < m then i + 1 else if i + 1 = m then j else i
def an_remove (s : AS) (p : Int32) : Int32 := match idx p (aM s) with
  | none => BADI
  | some _ => nI (aM s - 1)
def nx_remove (s : AS) (p : Int32) : AS := match idx p (aM s) with
  | none => s
  | some j => (s.1, (aM s - 1, fun i => aS s (rmS j (aM s) i)), s.2.2)
section RMV
variable {σ : St} {s : AS}
theorem blank_C {K : St → Prop} {b : Nat} (hK : ∀ σ', σ'.2 = σ.2 → (∀ k, k < b ∨ b + 19 ≤ k ∨ k = b + 1 ∨ k = b + 2 → σ'.1 k = σ.1 k) → RB σ' b → K σ') : P_X0_blank b σ K := by
  unfold P_X0_blank
  intro s1 e1
  refine LpE_inv (fun s' => ∃ h, h ≤ 7 ∧ s'.1 = nI h ∧ s'.2.2 = σ.2 ∧ (∀ k, k < b ∨ b + 19 ≤ k ∨ k = b + 1 ∨ k = b + 2 → s'.2.1 k = σ.1 k) ∧ s'.2.1 b 0 = 0 ∧ ∀ p, p < h → ∀ w, w < 7 → s'.2.1 (b + 4 + p) w = 0 ∧ s'.2.1 (b + 12 + p) w = 0) (fun s' => 9 - ix s'.1) ?_ _ ⟨0, by omega, rfl, by show s1.2 = σ.2; rw [e1, wI_2], fun k hk => by show s1.1 k = σ.1 k; rw [e1, wI_ne (by omega)], by show s1.1 b 0 = 0; rw [e1]; exact wI_self, fun p hp => absurd hp (Nat.not_lt_zero _)⟩
  intro s' c hI hc
  obtain ⟨u1, σ'⟩ := s'
  obtain ⟨h, hh, f1, f2, f3, f4, f5⟩ := hI
  dsimp only at f1 f2 f3 f4 f5
  subst f1
  dsimp only
  unfold F_X0_blank_7
  rw [show (7 : Int32) = nI 7 from rfl, nI_leI (by decide) (by omega)]
  refine ⟨fun q => hK σ' f2 f3 ⟨f4, fun p hp w hw => f5 p (by omega) w hw⟩, fun q => ?_⟩
  refine LpE_inv (fun s' => ∃ w, w ≤ 7 ∧ s'.1 = nI w ∧ s'.2.2 = σ.2 ∧ (∀ k, k < b ∨ b + 19 ≤ k ∨ k = b + 1 ∨ k = b + 2 → s'.2.1 k = σ.1 k) ∧ s'.2.1 b 0 = 0 ∧ (∀ p, p < h → ∀ w, w < 7 → s'.2.1 (b + 4 + p) w = 0 ∧ s'.2.1 (b + 12 + p) w = 0) ∧ ∀ z, z < w → s'.2.1 (b + 4 + h) z = 0 ∧ s'.2.1 (b + 12 + h) z = 0) (fun s' => 9 - ix s'.1) ?_ _ ⟨0, by omega, rfl, f2, f3, f4, f5, fun z hz => absurd hz (Nat.not_lt_zero _)⟩
  intro s2 c2 hI2 hc2
  obtain ⟨u2, σ2⟩ := s2
  obtain ⟨w, hw, g1, g2, g3, g4, g5, g6⟩ := hI2
  dsimp only at g1 g2 g3 g4 g5 g6
  subst g1
  dsimp only
  unfold F_X0_blank_15
  rw [show (7 : Int32) = nI 7 from rfl, nI_leI (by decide) (by omega)]
  have hv : vp_in (nI h) 7 := vp_in_nI (by omega) (by decide)
  refine ⟨fun q2 v2 e2 => ?_, fun q2 => ⟨hv, vp_in_nI (by omega) (by decide), fun s5 e5 => ⟨hv, vp_in_nI (by omega) (by decide), fun s8 e8 v9 e9 => ?_⟩⟩⟩
  · rw [nI_1] at e2
    subst e2
    refine hc _ ⟨h + 1, by omega, rfl, g2, g3, g4, fun p hp z hz => ?_⟩ ?_
    · rcases Nat.lt_or_ge p h with q3 | q3
      · exact g5 p q3 z hz
      · rw [show p = h by omega]; exact g6 z (by omega)
    · show 9 - ix (nI (h + 1)) < 9 - ix (nI h)
      rw [ix_nI (by omega), ix_nI (by omega)]; omega
  · rw [ix_nI (by omega), ix_nI (by omega)] at e5 e8
    rw [nI_1] at e9
    subst e5 e8 e9
    have hval : ∀ k z, (wI (wI σ2 (b + 3 + 1 + h) w 0) (b + 11 + 1 + h) w 0).1 k z = if (k = b + 4 + h ∨ k = b + 12 + h) ∧ z = w then 0 else σ2.1 k z := by
      intro k z
      show (if k = b + 11 + 1 + h ∧ z = w then 0 else if k = b + 3 + 1 + h ∧ z = w then 0 else σ2.1 k z) = _
      by_cases e1 : k = b + 12 + h ∧ z = w
      · rw [if_pos ⟨by omega, e1.2⟩, if_pos ⟨Or.inr e1.1, e1.2⟩]
      · rw [if_neg (fun y => e1 ⟨by omega, y.2⟩)]
        by_cases e2 : k = b + 4 + h ∧ z = w
        · rw [if_pos ⟨by omega, e2.2⟩, if_pos ⟨Or.inl e2.1, e2.2⟩]
        · rw [if_neg (fun y => e2 ⟨by omega, y.2⟩), if_neg (fun y => y.1.elim (fun y1 => e2 ⟨y1, y.2⟩) (fun y1 => e1 ⟨y1, y.2⟩))]
    have zer : ∀ k z, σ2.1 k z = 0 → (wI (wI σ2 (b + 3 + 1 + h) w 0) (b + 11 + 1 + h) w 0).1 k z = 0 := by
      intro k z hz
      rw [hval]
      split
      · rfl
      · exact hz
    refine hc2 _ ⟨w + 1, by omega, rfl, g2, fun k hk => ?_, zer _ _ g4, fun p hp z hz => ⟨zer _ _ (g5 p hp z hz).1, zer _ _ (g5 p hp z hz).2⟩, fun z hz => ?_⟩ ?_
    · rw [← g3 k hk]
      funext z
      show (wI (wI σ2 (b + 3 + 1 + h) w 0) (b + 11 + 1 + h) w 0).1 k z = _
      rw [hval, if_neg (fun y => by omega)]
    · show (wI (wI σ2 (b + 3 + 1 + h) w 0) (b + 11 + 1 + h) w 0).1 (b + 4 + h) z = 0 ∧ (wI (wI σ2 (b + 3 + 1 + h) w 0) (b + 11 + 1 + h) w 0).1 (b + 12 + h) z = 0
      rcases Nat.lt_or_ge z w with q3 | q3
      · exact ⟨zer _ _ (g6 z q3).1, zer _ _ (g6 z q3).2⟩
      · rw [hval, hval, if_pos ⟨Or.inl rfl, by omega⟩, if_pos ⟨Or.inr rfl, by omega⟩]; exact ⟨rfl, rfl⟩
    · show 9 - ix (nI (w + 1)) < 9 - ix (nI w)
      rw [ix_nI (by omega), ix_nI (by omega)]; omega
theorem RC_remove {σ' : St} {j : Nat} (h : RC σ s) (hj : j < aM s) (h0 : σ'.1 0 2 = nI (aM s - 1)) (hsp : ∀ i, i < 4 → σ'.2.2 i = σ.2.2 (rmS j (aM s) i)) (hb : RB σ' (σ.2.2 j)) (hf : ∀ k, dC k → k ≠ 0 → (k < σ.2.2 j ∨ σ.2.2 j + 19 ≤ k ∨ k = σ.2.2 j + 1 ∨ k = σ.2.2 j + 2) → σ'.1 k = σ.1 k) : RC σ' (s.1, (aM s - 1, fun i => aS s (rmS j (aM s) i)), s.2.2) := by
  have hm := h.m4
  have hj4 : j < 4 := by omega
  have hsj := h.sok hj4
  have hrj := s_rng hsj
  have hr4 : ∀ i, i < 4 → rmS j (aM s) i < 4 := fun i hi => by unfold rmS; split <;> (try split) <;> (try split) <;> omega
  have hrinj : ∀ i, i < 4 → ∀ k, k < 4 → rmS j (aM s) i = rmS j (aM s) k → i = k := fun i hi k hk e => by
    unfold rmS at e
    split at e <;> (try split at e) <;> (try split at e) <;> (try split at e) <;> (try split at e) <;> (try split at e) <;> omega
  have hsep : ∀ q, q < 4 → q ≠ j → σ.2.2 q + 19 ≤ σ.2.2 j ∨ σ.2.2 j + 19 ≤ σ.2.2 q := fun q hq hne => s_sep (h.sok hq) hsj (fun e => hne (h.sinj hq hj4 e))
  have hRS : ∀ q x, q < 4 → q ≠ j → RS σ (σ.2.2 q) x → RS σ' (σ.2.2 q) x := fun q x hq hne r => by
    have h1 := s_rng (h.sok hq)
    have h2 := hsep q hq hne
    obtain ⟨r1, r2, r3⟩ := r
    refine ⟨by rw [hf _ ⟨by omega, by omega⟩ (by omega) (by omega)]; exact r1, fun w w1 w2 => ?_, fun p p1 w w1 => ?_⟩
    · rw [hf _ ⟨by omega, by omega⟩ (by omega) (by omega), hf _ ⟨by omega, by omega⟩ (by omega) (by omega)]; exact r2 w w1 w2
    · rw [hf _ ⟨by omega, by omega⟩ (by omega) (by omega), hf _ ⟨by omega, by omega⟩ (by omega) (by omega)]; exact r3 p p1 w w1
  have hRW : ∀ a W, 80 ≤ a → a ≤ 110 → RW σ a W → RW σ' a W := fun a W ha1 ha2 r => by
    obtain ⟨r1, r2⟩ := r
    refine ⟨fun p p1 q q1 => ?_, fun p p1 q q1 q2 => ?_⟩
    · rw [hf _ ⟨by omega, by omega⟩ (by omega) (by omega)]; exact r1 p p1 q q1
    · rw [hf _ ⟨by omega, by omega⟩ (by omega) (by omega)]; exact r2 p p1 q q1 q2
  refine ⟨⟨by rw [hf 1 (by decide) (by decide) (by omega)]; exact h.1.1, fun i hi => by rw [hf 2 (by decide) (by decide) (by omega)]; exact h.1.2 i hi⟩, ⟨h0, by show aM s - 1 ≤ 4; omega⟩, ⟨fun i hi => by rw [hsp i hi]; exact h.sok (hr4 i hi), fun i hi k hk e => ?_, fun i hi => ?_⟩, ⟨fun i hi => ?_, fun i hi hi4 => ?_⟩, hRW 81 _ (by decide) (by decide) h.wts, fun i hi => ⟨by rw [hf 124 (by decide) (by decide) (by omega)]; exact (h.slot hi).1, hRW _ _ (by omega) (by omega) (h.slot hi).2⟩, by rw [hf 125 (by decide) (by decide) (by omega)]; exact h.g1, by rw [hf 125 (by decide) (by decide) (by omega)]; exact h.g2, by rw [hf 125 (by decide) (by decide) (by omega)]; exact h.g3⟩
  · rw [hsp i hi, hsp k hk] at e
    exact hrinj i hi k hk (h.sinj (hr4 i hi) (hr4 k hk) e)
  · rw [hsp i hi]
    have h1 := s_rng (h.sok (hr4 i hi))
    by_cases e : rmS j (aM s) i = j
    · rw [e, hf _ ⟨by omega, by omega⟩ (by omega) (by omega)]; exact h.root hj4
    · have h2 := hsep _ (hr4 i hi) e
      rw [hf _ ⟨by omega, by omega⟩ (by omega) (by omega)]; exact h.root (hr4 i hi)
  · have hi' : i < aM s - 1 := hi
    have hri : rmS j (aM s) i < aM s ∧ rmS j (aM s) i ≠ j := by unfold rmS; split <;> (try split) <;> (try split) <;> omega
    rw [hsp i (by omega)]
    exact hRS _ _ (hr4 i (by omega)) hri.2 (h.sent hri.1)
  · have hi' : aM s - 1 ≤ i := hi
    rw [hsp i hi4]
    by_cases e : i + 1 = aM s
    · have : rmS j (aM s) i = j := by unfold rmS; rw [if_neg (by omega), if_neg (by omega), if_pos e]
      rw [this]; exact hb
    · have hri : rmS j (aM s) i = i := by unfold rmS; rw [if_neg (by omega), if_neg (by omega), if_neg e]
      rw [hri]
      obtain ⟨r1, r3⟩ := h.blank (i := i) (by omega) hi4
      have h1 := s_rng (h.sok hi4)
      have h2 := hsep i hi4 (by omega)
      refine ⟨by rw [hf _ ⟨by omega, by omega⟩ (by omega) (by omega)]; exact r1, fun p p1 w w1 => ?_⟩
      rw [hf _ ⟨by omega, by omega⟩ (by omega) (by omega), hf _ ⟨by omega, by omega⟩ (by omega) (by omega)]; exact r3 p p1 w w1
theorem c_remove {p : Int32} {K : Int32 → St → Prop} (h : RC σ s) (hK : ∀ σ', RC σ' (nx_remove s p) → frM σ σ' → K (an_remove s p) σ') : P_X7_remove p σ K := by
  unfold P_X7_remove
  have hm := h.m4
  refine find_C h (fun hi => ⟨fun _ => ?_, fun b e => by cases e⟩) (fun j hj hp hi => ⟨fun e => (by cases e), fun b e => ?_⟩)
  · rw [an_remove, nx_remove, hi] at hK; exact hK σ h frM.rf
  · cases e
    rw [an_remove, nx_remove, hi] at hK
    dsimp only at hK
    subst hp
    have hso := h.sok (i := j) (by omega)
    have hrg := s_rng hso
    refine ⟨hso, fun s4 e4 => ?_⟩
    rw [h.cnt, show nI (aM s) - 1 = nI (aM s - 1) from pk_sub (b := 1) (by omega)] at e4
    refine LpE_inv (fun s' => ∃ i, j ≤ i ∧ i + 1 ≤ aM s ∧ s'.1 = nI i ∧ s'.2.1 = s4.1 ∧ s'.2.2.1 = s4.2.1 ∧ ∀ q, s'.2.2.2 q = if j ≤ q ∧ q < i then σ.2.2 (q + 1) else σ.2.2 q) (fun s' => 9 - ix s'.1) ?_ _ ⟨j, by omega, by omega, rfl, rfl, rfl, fun q => by rw [if_neg (by omega)]; show s4.2.2 q = σ.2.2 q; rw [e4, wI_2]⟩
    intro s' c hI hc
    obtain ⟨u3, σ'⟩ := s'
    obtain ⟨i, i1, i2, f1, f2, f3, f4⟩ := hI
    dsimp only at f1 f2 f3 f4
    subst f1
    dsimp only
    unfold F_X7_remove_25
    have hcnt : σ'.1 0 2 = nI (aM s - 1) := by rw [f2, e4]; exact wI_self
    rw [hcnt, nI_leI (by omega) (by omega)]
    refine ⟨fun q => ?_, fun q => ?_⟩
    · have him : i + 1 = aM s := by omega
      refine blank_C (fun σ2 g1 g2 g3 => ?_)
      have hc2 : σ2.1 0 2 = nI (aM s - 1) := by rw [g2 0 (by omega)]; exact hcnt
      rw [hc2]
      refine ⟨vp_in_nI (by omega) (by decide), fun s7 e7 => ?_⟩
      rw [ix_nI (by omega)] at e7
      have hs71 : s7.1 = σ2.1 := by rw [e7]; rfl
      rw [hs71, hc2]
      refine hK _ ?_ ?_
      · refine RC_remove h hj (by rw [hs71]; exact hc2) (fun q hq => ?_) ?_ (fun k hk hk0 hk2 => ?_)
        · rw [e7]
          show (if q = aM s - 1 then σ.2.2 j else σ2.2.2 q) = _
          rw [g1, f4 q]
          unfold rmS
          by_cases q1 : q < j
          · rw [if_neg (by omega), if_neg (by omega), if_pos q1]
          · by_cases q2 : q + 1 < aM s
            · rw [if_neg (by omega), if_pos ⟨by omega, by omega⟩, if_neg q1, if_pos q2]
            · by_cases q3 : q + 1 = aM s
              · rw [if_pos (by omega), if_neg q1, if_neg q2, if_pos q3]
              · rw [if_neg (by omega), if_neg (by omega), if_neg q1, if_neg q2, if_neg q3]
        · obtain ⟨r1, r2⟩ := g3
          exact ⟨by rw [hs71]; exact r1, fun p hp w hw => by rw [hs71]; exact r2 p hp w hw⟩
        · rw [hs71, g2 k hk2, f2, e4, wI_ne hk0]
      · intro k hk
        rw [hs71, g2 k (by omega), f2, e4, wI_ne (by omega)]
        refine ⟨rfl, ?_⟩
        rw [e7]
        show σ2.2.1 k = _
        rw [g1, f3, e4]; rfl
    · rw [nI_1]
      refine ⟨vp_in_nI (by omega) (by decide), ?_, vp_in_nI (by omega) (by decide), fun s11 e11 v12 e12 => ?_⟩
      · rw [ix_nI (by omega), f4, if_neg (by omega)]; exact h.sok (by omega)
      · rw [ix_nI (by omega), ix_nI (by omega)] at e11
        subst e11 e12
        refine hc _ ⟨i + 1, by omega, by omega, rfl, f2, f3, fun q => ?_⟩ ?_
        · show (if q = i then σ'.2.2 (i + 1) else σ'.2.2 q) = _
          rw [f4 (i + 1), f4 q]
          by_cases q1 : q = i
          · rw [if_pos q1, if_neg (by omega), if_pos ⟨by omega, by omega⟩, q1]
          · rw [if_neg q1]
            by_cases q2 : j ≤ q ∧ q < i
            · rw [if_pos q2, if_pos ⟨q2.1, by omega⟩]
            · rw [if_neg q2, if_neg (fun z => q2 ⟨z.1, by omega⟩)]
        · show 9 - ix (nI (i + 1)) < 9 - ix (nI i)
          rw [ix_nI (by omega), ix_nI (by omega)]; omega
end RMV
