/-! trainAll -/
noncomputable def rndS (s : AS) : Nat → Bool × AS
  | 0 => (false, s)
  | i + 1 => ((rndS s i).1 || decide (0 < (lrn (rndS s i).2 i).1), (lrn (rndS s i).2 i).2)
noncomputable def taS : Nat → Nat → AS → Int32 × AS
  | 0, _, s => (NONEV, s)
  | f + 1, k, s => if (rndS s (aM s)).1 = true then taS f (k + 1) (rndS s (aM s)).2 else (nI k, (rndS s (aM s)).2)
theorem rnd_wf {s : AS} (hw : wf s) : ∀ i, wf (rndS s i).2 ∧ aM (rndS s i).2 = aM s
  | 0 => ⟨hw, rfl⟩
  | i + 1 => by
    obtain ⟨h1, h2⟩ := rnd_wf hw i
    obtain ⟨h3, h4⟩ := lrn_wf h1 i
    exact ⟨h3, h4.trans h2⟩
theorem ta_wf : ∀ (f k : Nat) (s : AS), wf s → wf (taS f k s).2
  | 0, _, _, h => h
  | f + 1, k, s, h => by
    rw [taS]
    split
    · exact ta_wf f (k + 1) _ (rnd_wf h _).1
    · exact (rnd_wf h _).1
theorem lrn_rng {s : AS} (hw : wf s) {j : Nat} (hj : j < aM s) : (lrn s j).1 = NONEV ∨ ∃ k, k ≤ 6 ∧ (lrn s j).1 = nI k := by
  unfold lrn
  cases (RKf s j)[0]? with
  | none => exact Or.inl rfl
  | some r => exact Or.inr ⟨_, by have := (hw.sz hj).2; omega, rfl⟩
noncomputable def an_trainAll (s : AS) (p : Int32) : Int32 := if 1 ≤ p.toInt ∧ p.toInt ≤ 10 then (taS (ix p) 0 s).1 else BADV
noncomputable def nx_trainAll (s : AS) (p : Int32) : AS := if 1 ≤ p.toInt ∧ p.toInt ≤ 10 then (taS (ix p) 0 s).2 else s
section TRA
variable {σ : St} {s : AS} {K : Int32 → St → Prop}
theorem round_C {u1 u2 : Int32} {c16 : (Int32 × St) → Prop} (h : RC σ s) (hw : wf s) (hK1 : ∀ σ', (rndS s (aM s)).1 = true → RC σ' (rndS s (aM s)).2 → frM σ σ' → ∀ v1 : Int32, v1 = u2 + 1 → c16 (v1, σ')) (hK0 : ∀ σ', (rndS s (aM s)).1 = false → RC σ' (rndS s (aM s)).2 → frM σ σ' → K u2 σ') : LpE (fun c s => F_X7_trainAll_26 K c16 c u1 u2 s.1 s.2.1 s.2.2) (0, 0, σ) := by
  have hm := h.m4
  refine LpE_for (S := Int32 × Int32 × St) (fun i t => (if (rndS s i).1 = true then 1 else 0, nI i, t)) (fun i σ' => RC σ' (rndS s i).2 ∧ frM σ σ') (aM s) ?_ 0 σ (by omega) ⟨h, frM.rf⟩
  intro i σ' c hi ⟨g1, g2⟩ hc
  dsimp only
  unfold F_X7_trainAll_26
  obtain ⟨w1, w2⟩ := rnd_wf hw i
  rw [g1.cnt, w2, nI_leI (by omega) (by omega)]
  refine ⟨fun z => ?_, fun z => ⟨vp_in_nI (by omega) (by decide), ?_⟩⟩
  · have e : i = aM s := by omega
    subst e
    cases hb : (rndS s (aM s)).1
    · rw [if_neg (by decide)]
      exact ⟨fun _ => hK0 σ' hb g1 g2, fun y => absurd rfl y⟩
    · rw [if_pos rfl]
      exact ⟨fun y => absurd y (by decide), fun _ v1 e1 => hK1 σ' hb g1 g2 v1 e1⟩
  · rw [ix_nI (by omega)]
    refine ⟨g1.sok (by omega), learn_C g1 w1 (by rw [w2]; omega) (fun σ2 r1 r2 _ => ?_)⟩
    rw [nI_1]
    have hcc := hc σ2 (by omega) ⟨r1, g2.tr r2⟩
    simp only [rndS, Bool.or_eq_true, decide_eq_true_iff] at hcc
    refine ⟨fun y v6 e6 => ?_, fun y v7 e7 => ?_⟩
    · rw [e6]
      have hno : ¬ 0 < (lrn (rndS s i).2 i).1 := fun q => by
        rw [T_lt] at q; rw [T_le] at y; omega
      have hiff : ((rndS s i).1 = true ∨ 0 < (lrn (rndS s i).2 i).1) ↔ (rndS s i).1 = true := ⟨fun q => q.elim id (fun q => absurd q hno), Or.inl⟩
      simp only [hiff] at hcc
      exact hcc
    · rw [e7]
      have hyes : 0 < (lrn (rndS s i).2 i).1 := by
        rw [T_lt]; rw [T_le] at y; omega
      rw [if_pos (Or.inr hyes)] at hcc
      exact hcc
theorem ta_C : ∀ (f k R : Nat) (s : AS) (σ : St), k + f = R → R ≤ 10 → RC σ s → wf s → (∀ σ', RC σ' (taS f k s).2 → frM σ σ' → K (taS f k s).1 σ') → Lp (fun c s => F_X7_trainAll_16 K c (nI R) s.1 s.2) (f + 1) (nI k, σ) := by
  intro f
  induction f with
  | zero =>
    intro k R s σ hk hR h hw hK
    show F_X7_trainAll_16 K _ (nI R) (nI k) σ
    unfold F_X7_trainAll_16
    rw [nI_leI (by omega) (by omega)]
    refine ⟨fun _ => hK σ h frM.rf, fun z => by omega⟩
  | succ f ih =>
    intro k R s σ hk hR h hw hK
    show F_X7_trainAll_16 K _ (nI R) (nI k) σ
    unfold F_X7_trainAll_16
    rw [nI_leI (by omega) (by omega)]
    refine ⟨fun z => by omega, fun _ => round_C h hw (fun σ' hb r1 r2 v1 e1 => ?_) (fun σ' hb r1 r2 => ?_)⟩
    · rw [nI_1] at e1
      rw [e1]
      rw [taS, if_pos hb] at hK
      exact ih (k + 1) R _ σ' (by omega) hR r1 (rnd_wf hw _).1 (fun σ2 q1 q2 => hK σ2 q1 (r2.tr q2))
    · rw [taS, if_neg (by rw [hb]; decide)] at hK
      exact hK σ' r1 r2
theorem c_trainAll {p : Int32} (h : RC σ s) (hw : wf s) (hK : ∀ σ', RC σ' (nx_trainAll s p) → frM σ σ' → K (an_trainAll s p) σ') : P_X7_trainAll p σ K := by
  unfold P_X7_trainAll
  have e10 : (10 : Int32).toInt = 10 := rfl
  rw [T_lt, T_le, lit_toInt1, e10]
  unfold an_trainAll nx_trainAll at hK
  refine ⟨fun z => ?_, fun z => ⟨fun z2 => ?_, fun z2 => ?_⟩⟩
  · rw [if_neg (by omega), if_neg (by omega)] at hK; exact hK σ h frM.rf
  · rw [if_pos ⟨by omega, z2⟩, if_pos ⟨by omega, z2⟩] at hK
    have hp : ¬ p < 0 := by rw [T_lt, lit_toInt0]; omega
    obtain ⟨R, hR, rfl⟩ := nI_of hp
    rw [nI_toInt hR] at z2
    rw [ix_nI hR] at hK
    exact ⟨R + 1, ta_C R 0 R s σ (by omega) (by omega) h hw hK⟩
  · rw [if_neg (by omega), if_neg (by omega)] at hK; exact hK σ h frM.rf
theorem round_M {u1 u2 : Int32} {c16 : (Int32 × St) → Prop} (h : RM σ s) (hw : wf s) (hK1 : ∀ σ', (rndS s (aM s)).1 = true → RM σ' (rndS s (aM s)).2 → frK σ σ' → ∀ v1 : Int32, v1 = u2 + 1 → c16 (v1, σ')) (hK0 : ∀ σ', (rndS s (aM s)).1 = false → RM σ' (rndS s (aM s)).2 → frK σ σ' → K u2 σ') : LpE (fun c s => F_X8_trainAll_25 K c16 c u1 u2 s.1 s.2.1 s.2.2) (0, 0, σ) := by
  have hm := h.m4
  refine LpE_inv (fun s' => ∃ i k, i ≤ aM s ∧ k ≤ 6 * i ∧ s'.1 = nI k ∧ s'.2.1 = nI i ∧ ((rndS s i).1 = true ↔ k ≠ 0) ∧ RM s'.2.2 (rndS s i).2 ∧ frK σ s'.2.2) (fun s' => 20 - ix s'.2.1) ?_ _ ⟨0, 0, by omega, by omega, rfl, rfl, by simp [rndS], h, frK.rf⟩
  intro s' c hI hc
  obtain ⟨x1, x2, σ'⟩ := s'
  obtain ⟨i, k, hi, hk, e1, e2, hb, g1, g2⟩ := hI
  dsimp only at e1 e2 g1 g2
  subst e1 e2
  dsimp only
  unfold F_X8_trainAll_25
  obtain ⟨w1, w2⟩ := rnd_wf hw i
  rw [g1.cnt, w2, nI_leI (by omega) (by omega)]
  refine ⟨fun z => ?_, fun z => ?_⟩
  · have e : i = aM s := by omega
    subst e
    rw [show (0 : Int32) = nI 0 from rfl, nI_eq (by omega) (by omega)]
    refine ⟨fun y => hK0 σ' ?_ g1 g2, fun y v3 e3 => hK1 σ' (hb.mpr y) g1 g2 v3 e3⟩
    cases hq : (rndS s (aM s)).1
    · rfl
    · exact absurd y (hb.mp hq)
  · refine trains_M g1 w1 (by rw [w2]; omega) (fun σ2 r1 r2 => ?_)
    rw [nI_1]
    have hms : 20 - ix (nI (i + 1)) < 20 - ix (nI i) := by rw [ix_nI (by omega), ix_nI (by omega)]; omega
    refine ⟨fun y v6 e6 v7 e7 => ?_, fun y v8 e8 v9 e9 => ?_⟩
    · have z0 : nI k + (0 : Int32) = nI k := nI_add k 0
      rw [z0] at e6
      subst e6 e7
      refine hc _ ⟨i + 1, k, by omega, by omega, rfl, rfl, ?_, r1, g2.tr r2⟩ hms
      rw [← hb]
      simp only [rndS, Bool.or_eq_true, decide_eq_true_iff]
      have hno : ¬ 0 < (lrn (rndS s i).2 i).1 := fun q => by
        rw [T_lt] at q; rw [T_le] at y; omega
      exact ⟨fun q => q.elim id (fun q => absurd q hno), Or.inl⟩
    · have hyes : 0 < (lrn (rndS s i).2 i).1 := by
        rw [T_lt]; rw [T_le] at y; omega
      rcases lrn_rng w1 (j := i) (by rw [w2]; omega) with q | ⟨k2, q1, q2⟩
      · rw [q] at hyes; exact absurd hyes (by decide)
      · rw [q2, nI_add] at e8
        subst e8 e9
        have hk2 : k2 ≠ 0 := fun e => by rw [q2, e] at hyes; exact absurd hyes (by decide)
        refine hc _ ⟨i + 1, k + k2, by omega, by omega, rfl, rfl, ?_, r1, g2.tr r2⟩ hms
        simp only [rndS, Bool.or_eq_true, decide_eq_true_iff]
        exact ⟨fun _ => by omega, fun _ => Or.inr hyes⟩
theorem ta_M : ∀ (f k R : Nat) (s : AS) (σ : St), k + f = R → R ≤ 10 → RM σ s → wf s → (∀ σ', RM σ' (taS f k s).2 → frK σ σ' → K (taS f k s).1 σ') → Lp (fun c s => F_X8_trainAll_15 K c (nI R) s.1 s.2) (f + 1) (nI k, σ) := by
  intro f
  induction f with
  | zero =>
    intro k R s σ hk hR h hw hK
    show F_X8_trainAll_15 K _ (nI R) (nI k) σ
    unfold F_X8_trainAll_15
    rw [nI_leI (by omega) (by omega)]
    refine ⟨fun _ => hK σ h frK.rf, fun z => by omega⟩
  | succ f ih =>
    intro k R s σ hk hR h hw hK
    show F_X8_trainAll_15 K _ (nI R) (nI k) σ
    unfold F_X8_trainAll_15
    rw [nI_leI (by omega) (by omega)]
    refine ⟨fun z => by omega, fun _ => round_M h hw (fun σ' hb r1 r2 v1 e1 => ?_) (fun σ' hb r1 r2 => ?_)⟩
    · rw [nI_1] at e1
      rw [e1]
      rw [taS, if_pos hb] at hK
      exact ih (k + 1) R _ σ' (by omega) hR r1 (rnd_wf hw _).1 (fun σ2 q1 q2 => hK σ2 q1 (r2.tr q2))
    · rw [taS, if_neg (by rw [hb]; decide)] at hK
      exact hK σ' r1 r2
theorem m_trainAll {p : Int32} (h : RM σ s) (hw : wf s) (hK : ∀ σ', RM σ' (nx_trainAll s p) → frK σ σ' → K (an_trainAll s p) σ') : P_X8_trainAll p σ K := by
  unfold P_X8_trainAll
  unfold an_trainAll nx_trainAll at hK
  refine in_N (A := 1) (B := 10) rfl rfl (fun c => ⟨fun _ => ?_, fun z => absurd rfl z⟩) (fun c => ⟨fun z => absurd z (by decide), fun _ => ?_⟩)
  · rw [if_neg c, if_neg c] at hK; exact hK σ h frK.rf
  · rw [if_pos c, if_pos c] at hK
    obtain ⟨c1, c2⟩ := c
    have hp : ¬ p < 0 := by rw [T_lt, lit_toInt0]; omega
    obtain ⟨R, hR, rfl⟩ := nI_of hp
    rw [nI_toInt hR] at c2
    rw [ix_nI hR] at hK
    exact ⟨R + 1, ta_M R 0 R s σ (by omega) (by omega) h hw hK⟩
end TRA
