/-! the class: spread -/
def uq (n k j S h : Nat) : Bool := (decide (S < k) || (decide (S = k) && decide (j ≤ h))) && (decide (h ≤ n) && !(decide (1 ≤ h) && S.testBit (h - 1)))
def ub (n k j S h : Nat) : Bool := uq n k j S h && decide (S ≠ 0)
theorem uq_iff {n k j S h : Nat} : uq n k j S h = true ↔ (S < k ∨ (S = k ∧ j ≤ h)) ∧ h ≤ n ∧ ¬ inS S h := by
  unfold uq inS
  rw [Bool.and_eq_true, Bool.and_eq_true, Bool.or_eq_true, Bool.and_eq_true, decide_eq_true_iff, decide_eq_true_iff, decide_eq_true_iff, decide_eq_true_iff, Bool.not_eq_true', Bool.and_eq_false_iff, decide_eq_false_iff_not]
  constructor
  · rintro ⟨a, b, c⟩
    exact ⟨a, b, fun z => c.elim (fun y => y z.1) (fun y => by rw [z.2] at y; cases y)⟩
  · rintro ⟨a, b, c⟩
    refine ⟨a, b, ?_⟩
    by_cases e : 1 ≤ h
    · right
      cases q : S.testBit (h - 1)
      · rfl
      · exact absurd ⟨e, q⟩ c
    · exact Or.inl e
theorem ub_iff {n k j S h : Nat} : ub n k j S h = true ↔ uq n k j S h = true ∧ S ≠ 0 := by
  unfold ub; rw [Bool.and_eq_true, decide_eq_true_iff]
theorem uq_eq {n k j k' j' S h : Nat} (e : (S < k ∨ (S = k ∧ j ≤ h)) ↔ (S < k' ∨ (S = k' ∧ j' ≤ h))) : uq n k j S h = uq n k' j' S h ∧ ub n k j S h = ub n k' j' S h := by
  have : uq n k j S h = uq n k' j' S h := by rw [Bool.eq_iff_iff, uq_iff, uq_iff, e]
  refine ⟨this, ?_⟩
  unfold ub; rw [this]
theorem uq_skip {n k j S h : Nat} (hi : inS k j) : uq n k j S h = uq n k (j + 1) S h ∧ ub n k j S h = ub n k (j + 1) S h := by
  have : uq n k j S h = uq n k (j + 1) S h := by
    rw [Bool.eq_iff_iff, uq_iff, uq_iff]
    constructor
    · rintro ⟨a, b, c⟩
      have : ¬ (S = k ∧ h = j) := fun z => c (by rw [z.1, z.2]; exact hi)
      exact ⟨by omega, b, c⟩
    · rintro ⟨a, b, c⟩
      exact ⟨by omega, b, c⟩
  refine ⟨this, ?_⟩
  unfold ub; rw [this]
theorem uq_rm {n k j S h : Nat} : rmU (uq n k j) k j S h = uq n k (j + 1) S h ∧ rmU (ub n k j) k j S h = ub n k (j + 1) S h := by
  by_cases e : S = k ∧ h = j
  · obtain ⟨rfl, rfl⟩ := e
    rw [rmU_at, rmU_at]
    have : uq n S (h + 1) S h = false := by
      rw [Bool.eq_false_iff, Ne, uq_iff]; omega
    exact ⟨this.symm, by unfold ub; rw [this]; rfl⟩
  · rw [rmU_ne (by omega), rmU_ne (by omega)]
    exact uq_eq (by omega)
section SPREAD2
variable {n : Nat} {b f : Nat → Nat → List Mon} {p : Nat → Nat → Int64} {σ : St}
theorem clear_C {K : St → Prop} (hK : ∀ σ', frG σ σ' → (∀ h, h < 7 → (∀ S, S < 64 → σ'.2.1 (173 + h) S = 0 ∧ σ'.2.1 (181 + h) S = 0) ∧ ∀ w, w < 7 → σ'.2.1 (189 + h) w = 0) → K σ') : P_X5_clearGains σ K := by
  unfold P_X5_clearGains
  refine LpE_for1 (fun i σ' => frG σ σ' ∧ ∀ h, h < i → (∀ S, S < 64 → σ'.2.1 (173 + h) S = 0 ∧ σ'.2.1 (181 + h) S = 0) ∧ ∀ w, w < 7 → σ'.2.1 (189 + h) w = 0) 7 ?_ 0 σ (by omega) ⟨frG.rf, fun h hh => absurd hh (Nat.not_lt_zero _)⟩
  intro i σ1 c hi ⟨f1, f2⟩ hc
  dsimp only
  unfold F_X5_clearGains_2
  rw [show (7 : Int32) = nI 7 from rfl, nI_leI (by omega) (by omega)]
  refine ⟨fun z => hK σ1 f1 (fun h hh => f2 h (by omega)), fun z => ?_⟩
  refine LpE_for1 (fun k σ' => frG σ σ' ∧ (∀ h, h < i → (∀ S, S < 64 → σ'.2.1 (173 + h) S = 0 ∧ σ'.2.1 (181 + h) S = 0) ∧ ∀ w, w < 7 → σ'.2.1 (189 + h) w = 0) ∧ ∀ S, S < k → σ'.2.1 (173 + i) S = 0 ∧ σ'.2.1 (181 + i) S = 0) 64 ?_ 0 σ1 (by omega) ⟨f1, f2, fun S hS => absurd hS (Nat.not_lt_zero _)⟩
  intro k σ2 c2 hk ⟨g1, g2, g3⟩ hc2
  dsimp only
  unfold F_X5_clearGains_10
  rw [show (64 : Int32) = nI 64 from rfl, nI_leI (by omega) (by omega)]
  refine ⟨fun y => ?_, fun y => ⟨vp_in_nI (by omega) (by decide), vp_in_nI (by omega) (by decide), fun s8 e8 => ⟨vp_in_nI (by omega) (by decide), vp_in_nI (by omega) (by decide), fun s11 e11 v12 e12 => ?_⟩⟩⟩
  · have hk64 : k = 64 := by omega
    refine LpE_for1 (fun k σ' => frG σ σ' ∧ (∀ h, h < i → (∀ S, S < 64 → σ'.2.1 (173 + h) S = 0 ∧ σ'.2.1 (181 + h) S = 0) ∧ ∀ w, w < 7 → σ'.2.1 (189 + h) w = 0) ∧ (∀ S, S < 64 → σ'.2.1 (173 + i) S = 0 ∧ σ'.2.1 (181 + i) S = 0) ∧ ∀ w, w < k → σ'.2.1 (189 + i) w = 0) 7 ?_ 0 σ2 (by omega) ⟨g1, g2, fun S hS => g3 S (by omega), fun w hw => absurd hw (Nat.not_lt_zero _)⟩
    intro m σ3 c3 hm ⟨k1, k2, k3, k4⟩ hc3
    dsimp only
    unfold F_X5_clearGains_42
    rw [show (7 : Int32) = nI 7 from rfl, nI_leI (by omega) (by omega), nI_1, nI_1]
    refine ⟨fun q v1 e1 => ?_, fun q => ⟨vp_in_nI (by omega) (by decide), vp_in_nI (by omega) (by decide), fun s4 e4 v5 e5 => ?_⟩⟩
    · rw [e1]
      refine hc σ3 (by omega) ⟨k1, fun h hh => ?_⟩
      by_cases e : h = i
      · subst e; exact ⟨k3, fun w hw => k4 w (by omega)⟩
      · exact k2 h (by omega)
    · rw [ix_nI (by omega), ix_nI (by omega), show 188 + 1 + i = 189 + i by omega] at e4
      rw [e5]
      refine hc3 s4 (by omega) ⟨k1.tr (by rw [e4]; exact frG.wL (by omega)), fun h hh => ⟨fun S hS => ?_, fun w hw => ?_⟩, fun S hS => ?_, fun w hw => ?_⟩
      · rw [e4, wL_no (by omega), wL_no (by omega)]; exact (k2 h hh).1 S hS
      · rw [e4, wL_no (by omega)]; exact (k2 h hh).2 w hw
      · rw [e4, wL_no (by omega), wL_no (by omega)]; exact k3 S hS
      · rw [e4]
        by_cases e : w = m
        · rw [e, wL_self]
        · rw [wL_no (by omega)]; exact k4 w (by omega)
  · rw [ix_nI (by omega), ix_nI (by omega), show 172 + 1 + i = 173 + i by omega] at e8
    rw [ix_nI (by omega), ix_nI (by omega), show 180 + 1 + i = 181 + i by omega] at e11
    rw [nI_1] at e12
    rw [e12]
    refine hc2 s11 (by omega) ⟨g1.tr ((show frG σ2 s8 by rw [e8]; exact frG.wL (by omega)).tr (by rw [e11]; exact frG.wL (by omega))), fun h hh => ⟨fun S hS => ?_, fun w hw => ?_⟩, fun S hS => ?_⟩
    · rw [e11, wL_no (by omega), wL_no (by omega), e8, wL_no (by omega), wL_no (by omega)]; exact (g2 h hh).1 S hS
    · rw [e11, wL_no (by omega), e8, wL_no (by omega)]; exact (g2 h hh).2 w hw
    · rw [e11, e8]
      by_cases e : S = k
      · rw [e, wL_no (by omega), wL_self, wL_self]; exact ⟨rfl, rfl⟩
      · rw [wL_no (by omega), wL_no (by omega), wL_no (by omega), wL_no (by omega)]; exact g3 S (by omega)
theorem spread_C {K : St → Prop} (h1 : 1 ≤ n) (hn : n ≤ 6) (E : EQS n (mbI (σ.1 125 1)) b f) (hC : CX n b f p σ) (hK : ∀ σ', frG σ σ' → (∀ h w, h ≤ n → 1 ≤ w → w ≤ n → σ'.2.1 (189 + h) w * p h w = sm (totL (decide (σ.1 125 0 ≠ 0)) n b f) (dMo p (h, w))) → K σ') : P_X5_spread σ K := by
  unfold P_X5_spread
  refine clear_C (fun σ1 f1 z1 v2 e2 => ?_)
  obtain ⟨a1, a2⟩ := bt_all n (by omega)
  rw [f1.1, hC.1, a1] at e2
  have hpw : 2 ^ n - 1 < 2 ^ n := full_lt hn
  have hfull := full_ne h1
  have hX0 : ∀ a : Nat × Nat, a.1 ≤ n → a.2 ≤ n → XX p b f (ub n (2 ^ n - 1) 0) (uq n (2 ^ n - 1) 0) σ1 a = 0 := by
    intro a ha ha2
    unfold XX
    rw [dsum_cong (F := fun _ _ => 0), dsum_0, (z1 a.1 (by omega)).2 a.2 (by omega), Int64.zero_mul, Int64.add_zero]
    intro S h hS hh
    obtain ⟨q1, q2⟩ := (z1 h hh).1 S hS
    rw [q1, q2, Int64.zero_mul, Int64.zero_mul, ite_self, ite_self, Int64.add_zero]
  have main : ∀ s4, frG σ s4 → (∀ a : Nat × Nat, a.1 ≤ n → a.2 ≤ n → XX p b f (ub n (2 ^ n - 1) 0) (uq n (2 ^ n - 1) 0) s4 a = sm (totL (decide (σ.1 125 0 ≠ 0)) n b f) (dMo p a)) → LpE (fun c s => F_X5_spread_46 K c s.1 s.2) (nI (2 ^ n - 1 - 0), s4) := by
    intro s4 hf4 hX4
    refine LpE_for (S := Int32 × St) (fun i t => (nI (2 ^ n - 1 - i), t)) (fun i σ' => frG σ σ' ∧ ∀ a : Nat × Nat, a.1 ≤ n → a.2 ≤ n → XX p b f (ub n (2 ^ n - 1 - i) 0) (uq n (2 ^ n - 1 - i) 0) σ' a = sm (totL (decide (σ.1 125 0 ≠ 0)) n b f) (dMo p a)) (2 ^ n - 1) ?_ 0 s4 (by omega) ⟨hf4, hX4⟩
    intro i σ2 c hi ⟨g1, g2⟩ hc
    dsimp only
    unfold F_X5_spread_46
    rw [show (1 : Int32) = nI 1 from rfl, nI_ltI (by omega) (by omega)]
    refine ⟨fun z => hK σ2 g1 (fun h w hh w1 w2 => ?_), fun z => ?_⟩
    · have := g2 (h, w) hh w2
      rw [show 2 ^ n - 1 - i = 0 by omega] at this
      unfold XX at this
      rw [dsum_cong (F := fun _ _ => 0), dsum_0, Int64.zero_add] at this
      · exact this
      · intro S h' hS hh'
        have hb : ub n 0 0 S h' = false := by
          rw [Bool.eq_false_iff, Ne, ub_iff, uq_iff]; omega
        rw [hb, if_neg (show ¬ (false = true) by decide), Int64.zero_add]
        by_cases e : uq n 0 0 S h' = true
        · have := (uq_iff.mp e).1
          have : S = 0 := by omega
          subst this
          rw [if_pos e, df_0 E, Int64.mul_zero]
        · rw [if_neg e]
    · have hk64 : 2 ^ n - 1 - i < 64 := by omega
      obtain ⟨k, hk⟩ : ∃ k, k = 2 ^ n - 1 - i := ⟨_, rfl⟩
      rw [← hk] at g2 z hk64 ⊢
      refine LpE_for1 (fun j σ' => frG σ σ' ∧ ∀ a : Nat × Nat, a.1 ≤ n → a.2 ≤ n → XX p b f (ub n k j) (uq n k j) σ' a = sm (totL (decide (σ.1 125 0 ≠ 0)) n b f) (dMo p a)) (n + 1) ?_ 0 σ2 (by omega) ⟨g1, g2⟩
      intro j σ3 c3 hj ⟨k1, k2⟩ hc3
      have hC3 := CX.fr hn hC k1
      dsimp only
      unfold F_X5_spread_53
      rw [hC3.1, nI_ltI (by omega) (by omega), nI_1]
      refine ⟨fun y v5 e5 => ?_, fun y => ?_⟩
      · rw [← Int32.sub_eq_add_neg, show nI k - 1 = nI (k - 1) from pk_sub (b := 1) (by omega), show k - 1 = 2 ^ n - 1 - (i + 1) by omega] at e5
        rw [e5]
        refine hc σ3 (by omega) ⟨k1, fun a ha ha2 => ?_⟩
        rw [← k2 a ha ha2]
        refine XX_cong (fun S h hS hh => ?_)
        by_cases e : h ≤ n
        · have := uq_eq (n := n) (k := 2 ^ n - 1 - (i + 1)) (j := 0) (k' := k) (j' := j) (S := S) (h := h) (by omega)
          exact ⟨this.2, this.1⟩
        · have q1 : ∀ k j, uq n k j S h = false := fun k j => by rw [Bool.eq_false_iff, Ne, uq_iff]; omega
          exact ⟨by unfold ub; rw [q1, q1], by rw [q1, q1]⟩
      · refine hasNode_C hk64 (by omega) (fun hh => ⟨fun q => absurd q (by decide), fun _ v8 e8 => ?_⟩) (fun hh => ⟨fun _ => ?_, fun q => absurd rfl q⟩)
        · rw [e8]
          refine hc3 σ3 (by omega) ⟨k1, fun a ha ha2 => ?_⟩
          rw [← k2 a ha ha2]
          exact XX_cong (fun S h hS hh' => ⟨(uq_skip hh).2.symm, (uq_skip hh).1.symm⟩)
        · have k0 : k ≠ 0 := by omega
          have hkn : k < 2 ^ n := by omega
          have E3 : EQS n (mbI (σ3.1 125 1)) b f := by rw [k1.1]; exact E
          have hv : ∀ B, B ∈ subs k → ¬ inS B j ∧ ¬ inS (k ^^^ B) j ∧ B ≤ k ∧ k ^^^ B < k ∧ B ≠ 0 := by
            intro B hB
            obtain ⟨b1, b2, b3, b4⟩ := subs_lt k hk64 B hB
            have bs := ((subs_mem k hk64 k0 B b1).mp hB).1
            exact ⟨fun z => hh (inS_sub bs z), fun z => hh ((inS_xor bs).mp z).1, b2, b3, b4⟩
          refine spreadFo_C (uB := ub n k j) (uF := uq n k j) hn E3 hC3 k0 hkn (by omega) hh (uq_iff.mpr ⟨by omega, by omega, hh⟩) (fun B hB => ?_) (fun σ4 f4 x4 => ?_)
          · obtain ⟨q1, q2, q3, q4, q5⟩ := hv B hB
            exact ⟨ub_iff.mpr ⟨uq_iff.mpr ⟨by omega, by omega, q1⟩, q5⟩, uq_iff.mpr ⟨by omega, by omega, q2⟩⟩
          · have hC4 := CX.fr hn hC3 f4
            have E4 : EQS n (mbI (σ4.1 125 1)) b f := by rw [f4.1]; exact E3
            refine spreadBr_C (uB := ub n k j) (uF := rmU (uq n k j) k j) hn E4 hC4 k0 hkn (by omega) hh (ub_iff.mpr ⟨uq_iff.mpr ⟨by omega, by omega, hh⟩, k0⟩) (fun d hd hb => ?_) (fun σ5 f5 x5 v11 e11 => ?_)
            · have := xor_lt k hk64 d (by omega) hb
              rw [rmU_ne (Or.inl (by omega))]
              exact uq_iff.mpr ⟨by omega, by omega, fun z => ((inS_bit hb).mp z).2 rfl⟩
            · rw [e11]
              refine hc3 σ5 (by omega) ⟨k1.tr (f4.tr f5), fun a ha ha2 => ?_⟩
              rw [← k2 a ha ha2, ← x4 a ha, ← x5 a ha]
              exact XX_cong (fun S h hS hh' => ⟨uq_rm.2.symm, uq_rm.1.symm⟩)
  rw [f1.1]
  have hvp : vp_in v2 64 := by rw [e2]; exact vp_in_nI (by omega) (by decide)
  have hu0 : uq n (2 ^ n - 1) 0 (2 ^ n - 1) 0 = true := uq_iff.mpr ⟨by omega, by omega, no_root⟩
  refine ⟨fun y => ⟨hvp, fun s4 e4 => ?_⟩, fun y => ⟨hvp, fun s13 e13 => ?_⟩⟩
  · rw [e2, ix_nI (by omega), show 180 + 1 + ix (0 : Int32) = 181 + 0 from rfl] at e4
    rw [e2]
    refine main s4 (f1.tr (by rw [e4]; exact frG.wL (by omega))) (fun a ha ha2 => ?_)
    rw [XX_f (x := 1) (by omega) (by omega) (by omega) hu0 (by rw [e4, ((z1 0 (by omega)).1 _ a2).2]; rfl), hX0 a ha ha2, Int64.zero_add, Int64.one_mul]
    unfold totL
    rw [if_neg (by rw [decide_eq_true_iff]; exact fun q => q y)]
  · rw [e2, ix_nI (by omega), show 172 + 1 + ix (0 : Int32) = 173 + 0 from rfl] at e13
    rw [e2]
    refine main s13 (f1.tr (by rw [e13]; exact frG.wL (by omega))) (fun a ha ha2 => ?_)
    rw [XX_b (x := 1) (by omega) (by omega) (by omega) (ub_iff.mpr ⟨hu0, hfull⟩) (by rw [e13, ((z1 0 (by omega)).1 _ a2).1]; rfl), hX0 a ha ha2, Int64.zero_add, Int64.one_mul]
    unfold totL
    rw [if_pos (by rw [decide_eq_true_iff]; exact y)]
end SPREAD2
