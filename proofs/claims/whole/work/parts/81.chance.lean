/-! chance -/
theorem rem64 {x y : Int64} {a b : Nat} (hx : x.toInt = a) (hy : y.toInt = b) (hb : b ≠ 0) : (x / y).toInt = ((a / b : Nat) : Int) ∧ (x - x / y * y).toInt = ((a % b : Nat) : Int) := by
  have hne : y ≠ -1 := fun e => by
    rw [e, show (-1 : Int64).toInt = -1 from by decide] at hy
    omega
  have hd : (x / y).toInt = ((a / b : Nat) : Int) := by
    rw [Int64.toInt_div_of_ne_right _ _ hne, hx, hy]; rfl
  have hxl := Int64.toInt_lt x
  have h1 := Nat.div_mul_le_self a b
  have hm : (x / y * y).toInt = ((a / b * b : Nat) : Int) := by
    rw [I64_mul, hd, hy, Int.natCast_mul] <;> rw [hd, hy, ← Int.natCast_mul] <;> omega
  refine ⟨hd, ?_⟩
  have h2 := Nat.div_add_mod a b
  rw [Nat.mul_comm] at h2
  rw [I64_sub, hx, hm]
  · omega
  · rw [hx, hm]; omega
  · rw [hx, hm]; omega
theorem gcd_step {A B : Nat} : Nat.gcd B (A % B) = Nat.gcd A B := by
  rw [Nat.gcd_comm A B, Nat.gcd_rec B A, Nat.gcd_comm]
theorem l64_0 {x : Int64} : x = 0 ↔ x.toInt = 0 := by
  rw [← Int64.toInt_inj, show (0 : Int64).toInt = 0 from by decide]
section CHN
variable {σ : St} {s : AS}
theorem gcd_C {K : Int64 → St → Prop} {x y : Int64} {a b : Nat} (hx : x.toInt = a) (hy : y.toInt = b) (hab : a ≤ b) (hK : ∀ r, r.toInt = ((Nat.gcd a b : Nat) : Int) → K r σ) : P_X7_greatestCommonDivisor x y σ K := by
  unfold P_X7_greatestCommonDivisor
  have hyl := Int64.toInt_lt y
  have hpr : b * a < 2 ^ (126 - 0) := by
    have h1 : b ≤ 2 ^ 63 - 1 := by omega
    have h2 : a ≤ 2 ^ 63 - 1 := by omega
    exact Nat.lt_of_le_of_lt (Nat.mul_le_mul h1 h2) (by decide)
  refine LpE_for (S := Int64 × Int64 × Int32 × St) (T := Int64 × Int64) (fun i t => (t.1, t.2, nI i, σ)) (fun i t => ∃ A B : Nat, t.1.toInt = A ∧ t.2.toInt = B ∧ B ≤ A ∧ A * B < 2 ^ (126 - i) ∧ Nat.gcd A B = Nat.gcd a b) 128 ?_ 0 (y, x) (by omega) ⟨b, a, hy, hx, hab, hpr, Nat.gcd_comm b a⟩
  intro i t c hi ⟨A, B, h1, h2, h3, h4, h5⟩ hc
  obtain ⟨u, v⟩ := t
  dsimp only at h1 h2 ⊢
  unfold F_X7_greatestCommonDivisor_9
  have fin : B = 0 → K u σ := fun e => hK u (by rw [h1, ← h5, e, Nat.gcd_zero_right])
  rw [show (128 : Int32) = nI 128 from rfl, nI_leI (by omega) (by omega)]
  refine ⟨fun z => fin ?_, fun z => ⟨fun y => fin (by rw [l64_0, h2] at y; omega), fun y => ⟨y, fun v2 e2 v3 e3 => ?_⟩⟩⟩
  · rw [show 126 - i = 0 by omega] at h4
    rcases Nat.eq_zero_or_pos B with q | q
    · exact q
    · have : 1 * 1 ≤ A * B := Nat.mul_le_mul (by omega) q
      omega
  · have b0 : B ≠ 0 := fun q => y (by rw [l64_0, h2, q]; rfl)
    have hb1 : 1 * 1 ≤ A * B := Nat.mul_le_mul (by omega) (by omega)
    have hi6 : i < 126 := by
      apply Classical.byContradiction
      intro q
      rw [show 126 - i = 0 by omega] at h4
      omega
    have hr := (rem64 h1 h2 b0).2
    rw [nI_1] at e3
    rw [e2, e3]
    refine hc (v, _) (by omega) ⟨B, A % B, h2, hr, by have := Nat.mod_lt A (show 0 < B by omega); omega, ?_, gcd_step.trans h5⟩
    have g1 := Nat.div_add_mod A B
    have g2 : 1 ≤ A / B := Nat.div_pos h3 (by omega)
    have g3 : B * 1 ≤ B * (A / B) := Nat.mul_le_mul_left B g2
    have g4 := Nat.mod_lt A (show 0 < B by omega)
    have g5 : B * (2 * (A % B)) ≤ B * A := Nat.mul_le_mul_left B (by omega)
    have g6 : B * (2 * (A % B)) = 2 * (B * (A % B)) := by rw [Nat.mul_left_comm]
    rw [show 126 - i = (126 - (i + 1)) + 1 by omega, Nat.pow_succ, Nat.mul_comm A B] at h4
    omega
theorem chance_L {K : Int64 → St → Prop} {x y : Int64} {p4 : Int32} {a b : Nat} (hx : x.toInt = a) (hy : y.toInt = b) (hb : b ≠ 0) (hall : σ.2.1 204 25 = y) (hK : ∀ r, r.toInt = ((Nat.gcd a b : Nat) : Int) → K (if p4 = 0 then x / r else y / r) σ) : LpE (fun c s => F_X8_chance_55 K c p4 x s.1 s.2.1 s.2.2) (x, y, σ) := by
  have hg : Nat.gcd a b ≠ 0 := fun e => hb (Nat.gcd_eq_zero_iff.mp e).2
  refine LpE_inv (fun s' : Int64 × Int64 × St => s'.2.2 = σ ∧ ∃ A B : Nat, s'.1.toInt = (A : Int) ∧ s'.2.1.toInt = (B : Int) ∧ Nat.gcd A B = Nat.gcd a b) (fun s' : Int64 × Int64 × St => s'.2.1.toInt.toNat) ?_ _ ⟨rfl, a, b, hx, hy, rfl⟩
  intro s' c ⟨e0, A, B, h1, h2, h3⟩ hc
  obtain ⟨u, v, σ'⟩ := s'
  dsimp only at e0 h1 h2 hc ⊢
  subst e0
  unfold F_X8_chance_55
  refine ⟨fun z => ?_, fun z => ⟨z, fun v10 e10 => ?_⟩⟩
  · have b0 : B = 0 := by rw [l64_0, h2] at z; omega
    rw [b0, Nat.gcd_zero_right] at h3
    have hu : ¬ u = 0 := fun q => by rw [l64_0, h1] at q; omega
    have hk := hK u (by rw [h1, h3])
    rw [hall]
    refine ⟨fun q => ⟨hu, ?_⟩, fun q => ⟨hu, ?_⟩⟩
    · rw [if_pos q] at hk; exact hk
    · rw [if_neg q] at hk; exact hk
  · have b0 : B ≠ 0 := fun q => z (by rw [l64_0, h2, q]; rfl)
    have hr := (rem64 h1 h2 b0).2
    rw [e10]
    refine hc _ ⟨rfl, B, A % B, h2, hr, gcd_step.trans h3⟩ ?_
    dsimp only
    rw [hr, h2]
    have := Nat.mod_lt A (show 0 < B by omega)
    omega
noncomputable abbrev wAll (s : AS) (j : Nat) : Int64 := wsL (potI (aW s) (aS s j) (aG s).2.2) (admL s j)
noncomputable abbrev wArc (s : AS) (j h w : Nat) : Int64 := wsA (potI (aW s) (aS s j) (aG s).2.2) h w (admL s j)
noncomputable def chV (s : AS) (j b w : Nat) (t : Int32) : Int64 := if wAll s j = 0 then -1000004 else if t = 0 then wArc s j b w / Int64.ofInt ((Nat.gcd (wArc s j b w).toInt.toNat (wAll s j).toInt.toNat : Nat) : Int) else wAll s j / Int64.ofInt ((Nat.gcd (wArc s j b w).toInt.toNat (wAll s j).toInt.toNat : Nat) : Int)
noncomputable def an_chance (s : AS) (p q r t : Int32) : Int64 := match idx p (aM s) with
  | none => -1000001
  | some j => match adx q r (sZ (aS s j)) with
    | none => -1000001
    | some (b, w) => chV s j b w t
theorem ws_nat (hw : wf s) {j : Nat} (hj : j < aM s) (h w : Nat) : (wAll s j).toInt = ((wAll s j).toInt.toNat : Int) ∧ (wArc s j h w).toInt = ((wArc s j h w).toInt.toNat : Int) ∧ (wArc s j h w).toInt.toNat ≤ (wAll s j).toInt.toNat := by
  have h1 := ws_bd hw hj
  have h2 := wsA_bd hw hj h w
  unfold wAll wArc
  omega
theorem all_pos (hw : wf s) {j : Nat} (hj : j < aM s) : 0 < wAll s j ↔ wAll s j ≠ 0 := by
  have h1 := (ws_bd hw hj).1
  rw [Ne, l64_0, Int64.lt_iff_toInt_lt, show (0 : Int64).toInt = 0 from by decide]
  unfold wAll
  omega
theorem spr_C {K : St → Prop} {j : Nat} {b f : Nat → Nat → List Mon} {p : Nat → Nat → Int64} (h : RC σ s) (hw : wf s) (hj : j < aM s) (E : EQS (sZ (aS s j)) (mbI (σ.1 125 1)) b f) (hC : CX (sZ (aS s j)) b f p σ) (hp : ∀ h w, h ≤ sZ (aS s j) → 1 ≤ w → w ≤ sZ (aS s j) → (chP (aS s j) h w → p h w = Int32.toInt64 (pvI s j 0 h w)) ∧ (¬ chP (aS s j) h w → p h w = 0)) (hK : ∀ σ', frU σ σ' → RC σ' s → (∀ (σ2 : St) (C : Int64 → St → Prop) (h w : Nat), (∀ c, 149 ≤ c → c ≤ 195 → σ2.2.1 c = σ'.2.1 c) → h ≤ sZ (aS s j) → 1 ≤ w → w ≤ sZ (aS s j) → C (wArc s j h w) σ2 → P_X5_arcSum (nI h) (nI w) σ2 C) → K σ') : P_X5_spread σ K := by
  have hz := (hw.2.1.2 j hj).1
  refine spread_C hz.1 hz.2 E hC (fun σ1 f1 f2 => ?_)
  have hC1 := CX.fr hz.2 hC f1
  refine hK σ1 (frG_U f1) (RC_fr h (frU_C (frG_U f1))) (fun σ2 C a w hc ha w1 w2 hCC => ?_)
  unfold P_X5_arcSum
  refine ⟨vp_in_nI (by omega) (by decide), vp_in_nI (by omega) (by decide), vp_in_nI (by omega) (by decide), vp_in_nI (by omega) (by decide), ?_⟩
  rw [ix_nI (by omega), ix_nI (by omega), show 148 + 1 + a = 149 + a by omega, show 188 + 1 + a = 189 + a by omega, hc (149 + a) (by omega) (by omega), hc (189 + a) (by omega) (by omega), hC1.2.1 a w ha w1 w2, Int64.mul_comm, f2 a w ha w1 w2, arc_val h hw hj E hp w1 w2, pv0]
  exact hCC
theorem c_chance {K : Int64 → St → Prop} {p q r t : Int32} (h : RC σ s) (hw : wf s) (hK : ∀ σ', RC σ' s → frM σ σ' → K (an_chance s p q r t) σ') : P_X7_chance p q r t σ K := by
  unfold P_X7_chance
  have hm := h.m4
  refine find_C h (fun hi => ⟨fun _ => ?_, fun b e => by cases e⟩) (fun j hj hp hi => ⟨fun e => (by cases e), fun b e => ?_⟩)
  · rw [an_chance, hi] at hK; exact hK σ h frM.rf
  · cases e
    rw [an_chance, hi] at hK
    dsimp only at hK
    have hz := hw.sz hj
    refine ⟨h.sok (by omega), hasArc_C (h.sent hj).1 (by omega) (fun hv => ⟨fun _ => ?_, fun z => absurd rfl z⟩) (fun b w hb w1 w2 hne hp' hq hv => ⟨fun z => absurd z (by decide), fun _ => ?_⟩)⟩
    · rw [hv] at hK; exact hK σ h frM.rf
    · subst hp' hq
      rw [hv] at hK
      dsimp only at hK
      refine sumW_C h hw hj (fun σ1 B F P f1 r1 E hC hP => ⟨fun z => ?_, fun z => ?_⟩)
      · have hne := (all_pos hw hj).mp z
        obtain ⟨n1, n2, n3⟩ := ws_nat hw hj b w
        refine spr_C r1 hw hj E hC hP (fun σ2 f2 r2 hA => hA σ2 _ b w (fun _ _ _ => rfl) hb w1 w2 (gcd_C n2 n1 n3 (fun g hg => ⟨fun y => ?_, fun y => absurd ?_ y⟩)))
        · have hk := hK σ2 r2 ((frU_M f1).tr (frU_M f2))
          have hgv : Int64.ofInt ((Nat.gcd (wArc s j b w).toInt.toNat (wAll s j).toInt.toNat : Nat) : Int) = g := by rw [← hg, Int64.ofInt_toInt]
          unfold chV at hk
          rw [if_neg hne, hgv] at hk
          have hg0 : ¬ g = 0 := fun q => by rw [Int64.lt_iff_toInt_lt, q] at y; omega
          refine ⟨fun q => ⟨hg0, ?_⟩, fun q => ⟨hg0, ?_⟩⟩
          · rw [if_pos q] at hk; exact hk
          · rw [if_neg q] at hk; exact hk
        · have : Nat.gcd (wArc s j b w).toInt.toNat (wAll s j).toInt.toNat ≠ 0 := fun e => hne (by rw [l64_0, n1, (Nat.gcd_eq_zero_iff.mp e).2]; rfl)
          rw [Int64.lt_iff_toInt_lt, hg, show (0 : Int64).toInt = 0 from by decide]
          omega
      · have hk := hK σ1 r1 (frU_M f1)
        unfold chV at hk
        rw [if_pos (Classical.byContradiction (fun y => z ((all_pos hw hj).mpr y)))] at hk
        exact hk
theorem m_chance {K : Int64 → St → Prop} {p q r t : Int32} (h : RM σ s) (hw : wf s) (hK : ∀ σ', RM σ' s → frK σ σ' → K (an_chance s p q r t) σ') : P_X8_chance p q r t σ K := by
  unfold P_X8_chance
  refine isArc_M h hw (fun hi => ⟨fun _ => ?_, fun z => absurd rfl z⟩) (fun j hj hp hi hv => ⟨fun _ => ?_, fun z => absurd rfl z⟩) (fun j b w hj hp hi hb w1 w2 hne hp' hq hv => ⟨fun z => absurd z (by decide), fun _ => ?_⟩)
  · rw [an_chance, hi] at hK; exact hK σ h frK.rf
  · rw [an_chance, hi] at hK; dsimp only at hK; rw [hv] at hK; exact hK σ h frK.rf
  · subst hp hp' hq
    rw [an_chance, hi] at hK
    dsimp only at hK
    rw [hv] at hK
    dsimp only at hK
    have hz := hw.sz hj
    refine lookR h hw hj (fun σ' r1 r2 _ lk _ _ => ?_)
    have hk := hK σ' r1 (frY_K r2)
    unfold chV at hk
    rw [lk.wa, pl7, ix_nI (by omega), (lk.ab b w hb w1 w2).2]
    refine ⟨fun z => ?_, fun z => ⟨vp_in_nI (by omega) (by decide), fun v5 e5 v6 e6 => ?_⟩⟩
    · rw [if_pos z] at hk; exact hk
    · obtain ⟨n1, n2, n3⟩ := ws_nat hw hj b w
      rw [if_neg z] at hk
      rw [e5, e6]
      refine chance_L n2 n1 (fun e => z (by rw [l64_0]; unfold wAll at n1 e; rw [n1, e]; rfl)) lk.wa (fun g hg => ?_)
      have hgv : Int64.ofInt ((Nat.gcd (wArc s j b w).toInt.toNat (wAll s j).toInt.toNat : Nat) : Int) = g := by rw [← hg, Int64.ofInt_toInt]
      rw [hgv] at hk
      exact hk
end CHN
