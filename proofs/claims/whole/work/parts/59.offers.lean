/-! the class: the heads that are left to a word, and the offers -/
def popc (m : Nat) : Nat := ((List.range 7).filter (fun v => m.testBit v)).length
def bcI (p : Int32) : Int32 :=
  let v1 := p - ((ushr p 1) &&& 1431655765)
  let v2 := (v1 &&& 858993459) + ((ushr v1 2) &&& 858993459)
  let v3 := (v2 + (ushr v2 4)) &&& 252645135
  let v4 := v3 + (ushr v3 8)
  let v5 := v4 + (ushr v4 16)
  v5 &&& 63
theorem bcI_eq : ∀ m, m < 128 → bcI (nI m) = nI (popc m) := by decide +kernel
theorem popc_one : ∀ m, m < 128 → popc m = 1 → ∃ r, r < 7 ∧ ∀ u, u < 7 → m.testBit u = decide (u = r) := by decide +kernel
theorem popc_two : ∀ m, m < 128 → m ≠ 0 → popc m ≠ 1 → ∃ a, a < 7 ∧ ∃ b, b < 7 ∧ a ≠ b ∧ m.testBit a = true ∧ m.testBit b = true := by decide +kernel
theorem popc_le : ∀ m, m < 128 → popc m ≤ 7 := by decide +kernel
section HCH
variable {σ : St}
theorem headCh_C {K : Int32 → St → Prop} {a w : Nat} {x : SentT} (hx : wfS x) (hr : RS σ a x) (hw1 : 1 ≤ w) (hw2 : w ≤ sZ x) (hK : ∀ m, m < 128 → (∀ h, h < 7 → (m.testBit h = true ↔ chP x h w)) → K (nI m) σ) : P_X0_headChoices a (nI w) σ K := by
  unfold P_X0_headChoices
  have hz := hx.1
  have hco : ∀ h, sCo x h w = 0 ∨ sCo x h w = 1 ∨ sCo x h w = 2 := fun h => (hx.2.2.2 h w).2
  refine LpE_inv (fun s' => s'.2.2.2 = σ ∧ ∃ mF mR i, mF < 128 ∧ mR < 128 ∧ i ≤ sZ x + 1 ∧ s'.1 = nI mF ∧ s'.2.1 = nI mR ∧ s'.2.2.1 = nI i ∧ ∀ h, h < 7 → ((mF.testBit h = true ↔ h < i ∧ h ≠ w ∧ sCo x h w = 0) ∧ (mR.testBit h = true ↔ h < i ∧ h ≠ w ∧ sCo x h w = 1))) (fun s' => 20 - ix s'.2.2.1) ?_ _ ⟨rfl, 0, 0, 0, by omega, by omega, by omega, rfl, rfl, rfl, fun h hh => ⟨⟨fun z => by simp at z, fun z => by omega⟩, fun z => by simp at z, fun z => by omega⟩⟩
  intro s' c hI hc
  obtain ⟨x1, x2, x3, σ'⟩ := s'
  obtain ⟨e1, mF, mR, i, hF, hR, hi, e2, e3, e4, hb⟩ := hI
  dsimp only at e1 e2 e3 e4
  subst e1 e2 e3 e4
  dsimp only
  unfold F_X0_headChoices_7
  have hms : 20 - ix (nI (i + 1)) < 20 - ix (nI i) := by rw [ix_nI (by omega), ix_nI (by omega)]; omega
  rw [hr.1, nI_ltI (by omega) (by omega), nI_eq (by omega) (by omega)]
  refine ⟨fun z => ?_, fun z => ?_⟩
  · have hi2 : i = sZ x + 1 := by omega
    subst hi2
    rw [show (0 : Int32) = nI 0 from rfl, nI_eq (by omega) (by omega)]
    refine ⟨fun z2 => hK mF hF (fun h hh => ?_), fun z2 => ?_⟩
    · rw [(hb h hh).1]
      have hno : ∀ h', h' < 7 → ¬ (h' < sZ x + 1 ∧ h' ≠ w ∧ sCo x h' w = 1) := fun h' hh' y => by
        have := (hb h' hh').2.mpr y
        rw [z2] at this; simp at this
      constructor
      · rintro ⟨y1, y2, y3⟩
        refine ⟨by omega, y2, by rw [y3]; decide, fun h' a1 a2 _ a4 => hno h' (by omega) ⟨by omega, a2, a4⟩⟩
      · rintro ⟨y1, y2, y3, y4⟩
        refine ⟨by omega, y2, ?_⟩
        rcases hco h with q | q | q
        · exact q
        · exact absurd ⟨by omega, y2, q⟩ (hno h hh)
        · exact absurd q y3
    · unfold P_J6_bitCount_0f7a4
      intro v1 e1 v2 e2 v3 e3 v4 e4 v5 e5
      have hbc : v5 &&& 63 = nI (popc mR) := by
        rw [← bcI_eq mR hR, e5, e4, e3, e2, e1]; rfl
      have hpl := popc_le mR hR
      rw [hbc, show (1 : Int32) = nI 1 from rfl, nI_eq (by omega) (by omega)]
      refine ⟨fun z3 => ?_, fun z3 => ?_⟩
      · obtain ⟨r, hr7, hru⟩ := popc_one mR hR z3
        have hrb := (hb r hr7).2.mp (by rw [hru r hr7]; simp)
        refine hK mR hR (fun h hh => ?_)
        rw [hru h hh, decide_eq_true_iff]
        constructor
        · intro e
          subst e
          refine ⟨by omega, hrb.2.1, by rw [hrb.2.2]; decide, fun h' a1 a2 a3 a4 => ?_⟩
          have := (hb h' (by omega)).2.mpr ⟨by omega, a2, a4⟩
          rw [hru h' (by omega), decide_eq_true_iff] at this
          exact a3 this
        · rintro ⟨y1, y2, y3, y4⟩
          by_cases e : h = r
          · exact e
          · exact absurd hrb.2.2 (y4 r (by omega) hrb.2.1 (fun y => e y.symm))
      · obtain ⟨p, hp7, q, hq7, hpq, hp, hq⟩ := popc_two mR hR z2 z3
        have hp := (hb p hp7).2.mp hp
        have hq := (hb q hq7).2.mp hq
        refine hK 0 (by omega) (fun h hh => ⟨fun y => by simp at y, fun y => ?_⟩)
        obtain ⟨y1, y2, y3, y4⟩ := y
        by_cases e : p = h
        · exact absurd hq.2.2 (y4 q (by omega) hq.2.1 (fun y => hpq (by omega)))
        · exact absurd hp.2.2 (y4 p (by omega) hp.2.1 e)
  · have h45 : (i = w ∨ sCo x i w ≠ 1) → J_X0_headChoices_45 K c a (nI w) (nI mF) (nI mR) (nI i) σ' := by
      intro hn1
      unfold J_X0_headChoices_45
      rw [nI_eq (by omega) (by omega), nI_1]
      refine ⟨fun q v3 e3 => ?_, fun q => ⟨vp_in_nI (by omega) (by decide), vp_in_nI (by omega) (by decide), ?_⟩⟩
      · subst e3
        refine hc _ ⟨rfl, mF, mR, i + 1, hF, hR, by omega, rfl, rfl, rfl, fun h hh => ?_⟩ hms
        rw [(hb h hh).1, (hb h hh).2]
        constructor <;> constructor <;> (intro y; refine ⟨by omega, y.2.1, y.2.2⟩)
      · rw [ix_nI (by omega), ix_nI (by omega), show a + 11 + 1 + i = a + 12 + i by omega, (hr.2.2 i (by omega) w (by omega)).2]
        have hne1 : sCo x i w ≠ 1 := by rcases hn1 with y | y; exact absurd y q; exact y
        refine ⟨fun q2 v7 e7 v8 e8 => ?_, fun q2 v6 e6 => ?_⟩
        · obtain ⟨t1, t2⟩ := bit_set mF hF i (by omega)
          rw [t1] at e7
          subst e7 e8
          refine hc _ ⟨rfl, _, mR, i + 1, t2, hR, by omega, rfl, rfl, rfl, fun h hh => ?_⟩ hms
          rw [bit_get mF hF i (by omega) h hh, Bool.or_eq_true, decide_eq_true_iff, (hb h hh).1, (hb h hh).2]
          constructor
          · constructor
            · rintro (y | y)
              · subst y; exact ⟨by omega, q, q2⟩
              · exact ⟨by omega, y.2⟩
            · intro y
              by_cases e : h = i
              · exact Or.inl e
              · exact Or.inr ⟨by omega, y.2⟩
          · constructor
            · intro y; exact ⟨by omega, y.2⟩
            · intro y
              by_cases e : h = i
              · subst e; exact absurd y.2.2 hne1
              · exact ⟨by omega, y.2⟩
        · subst e6
          refine hc _ ⟨rfl, mF, mR, i + 1, hF, hR, by omega, rfl, rfl, rfl, fun h hh => ?_⟩ hms
          rw [(hb h hh).1, (hb h hh).2]
          constructor
          · constructor
            · intro y; exact ⟨by omega, y.2⟩
            · intro y
              by_cases e : h = i
              · subst e; exact absurd y.2.2 q2
              · exact ⟨by omega, y.2⟩
          · constructor
            · intro y; exact ⟨by omega, y.2⟩
            · intro y
              by_cases e : h = i
              · subst e; exact absurd y.2.2 hne1
              · exact ⟨by omega, y.2⟩
    refine ⟨fun q => h45 (Or.inl q), fun q => ⟨vp_in_nI (by omega) (by decide), vp_in_nI (by omega) (by decide), ?_⟩⟩
    rw [ix_nI (by omega), ix_nI (by omega), show a + 11 + 1 + i = a + 12 + i by omega, (hr.2.2 i (by omega) w (by omega)).2, nI_1]
    refine ⟨fun q2 v11 e11 v12 e12 => ?_, fun q2 => h45 (Or.inr q2)⟩
    obtain ⟨t1, t2⟩ := bit_set mR hR i (by omega)
    rw [t1] at e11
    subst e11 e12
    refine hc _ ⟨rfl, mF, _, i + 1, hF, t2, by omega, rfl, rfl, rfl, fun h hh => ?_⟩ hms
    rw [bit_get mR hR i (by omega) h hh, Bool.or_eq_true, decide_eq_true_iff, (hb h hh).1, (hb h hh).2]
    constructor
    · constructor
      · intro y; exact ⟨by omega, y.2⟩
      · intro y
        by_cases e : h = i
        · subst e; rw [q2] at y; exact absurd y.2.2 (by decide)
        · exact ⟨by omega, y.2⟩
    · constructor
      · rintro (y | y)
        · subst y; exact ⟨by omega, q, q2⟩
        · exact ⟨by omega, y.2⟩
      · intro y
        by_cases e : h = i
        · exact Or.inl e
        · exact Or.inr ⟨by omega, y.2⟩
/-- the offers for one word -/
def ofW (f : Nat → Nat → Int) (σ : St) (w : Nat) (l : List Nat) : Prop := σ.1 143 w = nI l.length ∧ (∀ i, (hi : i < l.length) → σ.1 (136 + w) i = nI l[i]) ∧ l.Nodup ∧ l.Pairwise (fun a b => f b w ≤ f a w) ∧ ∀ h, h ∈ l → h ≤ 6 ∧ (σ.2.1 (128 + h) w).toInt = f h w
theorem plv_eq : ∀ w, w < 7 → 1 ≤ w → ∀ h, h < 7 → (Int32.toInt64 (nI h * plv w)).toInt = ((h * 7 ^ (6 - w) : Nat) : Int) := by decide +kernel
theorem offer_C {K : St → Prop} {v : Nat → Nat → Int} {w h : Nat} {l : List Nat} {vI : Int64} (hw1 : 1 ≤ w) (hw6 : w ≤ 6) (hh : h ≤ 6) (hl : l.length ≤ 6) (ho : ofW (vW v) σ w l) (hn : h ∉ l) (hv : vI.toInt = v h w) (hb : -2 ^ 42 ≤ v h w ∧ v h w ≤ 2 ^ 42) (hK : ∀ σ' l', ofW (vW v) σ' w l' → (∀ a, a ∈ l' ↔ a ∈ l ∨ a = h) → (∀ c, c ≠ 136 + w → c ≠ 143 → σ'.1 c = σ.1 c) → (∀ u, u ≠ w → σ'.1 143 u = σ.1 143 u) → (∀ c z, z ≠ w ∨ c ≠ 128 + h → σ'.2.1 c z = σ.2.1 c z) → σ'.2.2 = σ.2.2 → l'.length = l.length + 1 → K σ') : P_X4_offer (nI h) (nI w) vI σ K := by
  unfold P_X4_offer
  rw [ix_nI (by omega)]
  obtain ⟨o1, o2, o3, o4, o5⟩ := ho
  refine ⟨vp_in_nI (by omega) (by decide), fun v3 e3 => ⟨vp_in_nI (by omega) (by decide), vp_in_nI (by omega) (by decide), fun v6 e6 => ?_⟩⟩
  rw [o1] at e6
  subst e6
  have hpl : h * 7 ^ (6 - w) ≤ 6 * 7 ^ 5 := Nat.mul_le_mul hh (Nat.pow_le_pow_right (by decide) (by omega))
  have hpe := plv_eq w (by omega) hw1 h (by omega)
  have c117 : (117649 : Int64).toInt = 117649 := by decide
  have hmul : (vI * 117649).toInt = v h w * 117649 := by
    rw [I64_mul, hv, c117]
    · rw [hv, c117]; omega
    · rw [hv, c117]; omega
  have hv3 : v3.toInt = vW v h w := by
    rw [e3, I64_sub, hmul, hpe, vW]
    · rw [hmul, hpe]; omega
    · rw [hmul, hpe]; omega
  refine LpE_for (S := Int32 × St) (fun i t => (nI (l.length - i), t)) (fun i σ' => σ'.2 = σ.2 ∧ (∀ c, c ≠ 136 + w → σ'.1 c = σ.1 c) ∧ (∀ z, (hz : z < l.length) → z < l.length - i → σ'.1 (136 + w) z = nI l[z]) ∧ (∀ z, (hz : z < l.length) → l.length - i ≤ z → σ'.1 (136 + w) (z + 1) = nI l[z] ∧ vW v l[z] w < vW v h w)) l.length ?_ 0 σ (by omega) ⟨rfl, fun _ _ => rfl, fun z hz _ => o2 z hz, fun z hz y => by omega⟩
  intro i σ' c hi ⟨f1, f2, f3, f4⟩ hc
  dsimp only
  -- the place is found
  have hJ : (l.length - i = 0 ∨ ∃ hz : l.length - i - 1 < l.length, vW v h w ≤ vW v l[l.length - i - 1] w) → J_X4_offer_75 K (nI h) (nI w) v3 (135 + 1 + w) (nI (l.length - i)) σ' := by
    intro hst
    unfold J_X4_offer_75
    rw [ix_nI (by omega), ix_nI (by omega), ix_nI (by omega)]
    refine ⟨vp_in_nI (by omega) (by decide), fun s8 e8 => ⟨vp_in_nI (by omega) (by decide), vp_in_nI (by omega) (by decide), fun s11 e11 => ⟨vp_in_nI (by omega) (by decide), vp_in_nI (by omega) (by decide), fun s14 e14 => ?_⟩⟩⟩
    rw [show 135 + 1 + w = 136 + w by omega] at e8
    rw [show 127 + 1 + h = 128 + h by omega] at e11
    have e143 : s11.1 143 w = nI l.length := by rw [e11, wL_1, e8, wI_ne (by omega), f2 143 (by omega)]; exact o1
    rw [e143, nI_1] at e14
    have hA : ∀ a, a ∈ l.take (l.length - i) → vW v h w ≤ vW v a w := by
      intro a ha
      obtain ⟨j, hj, rfl⟩ := List.mem_iff_getElem.mp ha
      rw [List.length_take] at hj
      rw [List.getElem_take]
      rcases hst with y | ⟨y1, y2⟩
      · omega
      · by_cases e : j = l.length - i - 1
        · subst e; exact y2
        · have := List.pairwise_iff_getElem.mp o4 j (l.length - i - 1) (by omega) y1 (by omega)
          exact Int.le_trans y2 this
    have hB : ∀ b, b ∈ l.drop (l.length - i) → vW v b w < vW v h w := by
      intro b hb
      obtain ⟨j, hj, rfl⟩ := List.mem_iff_getElem.mp hb
      rw [List.length_drop] at hj
      rw [List.getElem_drop]
      exact (f4 (l.length - i + j) (by omega) (by omega)).2
    have hlm : l = l.take (l.length - i) ++ l.drop (l.length - i) := (List.take_append_drop _ _).symm
    have hmem : ∀ a, a ∈ l.take (l.length - i) ++ h :: l.drop (l.length - i) ↔ a ∈ l ∨ a = h := by
      intro a
      have : a ∈ l ↔ a ∈ l.take (l.length - i) ∨ a ∈ l.drop (l.length - i) := by
        rw [← List.mem_append, List.take_append_drop]
      rw [this, List.mem_append, List.mem_cons]
      constructor
      · rintro (y | y | y)
        · exact Or.inl (Or.inl y)
        · exact Or.inr y
        · exact Or.inl (Or.inr y)
      · rintro ((y | y) | y)
        · exact Or.inl y
        · exact Or.inr (Or.inr y)
        · exact Or.inr (Or.inl y)
    have hlen : (l.take (l.length - i) ++ h :: l.drop (l.length - i)).length = l.length + 1 := by
      rw [List.length_append, List.length_cons, List.length_take, List.length_drop]; omega
    have hval : ∀ c z, s14.2.1 c z = if c = 128 + h ∧ z = w then v3 else σ.2.1 c z := by
      intro c z
      rw [e14, wI_2, e11, wL_at, e8, wI_2, f1]
    refine hK s14 (l.take (l.length - i) ++ h :: l.drop (l.length - i)) ⟨by rw [hlen, e14]; exact wI_self, fun z hz => ?_, ?_, ?_, fun a ha => ?_⟩ hmem (fun c c1 c2 => by rw [e14, wI_ne c2, e11, wL_1, e8, wI_ne c1]; exact f2 c c1) (fun u hu => by rw [e14, wI_ni hu, e11, wL_1, e8, wI_ne (by omega), f2 143 (by omega)]) (fun c z hcz => by rw [hval, if_neg (fun y => by omega)]) (by rw [e14, wI_2, e11, wL_22, e8, wI_2, f1]) hlen
    · rw [hlen] at hz
      rw [e14, wI_ne (by omega), e11, wL_1, e8]
      by_cases e : z = l.length - i
      · subst e
        rw [wI_self, List.getElem_append_right (by rw [List.length_take]; omega)]
        simp only [List.length_take, show l.length - i - min (l.length - i) l.length = 0 by omega, List.getElem_cons_zero]
      · rw [wI_ni e]
        rcases Nat.lt_or_ge z (l.length - i) with y | y
        · rw [List.getElem_append_left (by rw [List.length_take]; omega), List.getElem_take]
          exact f3 z (by omega) y
        · have := (f4 (z - 1) (by omega) (by omega)).1
          rw [show z - 1 + 1 = z by omega] at this
          rw [this, List.getElem_append_right (by rw [List.length_take]; omega)]
          have e6 : z - (l.take (l.length - i)).length = (z - 1 - (l.length - i)) + 1 := by rw [List.length_take]; omega
          simp only [e6, List.getElem_cons_succ, List.getElem_drop]
          congr 2; omega
    · rw [List.nodup_append]
      have hnd := o3
      rw [hlm, List.nodup_append] at hnd
      refine ⟨hnd.1, List.nodup_cons.mpr ⟨fun y => hn (List.mem_of_mem_drop y), hnd.2.1⟩, fun a ha b hb => ?_⟩
      rcases List.mem_cons.mp hb with y | y
      · intro e
        rw [e, y] at ha
        exact hn (List.mem_of_mem_take ha)
      · exact hnd.2.2 a ha b y
    · rw [List.pairwise_append]
      have hpw := o4
      rw [hlm, List.pairwise_append] at hpw
      refine ⟨hpw.1, List.pairwise_cons.mpr ⟨fun b hb => by have := hB b hb; omega, hpw.2.1⟩, fun a ha b hb => ?_⟩
      rcases List.mem_cons.mp hb with y | y
      · rw [y]; exact hA a ha
      · exact hpw.2.2 a ha b y
    · rw [hval]
      rcases (hmem a).mp ha with y | y
      · have hne : a ≠ h := fun e => hn (e ▸ y)
        rw [if_neg (fun q => by omega)]; exact o5 a y
      · subst y
        rw [if_pos ⟨rfl, rfl⟩]; exact ⟨hh, hv3⟩
  unfold F_X4_offer_32
  rw [show (0 : Int32) = nI 0 from rfl, nI_leI (by omega) (by omega)]
  refine ⟨fun y => hJ (Or.inl (by omega)), fun y => ?_⟩
  rw [show nI (l.length - i) - 1 = nI (l.length - i - 1) from pk_sub (b := 1) (by omega), ix_nI (by omega), show 135 + 1 + w = 136 + w by omega, f3 (l.length - i - 1) (by omega) (by omega)]
  have ho5 := o5 _ (List.getElem_mem (l := l) (n := l.length - i - 1) (by omega))
  rw [ix_nI (by omega), ix_nI (by omega), Int64.le_iff_toInt_le, f1, show 127 + 1 + l[l.length - i - 1] = 128 + l[l.length - i - 1] by omega, ho5.2, hv3]
  refine ⟨vp_in_nI (by omega) (by decide), vp_in_nI (by omega) (by decide), vp_in_nI (by omega) (by decide), fun q => hJ (Or.inr ⟨by omega, q⟩), fun q => ⟨vp_in_nI (by omega) (by decide), vp_in_nI (by omega) (by decide), fun s20 e20 v21 e21 => ?_⟩⟩
  rw [← Int32.sub_eq_add_neg, show nI (l.length - i) - 1 = nI (l.length - i - 1) from pk_sub (b := 1) (by omega), show l.length - i - 1 = l.length - (i + 1) by omega] at e21
  rw [ix_nI (by omega)] at e20
  rw [e21]
  refine hc s20 (by omega) ⟨by rw [e20, wI_2]; exact f1, fun c hc => by rw [e20, wI_ne hc]; exact f2 c hc, fun z hz hz2 => by rw [e20, wI_ni (by omega)]; exact f3 z hz (by omega), fun z hz hz2 => ?_⟩
  rw [e20]
  by_cases e : z + 1 = l.length - i
  · rw [e, wI_self]
    have ez : l.length - i - 1 = z := by omega
    simp only [ez]
    simp only [ez] at q
    exact ⟨trivial, by omega⟩
  · rw [wI_ni e]; exact f4 z hz (by omega)
/-- what the offers change -/
def frO2 (σ σ' : St) : Prop := (∀ c, c ≠ 126 → c ≠ 143 → c < 137 ∨ 142 < c → σ'.1 c = σ.1 c) ∧ (∀ f, f ≠ 1 → σ'.1 126 f = σ.1 126 f) ∧ (∀ c, c < 128 ∨ 134 < c → σ'.2.1 c = σ.2.1 c) ∧ σ'.2.2 = σ.2.2
theorem frO2.tr {a b c : St} (h : frO2 a b) (h2 : frO2 b c) : frO2 a c := ⟨fun k k1 k2 k3 => (h2.1 k k1 k2 k3).trans (h.1 k k1 k2 k3), fun f hf => (h2.2.1 f hf).trans (h.2.1 f hf), fun k hk => (h2.2.2.1 k hk).trans (h.2.2.1 k hk), h2.2.2.2.trans h.2.2.2⟩
theorem frO2.rf {a : St} : frO2 a a := ⟨fun _ _ _ _ => rfl, fun _ _ => rfl, fun _ _ => rfl, rfl⟩
theorem RS_fr2 {σ' : St} {a : Nat} {x : SentT} (ha : sOk a) (h : RS σ a x) (hf : frO2 σ σ') : RS σ' a x := RS_fr ha h (fun k hk => hf.1 k (by have := hk.1; omega) (by have := hk.1; omega) (by have := hk.1; omega))
theorem offerArcs_C {K : St → Prop} {a : Nat} {fI : Int32} {x : SentT} {v : Nat → Nat → Int} {vI : Nat → Nat → Int64} (hx : wfS x) (ha : sOk a) (hr : RS σ a x) (hv : ∀ h w, 1 ≤ w → w ≤ sZ x → chP x h w → (vI h w).toInt = v h w ∧ -2 ^ 42 ≤ v h w ∧ v h w ≤ 2 ^ 42) (h0 : fI = 0 → ∀ σ' h w (C : Int64 → St → Prop), frO2 σ σ' → 1 ≤ w → w ≤ sZ x → chP x h w → C (vI h w) σ' → P_X7_arcScore a (nI h) (nI w) σ' (fun r s => C (Int32.toInt64 r) s)) (h1 : fI ≠ 0 → ∀ σ' h w (C : Int64 → St → Prop), frO2 σ σ' → 1 ≤ w → w ≤ sZ x → chP x h w → C (vI h w) σ' → P_X5_arcSum (nI h) (nI w) σ' C) (hK : ∀ σ' (of : Nat → List Nat), frO2 σ σ' → σ'.1 126 1 = nI (sZ x) → (∀ w, 1 ≤ w → w ≤ sZ x → ofW (vW v) σ' w (of w) ∧ (of w).length ≤ 7 ∧ ∀ h, h ∈ of w ↔ chP x h w) → K σ') : P_X7_offerArcs a fI σ K := by
  have hz := hx.1
  unfold P_X7_offerArcs P_X4_begin
  intro s1 e1
  rw [hr.1] at e1
  refine LpE_for1 (fun i σ' => frO2 σ σ' ∧ σ'.1 126 1 = nI (sZ x) ∧ ∀ u, u < i → σ'.1 143 u = 0) 7 ?_ 0 s1 (by omega) ⟨⟨fun c c1 _ _ => by rw [e1, wI_ne c1], fun f hf => by rw [e1, wI_ni hf], fun c _ => by rw [e1, wI_2], by rw [e1, wI_2]⟩, by rw [e1]; exact wI_self, fun u hu => absurd hu (Nat.not_lt_zero _)⟩
  intro i σ1 c hi ⟨f1, f2, f3⟩ hc
  dsimp only
  unfold F_X4_begin_7
  rw [show (7 : Int32) = nI 7 from rfl, nI_leI (by omega) (by omega)]
  refine ⟨fun y => ?_, fun y => ⟨vp_in_nI (by omega) (by decide), fun s3 e3 v4 e4 => ?_⟩⟩
  · -- the words
    refine LpE_for (S := Int32 × St) (fun i t => (nI (i + 1), t)) (fun i σ' => frO2 σ σ' ∧ σ'.1 126 1 = nI (sZ x) ∧ (∀ u, 1 ≤ u → u ≤ i → ∃ l, ofW (vW v) σ' u l ∧ ∀ h, h ∈ l ↔ chP x h u) ∧ ∀ u, i < u → u < 7 → σ'.1 143 u = 0) (sZ x) ?_ 0 σ1 (by omega) ⟨f1, f2, fun u u1 u2 => by omega, fun u _ u2 => f3 u (by omega)⟩
    intro i σ' c hi ⟨g1, g2, g3, g4⟩ hc
    dsimp only
    unfold F_X7_offerArcs_13
    have hr' := RS_fr2 ha hr g1
    rw [hr'.1, nI_ltI (by omega) (by omega)]
    refine ⟨fun y => ?_, fun y => ?_⟩
    · have hall : ∀ u, ∃ l, (1 ≤ u → u ≤ sZ x → ofW (vW v) σ' u l ∧ ∀ h, h ∈ l ↔ chP x h u) := by
        intro u
        by_cases q : 1 ≤ u ∧ u ≤ sZ x
        · obtain ⟨l, hl⟩ := g3 u q.1 (by omega)
          exact ⟨l, fun _ _ => hl⟩
        · exact ⟨[], fun q1 q2 => absurd ⟨q1, q2⟩ q⟩
      refine hK σ' (fun u => Classical.choose (hall u)) g1 g2 (fun w w1 w2 => ?_)
      have hw := Classical.choose_spec (hall w) w1 w2
      refine ⟨hw.1, ?_, hw.2⟩
      exact nodup_bound 7 _ hw.1.2.2.1 (fun b hb => by have := (hw.1.2.2.2.2 b hb).1; omega)
    · refine headCh_C hx hr' (by omega) (by omega) (fun m hm hmb => ?_)
      refine LpE_for1 (fun j σ2 => frO2 σ' σ2 ∧ σ2.1 126 1 = nI (sZ x) ∧ (∀ u, 1 ≤ u → u ≤ i → ∃ l, ofW (vW v) σ2 u l ∧ ∀ h, h ∈ l ↔ chP x h u) ∧ (∀ u, i + 1 < u → u < 7 → σ2.1 143 u = 0) ∧ ∃ l, ofW (vW v) σ2 (i + 1) l ∧ ∀ h, h ∈ l ↔ h < j ∧ chP x h (i + 1)) (sZ x + 1) ?_ 0 σ' (by omega) ⟨frO2.rf, g2, g3, fun u u1 u2 => g4 u (by omega) u2, [], ⟨by rw [g4 (i + 1) (by omega) (by omega)]; rfl, fun z hz => absurd hz (Nat.not_lt_zero _), List.nodup_nil, List.Pairwise.nil, fun h hh => by cases hh⟩, fun h => ⟨fun hh => (by cases hh), fun hh => by omega⟩⟩
      intro j σ2 c2 hj ⟨k1, k2, k3, k4, l, k5, k6⟩ hc2
      dsimp only
      unfold F_X7_offerArcs_31
      have hr2 := RS_fr2 ha hr' k1
      have hll : l.length ≤ j := nodup_bound j l k5.2.2.1 (fun b hb => ((k6 b).mp hb).1)
      rw [hr2.1, nI_ltI (by omega) (by omega), nI_1, nI_1]
      refine ⟨fun y2 v4 e4 => ?_, fun y2 => ?_⟩
      · rw [e4]
        refine hc σ2 (by omega) ⟨g1.tr k1, k2, fun u u1 u2 => ?_, fun u u1 u2 => k4 u (by omega) u2⟩
        by_cases e : u = i + 1
        · subst e
          refine ⟨l, k5, fun h => ?_⟩
          rw [k6]
          exact ⟨fun q => q.2, fun q => ⟨by have := q.1; omega, q⟩⟩
        · exact k3 u u1 (by omega)
      · unfold P_X7_holds
        rw [bit_test m hm j (by omega), hmb j (by omega)]
        refine ⟨fun hch => ⟨fun z => absurd z (by decide), fun _ => ?_⟩, fun hch => ⟨fun _ v7 e7 => ?_, fun z => absurd rfl z⟩⟩
        · -- one more offer
          have hgo : ∀ C : Int64 → St → Prop, (C (vI j (i + 1)) σ2) → True := fun _ _ => trivial
          have hoff : J_X7_offerArcs_83 K c c2 a fI (nI (i + 1)) (nI m) (nI j) (nI j) (nI (i + 1)) (vI j (i + 1)) σ2 := by
            unfold J_X7_offerArcs_83
            obtain ⟨q1, q2⟩ := hv j (i + 1) (by omega) (by omega) hch
            refine offer_C (by omega) (by omega) (by omega) (by omega) k5 (fun q => by have := ((k6 j).mp q).1; omega) q1 q2 (fun σ3 l3 r1 r2 r3 r4 r5 r6 r7 v11 e11 => ?_)
            rw [nI_1] at e11
            rw [e11]
            have hof : ∀ u l, 1 ≤ u → u < 7 → u ≠ i + 1 → ofW (vW v) σ2 u l → ofW (vW v) σ3 u l := by
              intro u l u1 u7 hu ho
              obtain ⟨o1, o2, o3, o4, o5⟩ := ho
              refine ⟨by rw [r4 u hu]; exact o1, fun z hz => by rw [r3 (136 + u) (by omega) (by omega)]; exact o2 z hz, o3, o4, fun h hh => ?_⟩
              rw [r5 (128 + h) u (Or.inl hu)]; exact o5 h hh
            refine hc2 σ3 (by omega) ⟨k1.tr ⟨fun c c1 c2 c3 => r3 c (by omega) c2, fun f hf => by rw [r3 126 (by omega) (by omega)], fun c hc => ?_, r6⟩, by rw [r3 126 (by omega) (by omega)]; exact k2, fun u u1 u2 => ?_, fun u u1 u2 => by rw [r4 u (by omega)]; exact k4 u u1 u2, l3, r1, fun h => ?_⟩
            · funext z
              exact r5 c z (Or.inr (by omega))
            · obtain ⟨l4, t1, t2⟩ := k3 u u1 u2
              exact ⟨l4, hof u l4 u1 (by omega) (by omega) t1, t2⟩
            · rw [r2, k6]
              constructor
              · rintro (q | q)
                · exact ⟨by omega, q.2⟩
                · subst q; exact ⟨by omega, hch⟩
              · intro q
                by_cases e : h = j
                · exact Or.inr e
                · exact Or.inl ⟨by omega, q.2⟩
          refine ⟨fun y3 => h0 y3 σ2 j (i + 1) (fun r s => J_X7_offerArcs_83 K c c2 a fI (nI (i + 1)) (nI m) (nI j) (nI j) (nI (i + 1)) r s) (g1.tr k1) (by omega) (by omega) hch hoff, fun y3 => h1 y3 σ2 j (i + 1) _ (g1.tr k1) (by omega) (by omega) hch hoff⟩
        · rw [e7]
          refine hc2 σ2 (by omega) ⟨k1, k2, k3, k4, l, k5, fun h => ?_⟩
          rw [k6]
          constructor
          · intro q; exact ⟨by omega, q.2⟩
          · intro q
            by_cases e : h = j
            · subst e; exact absurd q.2 hch
            · exact ⟨by omega, q.2⟩
  · rw [nI_1] at e4
    rw [ix_nI (by omega)] at e3
    rw [e4]
    refine hc s3 (by omega) ⟨f1.tr ⟨fun c c1 c2 c3 => by rw [e3, wI_ne c2], fun f _ => by rw [e3, wI_ne (by omega)], fun c _ => by rw [e3, wI_2], by rw [e3, wI_2]⟩, by rw [e3, wI_ne (by omega)]; exact f2, fun u hu => ?_⟩
    rw [e3]
    by_cases e : u = i
    · subst e; exact wI_self
    · rw [wI_ni e]; exact f3 u (by omega)
end HCH
