/-! the class's search -/
theorem I64_add {a b : Int64} (h1 : -2 ^ 63 ≤ a.toInt + b.toInt) (h2 : a.toInt + b.toInt < 2 ^ 63) : (a + b).toInt = a.toInt + b.toInt := by
  rw [Int64.toInt_add]; exact Int.bmod_eq_of_le h1 h2
theorem I64_sub {a b : Int64} (h1 : -2 ^ 63 ≤ a.toInt - b.toInt) (h2 : a.toInt - b.toInt < 2 ^ 63) : (a - b).toInt = a.toInt - b.toInt := by
  rw [Int64.toInt_sub]; exact Int.bmod_eq_of_le h1 h2
theorem I64_mul {a b : Int64} (h1 : -2 ^ 63 ≤ a.toInt * b.toInt) (h2 : a.toInt * b.toInt < 2 ^ 63) : (a * b).toInt = a.toInt * b.toInt := by
  rw [Int64.toInt_mul]; exact Int.bmod_eq_of_le h1 h2
theorem I64_neg {a : Int64} (h1 : -2 ^ 63 < a.toInt) : (-a).toInt = -a.toInt := by
  rw [Int64.toInt_neg]; exact Int.bmod_eq_of_le (by have := a.toInt_lt; omega) (by omega)
def KS (σ : St) (k : Nat) (L : List Int) : Prop := L.length ≤ k ∧ σ.1 126 9 = nI L.length ∧ ∀ i, (hi : i < L.length) → (σ.2.1 146 i).toInt = L[i]
def FD (σ σ' : St) : Prop := (∀ c, c ≠ 145 → c ≠ 126 → σ'.1 c = σ.1 c) ∧ (∀ f, f ≠ 9 → σ'.1 126 f = σ.1 126 f) ∧ (∀ c, c ≠ 146 → σ'.2.1 c = σ.2.1 c) ∧ σ'.2.2 = σ.2.2
theorem FD.rf {σ : St} : FD σ σ := ⟨fun _ _ _ => rfl, fun _ _ => rfl, fun _ _ => rfl, rfl⟩
theorem FD.tr {a b c : St} (h : FD a b) (h2 : FD b c) : FD a c := ⟨fun k k1 k2 => (h2.1 k k1 k2).trans (h.1 k k1 k2), fun f hf => (h2.2.1 f hf).trans (h.2.1 f hf), fun k hk => (h2.2.2.1 k hk).trans (h.2.2.1 k hk), h2.2.2.2.trans h.2.2.2⟩
section SRC
variable {σ : St}
theorem keep_C {K : St → Prop} {k : Nat} {A B : List Int} {vI : Int64} (hk1 : 1 ≤ k) (hk6 : k ≤ 6) (hw : σ.1 126 8 = nI k) (h : KS σ k (A ++ B)) (hA : ∀ a, a ∈ A → vI.toInt < a) (hB : ∀ b, b ∈ B → b < vI.toInt) (hf : (A ++ B).length = k → B ≠ []) (hK : ∀ σ', FD σ σ' → σ'.1 145 = σ.1 145 → KS σ' k ((A ++ vI.toInt :: B).take k) → K σ') : P_X4_keep vI σ K := by
  unfold P_X4_keep
  obtain ⟨h1, h2, h3⟩ := h
  have hlen : (A ++ B).length = A.length + B.length := List.length_append
  have hA0 : A.length ≤ k - 1 := by
    rcases Nat.lt_or_ge (A ++ B).length k with z | z
    · omega
    · have := hf (by omega)
      have : 0 < B.length := List.length_pos_iff.mpr this
      omega
  have main : ∀ a0, a0 < 6 → A.length ≤ a0 → a0 ≤ (A ++ B).length → a0 + 1 = min k ((A ++ B).length + 1) → LpE (fun c s => F_X4_keep_25 K c vI s.1 s.2) (nI a0, σ) := by
    intro a0 ha6 haA haL hmin
    refine LpE_for (S := Int32 × St) (fun i t => (nI (a0 - i), t)) (fun i σ' => FD σ σ' ∧ σ'.1 = σ.1 ∧ (∀ z, (hz : z < (A ++ B).length) → z < a0 - i → (σ'.2.1 146 z).toInt = (A ++ B)[z]) ∧ ∀ z, (hz : z < (A ++ B).length) → a0 - i ≤ z → z < a0 → (σ'.2.1 146 (z + 1)).toInt = (A ++ B)[z]) (a0 - A.length) ?_ 0 σ (by omega) ⟨FD.rf, rfl, fun z hz _ => h3 z hz, fun z hz a b => by omega⟩
    intro i σ' c hi ⟨f1, f2, f3, f4⟩ hc
    dsimp only
    have hJ : a0 - i = A.length → J_X4_keep_62 K vI (nI (a0 - i)) σ' := by
      intro e
      unfold J_X4_keep_62
      refine ⟨vp_in_nI (by omega) (by decide), fun s3 e3 v4 e4 s5 e5 => ?_⟩
      rw [ix_nI (by omega)] at e3
      have g8 : s3.1 126 8 = nI k := by rw [e3, wL_1, f2]; exact hw
      have g9 : s3.1 126 9 = nI (A ++ B).length := by rw [e3, wL_1, f2]; exact h2
      rw [g8, g9, nI_1] at e4
      have elt : nI k < nI ((A ++ B).length + 1) ↔ k < (A ++ B).length + 1 := nI_ltI (by omega) (by omega)
      simp only [elt] at e4
      have hl2 : ((A ++ vI.toInt :: B).take k).length = min k ((A ++ B).length + 1) := by rw [List.length_take, List.length_append, List.length_cons]; omega
      have e4' : v4 = nI (min k ((A ++ B).length + 1)) := by
        rw [e4]
        by_cases z : k < (A ++ B).length + 1
        · rw [if_pos z]; congr 1; omega
        · rw [if_neg z]; congr 1; omega
      refine hK s5 ?_ ?_ ⟨by rw [List.length_take]; omega, ?_, fun z hz => ?_⟩
      · refine f1.tr ⟨fun c _ c2 => by rw [e5, wI_ne c2, e3, wL_1], fun f hf => by rw [e5, wI_ni hf, e3, wL_1], fun c hc => by rw [e5, wI_2, e3, wL_ne hc], by rw [e5, wI_2, e3, wL_22]⟩
      · rw [e5, wI_ne (by omega), e3, wL_1, f2]
      · rw [e5, wI_self, e4', hl2]
      · rw [hl2] at hz
        rw [List.getElem_take, e5, wI_2, e3]
        show (if 146 = 146 ∧ z = a0 - i then vI else σ'.2.1 146 z).toInt = _
        by_cases q : z = A.length
        · rw [if_pos ⟨rfl, by omega⟩]
          subst q
          rw [List.getElem_append_right (Nat.le_refl _)]
          simp only [Nat.sub_self, List.getElem_cons_zero]
        · rw [if_neg (fun y => by omega)]
          rcases Nat.lt_or_ge z A.length with q2 | q2
          · rw [List.getElem_append_left q2, f3 z (by omega) (by omega), List.getElem_append_left q2]
          · have := f4 (z - 1) (by omega) (by omega) (by omega)
            rw [show z - 1 + 1 = z by omega] at this
            rw [this, List.getElem_append_right (by omega), List.getElem_append_right (by omega)]
            have e6 : z - A.length = (z - 1 - A.length) + 1 := by omega
            simp only [e6, List.getElem_cons_succ]
    unfold F_X4_keep_25
    rw [show (0 : Int32) = nI 0 from rfl, nI_leI (by omega) (by omega)]
    refine ⟨fun z => hJ (by omega), fun z => ?_⟩
    rw [show nI (a0 - i) - 1 = nI (a0 - i - 1) from pk_sub (b := 1) (by omega), ix_nI (by omega), Int64.le_iff_toInt_le, f3 (a0 - i - 1) (by omega) (by omega)]
    refine ⟨vp_in_nI (by omega) (by decide), fun q => hJ ?_, fun q => ⟨vp_in_nI (by omega) (by decide), vp_in_nI (by omega) (by decide), fun s9 e9 v10 e10 => ?_⟩⟩
    · rcases Nat.lt_or_ge A.length (a0 - i) with y | y
      · exfalso
        rw [List.getElem_append_right (by omega)] at q
        have := hB _ (List.getElem_mem (l := B) (n := a0 - i - 1 - A.length) (by omega))
        omega
      · omega
    · have y : A.length < a0 - i := by
        rcases Nat.lt_or_ge A.length (a0 - i) with y | y
        · exact y
        · exfalso
          rw [List.getElem_append_left (show a0 - i - 1 < A.length by omega)] at q
          have := hA _ (List.getElem_mem (l := A) (n := a0 - i - 1) (by omega))
          omega
      rw [← Int32.sub_eq_add_neg, show nI (a0 - i) - 1 = nI (a0 - i - 1) from pk_sub (b := 1) (by omega), show a0 - i - 1 = a0 - (i + 1) by omega] at e10
      rw [ix_nI (by omega)] at e9
      rw [e10]
      refine hc s9 (by omega) ⟨f1.tr ⟨fun c _ _ => by rw [e9, wL_1], fun f _ => by rw [e9, wL_1], fun c hc => by rw [e9, wL_ne hc], by rw [e9, wL_22]⟩, by rw [e9, wL_1]; exact f2, fun z hz hz2 => ?_, fun z hz hz2 hz3 => ?_⟩
      · rw [e9]
        show (if 146 = 146 ∧ z = a0 - i then σ'.2.1 146 (a0 - i - 1) else σ'.2.1 146 z).toInt = _
        rw [if_neg (fun y => by omega)]; exact f3 z hz (by omega)
      · rw [e9]
        show (if 146 = 146 ∧ z + 1 = a0 - i then σ'.2.1 146 (a0 - i - 1) else σ'.2.1 146 (z + 1)).toInt = _
        by_cases e : z + 1 = a0 - i
        · rw [if_pos ⟨rfl, e⟩, f3 (a0 - i - 1) (by omega) (by omega)]
          have : a0 - i - 1 = z := by omega
          simp only [this]
        · rw [if_neg (fun y => e y.2)]; exact f4 z hz (by omega) hz3
  rw [hw, h2, nI_leI (by omega) (by omega)]
  refine ⟨fun z v1 e1 => ?_, fun z v11 e11 => ?_⟩
  · rw [show nI k - 1 = nI (k - 1) from pk_sub (b := 1) (by omega)] at e1
    rw [e1]
    exact main (k - 1) (by omega) (by omega) (by omega) (by omega)
  · rw [e11]
    exact main (A ++ B).length (by omega) (by omega) (by omega) (by omega)
theorem closes_C {K : Int32 → St → Prop} {p : List Nat} {w h : Nat} (hw : p.length + 1 = w) (hw6 : w ≤ 6) (hp : ∀ u, 1 ≤ u → u < w → σ.1 145 u = nI (hL p u) ∧ hL p u ≤ 6) (hh : h ≤ 6) (h1 : walkT (hL p) w w h = w → K 1 σ) (h0 : walkT (hL p) w w h ≠ w → K 0 σ) : P_X4_closesCycle (nI h) (nI w) σ K := by
  unfold P_X4_closesCycle
  refine LpE_inv (fun s' => s'.2.2 = σ ∧ ∃ v i, i ≤ w ∧ v ≤ 6 ∧ s'.1 = nI v ∧ s'.2.1 = nI i ∧ walkT (hL p) w (w - i) v = walkT (hL p) w w h) (fun s' => 20 - ix s'.2.1) ?_ _ ⟨rfl, h, 0, by omega, hh, rfl, rfl, rfl⟩
  intro s' c hI hc
  obtain ⟨x1, x2, σ'⟩ := s'
  obtain ⟨e1, v, i, hi, hv, e2, e3, e4⟩ := hI
  dsimp only at e1 e2 e3
  subst e1 e2 e3
  dsimp only
  have hJ : walkT (hL p) w w h = v → J_X4_closesCycle_33 K (nI w) (nI v) σ' := by
    intro e
    unfold J_X4_closesCycle_33
    rw [nI_eq (by omega) (by omega)]
    exact ⟨fun z => h1 (by omega), fun z => h0 (by omega)⟩
  unfold F_X4_closesCycle_5
  rw [nI_leI (by omega) (by omega), show (0 : Int32) = nI 0 from rfl, nI_leI (by omega) (by omega), nI_leI (by omega) (by omega)]
  refine ⟨fun z => hJ ?_, fun z => ⟨fun z2 => hJ ?_, fun z2 => ⟨fun z3 => hJ ?_, fun z3 => ⟨vp_in_nI (by omega) (by decide), fun v2 e2 v3 e3 => ?_⟩⟩⟩⟩
  · rw [← e4, show w - i = 0 by omega]; rfl
  · rw [← e4, show w - i = (w - i - 1) + 1 by omega, walkT, if_neg (by omega)]
  · rw [← e4, show w - i = (w - i - 1) + 1 by omega, walkT, if_neg (by omega)]
  · have := hp v (by omega) (by omega)
    rw [ix_nI (by omega), this.1] at e2
    rw [nI_1] at e3
    subst e2 e3
    refine hc _ ⟨rfl, hL p v, i + 1, by omega, this.2, rfl, rfl, ?_⟩ ?_
    · rw [← e4, show w - i = (w - (i + 1)) + 1 by omega, walkT, if_pos ⟨by omega, by omega⟩]
    · show 20 - ix (nI (i + 1)) < 20 - ix (nI i)
      rw [ix_nI (by omega), ix_nI (by omega)]; omega
theorem crossE_C {K : Int32 → St → Prop} {p : List Nat} {w h : Nat} (hw : p.length + 1 = w) (hw6 : w ≤ 6) (hp : ∀ u, 1 ≤ u → u < w → σ.1 145 u = nI (hL p u) ∧ hL p u ≤ 6) (hh : h ≤ 6) (h1 : (∃ u, 1 ≤ u ∧ u ≤ p.length ∧ crP h w (hL p u) u) → K 1 σ) (h0 : (∀ u, 1 ≤ u → u ≤ p.length → ¬ crP h w (hL p u) u) → K 0 σ) : P_X4_crossesEarlier (nI h) (nI w) σ K := by
  unfold P_X4_crossesEarlier
  refine LpE_for (S := Int32 × St) (T := Unit) (fun i _ => (nI (i + 1), σ)) (fun i _ => ∀ u, 1 ≤ u → u ≤ i → ¬ crP h w (hL p u) u) p.length ?_ 0 () (by omega) (fun u u1 u2 => by omega)
  intro i _ c hi hI hc
  dsimp only
  unfold F_X4_crossesEarlier_2
  rw [nI_leI (by omega) (by omega)]
  refine ⟨fun z => h0 (fun u u1 u2 => hI u u1 (by omega)), fun z => ⟨vp_in_nI (by omega) (by decide), ?_⟩⟩
  have := hp (i + 1) (by omega) (by omega)
  rw [ix_nI (by omega), this.1]
  refine cross_C (by omega) (by omega) (by omega) (by omega) (fun hc2 => ⟨fun z => absurd z (by decide), fun _ => h1 ⟨i + 1, by omega, by omega, hc2⟩⟩) (fun hc2 => ⟨fun _ v4 e4 => ?_, fun z => absurd rfl z⟩)
  rw [e4, nI_1]
  refine hc () (by omega) (fun u u1 u2 => ?_)
  by_cases e : u = i + 1
  · rw [e]; exact hc2
  · exact hI u u1 (by omega)
end SRC
