/-! the reference's ranks -/
def Row (sc : Nat → Nat → Int32) (n : Nat) (σ : St) (i : Nat) (r : List Nat) : Prop := σ.1 220 i = scL sc r ∧ ∀ w, 1 ≤ w → w ≤ n → σ.1 221 (7 * i + w) = nI (hL r w)
def RKc (sc : Nat → Nat → Int32) (n : Nat) (σ : St) (R : List (List Nat)) : Prop := σ.1 204 21 = nI R.length ∧ R.length ≤ 6 ∧ ∀ i, (hi : i < R.length) → Row sc n σ i R[i]
section RNK
variable {σ : St} {n : Nat} {sc : Nat → Nat → Int32}
theorem Row_fr {σ' : St} {i : Nat} {r : List Nat} (h : Row sc n σ i r) (h1 : σ'.1 220 i = σ.1 220 i) (h2 : ∀ w, 1 ≤ w → w ≤ n → σ'.1 221 (7 * i + w) = σ.1 221 (7 * i + w)) : Row sc n σ' i r := ⟨by rw [h1]; exact h.1, fun w w1 w2 => by rw [h2 w w1 w2]; exact h.2 w w1 w2⟩
theorem ranks_M {K : St → Prop} {l : List Nat} {A B : List (List Nat)} (hn1 : 1 ≤ n) (hn : n ≤ 6) (h : RKc sc n σ (A ++ B)) (hA : ∀ a, a ∈ A → (scL sc l).toInt ≤ (scL sc a).toInt) (hB : ∀ b, b ∈ B → (scL sc b).toInt < (scL sc l).toInt) (ht : ∀ w, 1 ≤ w → w ≤ n → σ.1 219 w = nI (hL l w)) (hK : ∀ σ', (σ'.2 = σ.2 ∧ (∀ c, c ≠ 204 → c ≠ 220 → c ≠ 221 → σ'.1 c = σ.1 c) ∧ ∀ f, f ≠ 21 → σ'.1 204 f = σ.1 204 f) → RKc sc n σ' ((A ++ l :: B).take 6) → K σ') : P_X8_ranks (nI n) (scL sc l) σ K := by
  unfold P_X8_ranks
  obtain ⟨h1, h2, h3⟩ := h
  have hlen : (A ++ B).length = A.length + B.length := List.length_append
  have main : LpE (fun c s => F_X8_ranks_19 K c (nI n) (scL sc l) s.1 s.2) (nI (A ++ B).length, σ) := by
    refine LpE_for (S := Int32 × St) (fun i t => (nI ((A ++ B).length - i), t)) (fun i σ' => (σ'.2 = σ.2 ∧ ∀ c, c ≠ 220 → c ≠ 221 → σ'.1 c = σ.1 c) ∧ (∀ z, (hz : z < (A ++ B).length) → z < (A ++ B).length - i → Row sc n σ' z (A ++ B)[z]) ∧ ∀ z, (hz : z < (A ++ B).length) → (A ++ B).length - i ≤ z → Row sc n σ' (z + 1) (A ++ B)[z]) B.length ?_ 0 σ (by omega) ⟨⟨rfl, fun _ _ _ => rfl⟩, fun z hz _ => h3 z hz, fun z hz y => by omega⟩
    intro i σ' c hi ⟨f1, f3, f4⟩ hc
    dsimp only
    have hJ : (A ++ B).length - i = A.length → J_X8_ranks_97 K (nI n) (scL sc l) (nI ((A ++ B).length - i)) σ' := by
      intro e
      unfold J_X8_ranks_97
      refine ⟨vp_in_nI (by omega) (by decide), fun s2 e2 => ?_⟩
      rw [ix_nI (by omega)] at e2
      refine LpE_for (S := Int32 × St) (fun w t => (nI (w + 1), t)) (fun w σ2 => (σ2.2 = s2.2 ∧ (∀ c, c ≠ 221 → σ2.1 c = s2.1 c)) ∧ (∀ z, (z < 7 * A.length + 1 ∨ 7 * A.length + 7 ≤ z) → σ2.1 221 z = σ'.1 221 z) ∧ ∀ u, 1 ≤ u → u ≤ w → σ2.1 221 (7 * A.length + u) = nI (hL l u)) n ?_ 0 s2 (by omega) ⟨⟨rfl, fun _ _ => rfl⟩, fun z _ => by rw [e2, wI_ne (by omega)], fun u u1 u2 => by omega⟩
      intro w σ2 c2 hw ⟨g1, g2, g3⟩ hc2
      dsimp only
      unfold F_X8_ranks_107
      have h21 : σ2.1 204 21 = nI (A ++ B).length := by rw [g1.2 204 (by omega), e2, wI_ne (by omega), f1.2 204 (by omega) (by omega)]; exact h1
      rw [nI_ltI (by omega) (by omega), h21, show (6 : Int32) = nI 6 from rfl, nI_leI (by omega) (by omega)]
      refine ⟨fun z => ?_, fun z => ⟨vp_in_nI (by omega) (by decide), ?_⟩⟩
      · have hwn : w = n := by omega
        have hrow : ∀ z, (hz : z < (A ++ l :: B).length) → Row sc n σ2 z (A ++ l :: B)[z] := by
          intro z hz
          have hz' : z < A.length + (B.length + 1) := by rw [List.length_append, List.length_cons] at hz; exact hz
          by_cases q : z = A.length
          · subst q
            rw [List.getElem_append_right (Nat.le_refl _)]
            simp only [Nat.sub_self, List.getElem_cons_zero]
            refine ⟨?_, fun u u1 u2 => g3 u u1 (by omega)⟩
            rw [g1.2 220 (by omega), e2, e]; exact wI_self
          · have h220 : σ2.1 220 z = σ'.1 220 z := by rw [g1.2 220 (by omega), e2, wI_ni (by omega)]
            have h221 : ∀ u, 1 ≤ u → u ≤ n → σ2.1 221 (7 * z + u) = σ'.1 221 (7 * z + u) := fun u u1 u2 => g2 _ (by omega)
            rcases Nat.lt_or_ge z A.length with q2 | q2
            · rw [List.getElem_append_left q2]
              have := f3 z (by omega) (by omega)
              rw [List.getElem_append_left q2] at this
              exact Row_fr this h220 h221
            · have := f4 (z - 1) (by omega) (by omega)
              rw [show z - 1 + 1 = z by omega, List.getElem_append_right (by omega)] at this
              rw [List.getElem_append_right (by omega)]
              have e6 : z - A.length = (z - 1 - A.length) + 1 := by omega
              simp only [e6, List.getElem_cons_succ]
              exact Row_fr this h220 h221
        have hfin : ∀ s3, s3 = wI σ2 204 21 (nI ((A ++ l :: B).take 6).length) → K s3 := by
          intro s3 e3
          refine hK s3 ⟨by rw [e3, wI_2, g1.1, e2, wI_2]; exact f1.1, fun c c1 c2 c3 => by rw [e3, wI_ne c1, g1.2 c c3, e2, wI_ne c2]; exact f1.2 c c2 c3, fun f hf => by rw [e3, wI_ni hf, g1.2 204 (by omega), e2, wI_ne (by omega), f1.2 204 (by omega) (by omega)]⟩ ⟨by rw [e3]; exact wI_self, by rw [List.length_take]; omega, fun z hz => ?_⟩
          rw [List.length_take] at hz
          rw [List.getElem_take]
          refine Row_fr (hrow z (by omega)) (by rw [e3, wI_ne (by omega)]) (fun u _ _ => by rw [e3, wI_ne (by omega)])
        have hl6 : ((A ++ l :: B).take 6).length = min 6 ((A ++ B).length + 1) := by rw [List.length_take, List.length_append, List.length_cons]; omega
        refine ⟨fun y s3 e3 => hfin s3 ?_, fun y s4 e4 => hfin s4 ?_⟩
        · rw [e3, hl6, show nI (A ++ B).length + 0 = nI (A ++ B).length from nI_add _ 0, show min 6 ((A ++ B).length + 1) = (A ++ B).length by omega]
        · rw [e4, hl6, nI_1, show min 6 ((A ++ B).length + 1) = (A ++ B).length + 1 by omega]
      · rw [pl7, ix_nI (by omega), ix_nI (by omega), nI_1]
        refine ⟨vp_in_nI (by omega) (by decide), fun s7 e7 v8 e8 => ?_⟩
        rw [e8]
        have ht' : σ2.1 219 (w + 1) = nI (hL l (w + 1)) := by rw [g1.2 219 (by omega), e2, wI_ne (by omega), f1.2 219 (by omega) (by omega)]; exact ht (w + 1) (by omega) (by omega)
        rw [ht'] at e7
        refine hc2 s7 (by omega) ⟨⟨by rw [e7, wI_2]; exact g1.1, fun c hc => by rw [e7, wI_ne hc]; exact g1.2 c hc⟩, fun z hz => by rw [e7, wI_ni (by omega)]; exact g2 z hz, fun u u1 u2 => ?_⟩
        rw [e7]
        by_cases q : u = w + 1
        · rw [q, e]; exact wI_self
        · rw [wI_ni (by omega)]; exact g3 u u1 (by omega)
    unfold F_X8_ranks_19
    rw [show (0 : Int32) = nI 0 from rfl, nI_leI (by omega) (by omega)]
    refine ⟨fun z => hJ (by omega), fun z => ?_⟩
    have hrk := f3 ((A ++ B).length - i - 1) (by omega) (by omega)
    rw [show nI ((A ++ B).length - i) - 1 = nI ((A ++ B).length - i - 1) from pk_sub (b := 1) (by omega), ix_nI (by omega), ix_nI (by omega), hrk.1, T_le]
    refine ⟨vp_in_nI (by omega) (by decide), fun q => hJ ?_, fun q => ⟨vp_in_nI (by omega) (by decide), vp_in_nI (by omega) (by decide), fun s12 e12 => ?_⟩⟩
    · rcases Nat.lt_or_ge A.length ((A ++ B).length - i) with y | y
      · exfalso
        rw [List.getElem_append_right (by omega)] at q
        have := hB _ (List.getElem_mem (l := B) (n := (A ++ B).length - i - 1 - A.length) (by omega))
        omega
      · omega
    · have y : A.length < (A ++ B).length - i := by
        rcases Nat.lt_or_ge A.length ((A ++ B).length - i) with y | y
        · exact y
        · exfalso
          rw [List.getElem_append_left (show (A ++ B).length - i - 1 < A.length by omega)] at q
          have := hA _ (List.getElem_mem (l := A) (n := (A ++ B).length - i - 1) (by omega))
          omega
      obtain ⟨vv, hvv⟩ : ∃ vv, vv = scL sc (A ++ B)[(A ++ B).length - i - 1] := ⟨_, rfl⟩
      rw [← hvv] at e12
      obtain ⟨k, hkk⟩ : ∃ k, k = (A ++ B).length - i := ⟨_, rfl⟩
      rw [← hkk] at e12 y ⊢
      refine LpE_for (S := Int32 × St) (fun w t => (nI (w + 1), t)) (fun w σ2 => (σ2.2 = s12.2 ∧ (∀ c, c ≠ 221 → σ2.1 c = s12.1 c)) ∧ (∀ z, (z < 7 * k + 1 ∨ 7 * k + 7 ≤ z) → σ2.1 221 z = σ'.1 221 z) ∧ ∀ u, 1 ≤ u → u ≤ w → σ2.1 221 (7 * k + u) = σ'.1 221 (7 * (k - 1) + u)) n ?_ 0 s12 (by omega) ⟨⟨rfl, fun _ _ => rfl⟩, fun z _ => by rw [e12, wI_ne (by omega)], fun u u1 u2 => by omega⟩
      intro w σ2 c2 hw ⟨g1, g2, g3⟩ hc2
      dsimp only
      unfold F_X8_ranks_52
      rw [nI_ltI (by omega) (by omega)]
      refine ⟨fun z2 v13 e13 => ?_, fun z2 => ?_⟩
      · have hwn : w = n := by omega
        rw [← Int32.sub_eq_add_neg, show nI k - 1 = nI (k - 1) from pk_sub (b := 1) (by omega), show k - 1 = (A ++ B).length - (i + 1) by omega] at e13
        rw [e13]
        have hf2 : ∀ c, c ≠ 220 → c ≠ 221 → σ2.1 c = σ'.1 c := fun c c1 c2 => by rw [g1.2 c c2, e12, wI_ne c1]
        refine hc σ2 (by omega) ⟨⟨by rw [g1.1, e12, wI_2]; exact f1.1, fun c c1 c2 => (hf2 c c1 c2).trans (f1.2 c c1 c2)⟩, fun z hz hz2 => ?_, fun z hz hz2 => ?_⟩
        · refine Row_fr (f3 z hz (by omega)) (by rw [g1.2 220 (by omega), e12, wI_ni (by omega)]) (fun u u1 u2 => g2 _ (by omega))
        · by_cases q2 : z + 1 = k
          · have hz3 : z = k - 1 := by omega
            have hfz := f3 z hz (by omega)
            refine ⟨?_, fun u u1 u2 => ?_⟩
            · rw [g1.2 220 (by omega), e12, q2, wI_self]
              have hz4 : (A ++ B).length - i - 1 = z := by omega
              rw [hvv]
              simp only [hz4]
            · rw [q2, g3 u u1 (by omega), ← hz3]; exact hfz.2 u u1 u2
          · refine Row_fr (f4 z hz (by omega)) (by rw [g1.2 220 (by omega), e12, wI_ni (by omega)]) (fun u u1 u2 => g2 _ (by omega))
      · rw [show (7 : Int32) * nI k = nI (7 * k) by rw [show (7 : Int32) = nI 7 from rfl, pk_mul], show nI (7 * k) - 7 = nI (7 * k - 7) from pk_sub (b := 7) (by omega), nI_add, nI_add, ix_nI (by omega), ix_nI (by omega), nI_1]
        refine ⟨vp_in_nI (by omega) (by decide), vp_in_nI (by omega) (by decide), fun s16 e16 v17 e17 => ?_⟩
        rw [e17]
        refine hc2 s16 (by omega) ⟨⟨by rw [e16, wI_2]; exact g1.1, fun c hc => by rw [e16, wI_ne hc]; exact g1.2 c hc⟩, fun z hz => by rw [e16, wI_ni (by omega)]; exact g2 z hz, fun u u1 u2 => ?_⟩
        rw [e16]
        by_cases q2 : u = w + 1
        · rw [q2, wI_self, g2 (7 * k - 7 + (w + 1)) (by omega), show 7 * k - 7 + (w + 1) = 7 * (k - 1) + (w + 1) by omega]
        · rw [wI_ni (by omega)]; exact g3 u u1 (by omega)
  rw [h1, show (6 : Int32) = nI 6 from rfl, nI_leI (by omega) (by omega)]
  refine ⟨fun z => ?_, fun z v18 e18 => ?_⟩
  · have : (A ++ B).length = 6 := by omega
    rw [this] at main
    exact main
  · rw [e18]; exact main
end RNK
