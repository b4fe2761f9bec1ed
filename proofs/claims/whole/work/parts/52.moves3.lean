/-! the transitions: the reference -/
def XQ (n : Nat) (t : Nat → Nat) (j : Nat) (σ : St) (q : TQ) : Prop := (σ.1 206 j = nI n ∧ (∀ w, 1 ≤ w → w ≤ n → σ.1 208 (7 * j + w) = nI (t w)) ∧ ∀ v, v ≤ n → σ.1 226 v = nI (plT n t v)) ∧ (σ.1 204 36 = nI (qh q) ∧ ∀ k, k < qh q → σ.1 228 k = nI (qs q k)) ∧ (σ.1 204 38 = nI (qb q) ∧ ∀ k, k < qb q → σ.1 229 k = nI (qf q k)) ∧ σ.1 204 39 = nI (qm q)
section MVR
variable {σ : St} {n j : Nat} {t : Nat → Nat} {q : TQ}
theorem isReady_M {K : Int32 → St → Prop} {v : Nat} (hj : j < 4) (hT : TR n t) (hq : okQ n q) (h : XQ n t j σ q) (hv : v ≤ n) (h1 : compB n t (qm q) v = true → K 1 σ) (h0 : compB n t (qm q) v = false → K 0 σ) : P_X8_isReady (nI j) (nI v) σ K := by
  unfold P_X8_isReady
  have hn6 := hT.n6
  refine LpE_inv (fun s' => s'.2.2 = σ ∧ ∃ i, i ≤ n ∧ s'.2.1 = nI (i + 1) ∧ ((s'.1 = 1 ∧ ∀ w, 1 ≤ w → w ≤ i → t w = v → (qm q).testBit w = true) ∨ (s'.1 = 0 ∧ compB n t (qm q) v = false))) (fun s' => 10 - ix s'.2.1) ?_ _ ⟨rfl, 0, by omega, rfl, Or.inl ⟨rfl, fun w w1 w2 => by omega⟩⟩
  intro s' c hI hc
  obtain ⟨x1, x2, σ'⟩ := s'
  obtain ⟨e1, i, hi, e2, hx⟩ := hI
  dsimp only at e1 e2 hx
  subst e1 e2
  dsimp only
  unfold F_X8_isReady_5
  refine ⟨vp_in_nI hj (by decide), ?_⟩
  rw [ix_nI (by omega), h.1.1, nI_ltI (by omega) (by omega), nI_1]
  have hm : 10 - ix (nI (i + 1 + 1)) < 10 - ix (nI (i + 1)) := by rw [ix_nI (by omega), ix_nI (by omega)]; omega
  refine ⟨fun z => ?_, fun z => ⟨fun z1 v2 e2 => ?_, fun z1 => ?_⟩⟩
  · rcases hx with ⟨rfl, hx⟩ | ⟨rfl, hx⟩
    · exact ⟨isB1, h1 (compB_iff.mpr (fun w w1 w2 e => hx w w1 (by omega) e))⟩
    · exact ⟨isB0, h0 hx⟩
  · subst e2
    rcases hx with ⟨rfl, hx⟩ | ⟨rfl, hx⟩
    · exact absurd z1 (by decide)
    · exact hc _ ⟨rfl, i + 1, by omega, rfl, Or.inr ⟨rfl, hx⟩⟩ hm
  · rcases hx with ⟨rfl, hx⟩ | ⟨rfl, hx⟩
    · unfold P_X8_word
      have := hT.ht (i + 1) (by omega) (by omega)
      rw [pl7]
      dsimp only
      rw [ix_nI (by omega), h.1.2.1 (i + 1) (by omega) (by omega), nI_eq (by omega) (by omega), h.2.2.2, bit_test _ hq.m1 _ (by omega)]
      refine ⟨vp_in_nI (by omega) (by decide), fun e => ⟨fun hb v8 e8 => ?_, fun hb v7 e7 => ?_⟩, fun e v6 e6 => ?_⟩
      · subst e8
        refine hc _ ⟨rfl, i + 1, by omega, rfl, Or.inl ⟨rfl, fun w w1 w2 e3 => ?_⟩⟩ hm
        by_cases z3 : w = i + 1
        · rw [z3]; exact hb
        · exact hx w w1 (by omega) e3
      · subst e7
        refine hc _ ⟨rfl, i + 1, by omega, rfl, Or.inr ⟨rfl, ?_⟩⟩ hm
        cases hc2 : compB n t (qm q) v
        · rfl
        · exact absurd (compB_iff.mp hc2 (i + 1) (by omega) (by omega) e) hb
      · subst e6
        refine hc _ ⟨rfl, i + 1, by omega, rfl, Or.inl ⟨rfl, fun w w1 w2 e3 => ?_⟩⟩ hm
        by_cases z3 : w = i + 1
        · rw [z3] at e3; exact absurd e3 e
        · exact hx w w1 (by omega) e3
    · exact absurd rfl z1
def nxI (k : Nat) : Int32 := if k = 4 then -1 else nI k
theorem next_M {K : Int32 → St → Prop} (hj : j < 4) (hT : TR n t) (hq : okQ n q) (h : XQ n t j σ q) (hpl : ∀ v, v ≤ n → plT n t v < 7) (hK : K (nxI (nextQ n t (plT n t) q)) σ) : P_X8_next (nI j) σ K := by
  unfold P_X8_next
  have hn6 := hT.n6
  have hhb := hq.hb
  have h1 := hq.h1
  unfold nextQ at hK
  have h112 : K (nxI (if 0 < qb q then 0 else 4)) σ → J_X8_next_112 K σ := by
    intro this
    unfold J_X8_next_112
    rw [h.2.2.1.1, show (0 : Int32) = nI 0 from rfl, nI_leI (by omega) (by omega)]
    refine ⟨fun z => ?_, fun z => ?_⟩
    · rw [if_neg (by omega)] at this; exact this
    · rw [if_pos (by omega)] at this; exact this
  rw [h.2.1.1, show (1 : Int32) = nI 1 from rfl, nI_leI (by omega) (by omega)]
  refine ⟨fun z => ?_, fun z => ?_⟩
  · rw [if_neg (by omega)] at hK
    exact h112 hK
  · have h2 : 2 ≤ qh q := by omega
    rw [if_pos h2] at hK
    rw [show nI (qh q) - nI 1 = nI (qh q - 1) from pk_sub (b := 1) (by omega), show nI (qh q) - 2 = nI (qh q - 2) from pk_sub (b := 2) (by omega)]
    have hj1 := hq.s1 (qh q - 1) (by omega) (by omega)
    have hi := hq.sle (k := qh q - 2) (by omega)
    refine ⟨vp_in_nI (by omega) (by decide), fun v2 e2 => ⟨vp_in_nI (by omega) (by decide), fun v4 e4 => ?_⟩⟩
    rw [ix_nI (by omega), h.2.1.2 _ (by omega)] at e2 e4
    subst e2 e4
    generalize hgj : qs q (qh q - 1) = y at *
    generalize hgi : qs q (qh q - 2) = i at *
    have htj := hT.ht y hj1.1 hj1.2
    have h86 : K (nxI (if i ≠ 0 ∧ i < y ∧ plT n t y < plT n t i then 3 else if 0 < qb q then 0 else 4)) σ → J_X8_next_86 K (nI y) (nI i) σ := by
      intro hk
      unfold J_X8_next_86
      rw [show (0 : Int32) = nI 0 from rfl, nI_eq (by omega) (by omega), nI_leI (by omega) (by omega)]
      refine ⟨fun z1 => ?_, fun z1 => ⟨fun z2 => ?_, fun z2 => ⟨vp_in_nI (by omega) (by decide), vp_in_nI (by omega) (by decide), ?_⟩⟩⟩
      · rw [if_neg (fun z => z.1 z1)] at hk; exact h112 hk
      · rw [if_neg (by omega)] at hk; exact h112 hk
      · have p1 := hpl i hi
        have p2 := hpl y hj1.2
        rw [ix_nI (by omega), ix_nI (by omega), h.1.2.2 i hi, h.1.2.2 y hj1.2, nI_leI (by omega) (by omega)]
        refine ⟨fun z3 => ?_, fun z3 => ?_⟩
        · rw [if_neg (by omega)] at hk; exact h112 hk
        · rw [if_pos ⟨z1, by omega, by omega⟩] at hk; exact hk
    have h61 : K (nxI (if t y = i ∧ compB n t (qm q) y = true then 2 else if i ≠ 0 ∧ i < y ∧ plT n t y < plT n t i then 3 else if 0 < qb q then 0 else 4)) σ → J_X8_next_61 K (nI j) (nI y) (nI i) σ := by
      intro hk
      unfold J_X8_next_61 P_X8_word
      rw [pl7]
      dsimp only
      refine ⟨vp_in_nI (by omega) (by decide), ?_⟩
      rw [ix_nI (by omega), h.1.2.1 y hj1.1 hj1.2, nI_eq (by omega) (by omega)]
      refine ⟨fun z1 => isReady_M hj hT hq h hj1.2 (fun hb => ⟨fun z => absurd z (by decide), fun _ => ?_⟩) (fun hb => ⟨fun _ => ?_, fun z => absurd rfl z⟩), fun z1 => ?_⟩
      · rw [if_pos ⟨z1, hb⟩] at hk; exact hk
      · rw [if_neg (fun z => by rw [hb] at z; cases z.2)] at hk; exact h86 hk
      · rw [if_neg (fun z => z1 z.1)] at hk; exact h86 hk
    rw [show (0 : Int32) = nI 0 from rfl, nI_eq (by omega) (by omega)]
    refine ⟨fun z1 => ?_, fun z1 => ?_⟩
    · rw [if_neg (fun z => z.1 z1)] at hK; exact h61 hK
    · have hti := hT.ht i (by omega) hi
      unfold P_X8_word
      rw [pl7]
      dsimp only
      refine ⟨vp_in_nI (by omega) (by decide), ?_⟩
      rw [ix_nI (by omega), h.1.2.1 i (by omega) hi, nI_eq (by omega) (by omega)]
      refine ⟨fun z2 => isReady_M hj hT hq h hi (fun hb => ⟨fun z => absurd z (by decide), fun _ => ?_⟩) (fun hb => ⟨fun _ => ?_, fun z => absurd rfl z⟩), fun z2 => ?_⟩
      · rw [if_pos ⟨z1, z2, hb⟩] at hK; exact hK
      · rw [if_neg (fun z => by rw [hb] at z; cases z.2.2)] at hK; exact h61 hK
      · rw [if_neg (fun z => z2 z.2.1)] at hK; exact h61 hK
def ranM (n : Nat) (t : Nat → Nat) (σ' : St) : Prop := σ'.1 204 33 = nI (movesL n t).length ∧ ∀ k, (hk : k < (movesL n t).length) → σ'.1 227 k = nI (movesL n t)[k]
def frV (σ σ' : St) : Prop := σ'.2 = σ.2 ∧ (∀ c, c ≠ 204 → c < 225 → σ'.1 c = σ.1 c) ∧ ∀ f, f < 30 → σ'.1 204 f = σ.1 204 f
theorem frV_RM {s : AS} {σ' : St} (h : RM σ s) (hf : frV σ σ') : RM σ' s := RM_fr h (fun k k1 k2 => hf.2.1 k (by omega) (by omega)) (fun j hj => hf.2.2 j (by omega))
theorem frV_K {σ' : St} (hf : frV σ σ') : frK σ σ' := ⟨fun k hk => ⟨hf.2.1 k (by omega) (by omega), by rw [hf.1]⟩, by rw [hf.1]⟩
theorem frV.tr {a b c : St} (h : frV a b) (h2 : frV b c) : frV a c := ⟨h2.1.trans h.1, fun k k1 k2 => (h2.2.1 k k1 k2).trans (h.2.1 k k1 k2), fun f hf => (h2.2.2 f hf).trans (h.2.2 f hf)⟩
end MVR
