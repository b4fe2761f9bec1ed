/-! the transitions: the reference -/
def XQ (n : Nat) (t : Nat → Nat) (j : Nat) (σ : St) (q : TQ) : Prop := (σ.1 206 j = nI n ∧ (∀ w, 1 ≤ w → w ≤ n → σ.1 208 (7 * j + w) = nI (t w)) ∧ ∀ v, v ≤ n → σ.1 226 v = nI (plT n t v)) ∧ (σ.1 204 36 = nI (qh q) ∧ ∀ k, k < qh q → σ.1 228 k = nI (qs q k)) ∧ (σ.1 204 38 = nI (qb q) ∧ ∀ k, k < qb q → σ.1 229 k = nI (qf q k)) ∧ σ.1 204 39 = nI (qm q)
section MVR
variable {σ : St} {n j : Nat} {t : Nat → Nat} {q : TQ}
theorem isReady_M {K : Int32 → St → Prop} {v : Nat} (hj : j < 4) (hT : TR n t) (hq : okQ n q) (h : XQ n t j σ q) (hv : v ≤ n) (h1 : compB n t (qm q) v = true → K 1 σ) (h0 : compB n t (qm q) v = false → K 0 σ) : P_X8_isReady (nI j) (nI v) σ K := by
  unfold P_X8_isReady
  have hn6 := hT.n6
  refine LpE_inv (fun s' => s'.2.2 = σ ∧ ∃ i, i ≤ n ∧ s'.2.1 = nI (i + 1) ∧ ((s'.1 = 1 ∧ ∀ w, 1 ≤ w → w ≤ i → t w = v → (qm q).testBit w = true) ∨ (s'.1 = 0 ∧ compB n t (qm q) v = false))) (fun s' => 10 - ix s'.2.1) ?_ _ ⟨rfl, 0, by omega, rfl, Or.inl ⟨rfl, fun w w1 w2 => by omega⟩⟩
  intro s' c hI hc
  obtain ⟨x1, x2, σ'⟩ := s'
  obtain ⟨e1, i, hi, e2, hx⟩ := hI
  dsimp only at e1 e2 hx
  subst e1 e2
  dsimp only
  unfold F_X8_isReady_5
  refine ⟨vp_in_nI hj (by decide), ?_⟩
  rw [ix_nI (by omega), h.1.1, nI_ltI (by omega) (by omega), nI_1]
  have hm : 10 - ix (nI (i + 1 + 1)) < 10 - ix (nI (i + 1)) := by rw [ix_nI (by omega), ix_nI (by omega)]; omega
  refine ⟨fun z => ?_, fun z => ⟨fun z1 v2 e2 => ?_, fun z1 => ?_⟩⟩
  · rcases hx with ⟨rfl, hx⟩ | ⟨rfl, hx⟩
    · exact ⟨isB1, h1 (compB_iff.mpr (fun w w1 w2 e => hx w w1 (by omega) e))⟩
    · exact ⟨isB0, h0 hx⟩
  · subst e2
    rcases hx with ⟨rfl, hx⟩ | ⟨rfl, hx⟩
    · exact absurd z1 (by decide)
    · exact hc _ ⟨rfl, i + 1, by omega, rfl, Or.inr ⟨rfl, hx⟩⟩ hm
  · rcases hx with ⟨rfl, hx⟩ | ⟨rfl, hx⟩
    · unfold P_X8_word
      have := hT.ht (i + 1) (by omega) (by omega)
      rw [pl7]
      dsimp only
      rw [ix_nI (by omega), h.1.2.1 (i + 1) (by omega) (by omega), nI_eq (by omega) (by omega), h.2.2.2, bit_test _ hq.m1 _ (by omega)]
      refine ⟨vp_in_nI (by omega) (by decide), fun e => ⟨fun hb v8 e8 => ?_, fun hb v7 e7 => ?_⟩, fun e v6 e6 => ?_⟩
      · subst e8
        refine hc _ ⟨rfl, i + 1, by omega, rfl, Or.inl ⟨rfl, fun w w1 w2 e3 => ?_⟩⟩ hm
        by_cases z3 : w = i + 1
        · rw [z3]; exact hb
        · exact hx w w1 (by omega) e3
      · subst e7
        refine hc _ ⟨rfl, i + 1, by omega, rfl, Or.inr ⟨rfl, ?_⟩⟩ hm
        cases hc2 : compB n t (qm q) v
        · rfl
        · exact absurd (compB_iff.mp hc2 (i + 1) (by omega) (by omega) e) hb
      · subst e6
        refine hc _ ⟨rfl, i + 1, by omega, rfl, Or.inl ⟨rfl, fun w w1 w2 e3 => ?_⟩⟩ hm
        by_cases z3 : w = i + 1
        · rw [z3] at e3; exact absurd e3 e
        · exact hx w w1 (by omega) e3
    · exact absurd rfl z1
def nxI (k : Nat) : Int32 := if k = 4 then -1 else nI k
theorem next_M {K : Int32 → St → Prop} (hj : j < 4) (hT : TR n t) (hq : okQ n q) (h : XQ n t j σ q) (hpl : ∀ v, v ≤ n → plT n t v < 7) (hK : K (nxI (nextQ n t (plT n t) q)) σ) : P_X8_next (nI j) σ K := by
  unfold P_X8_next
  have hn6 := hT.n6
  have hhb := hq.hb
  have h1 := hq.h1
  unfold nextQ at hK
  have h112 : K (nxI (if 0 < qb q then 0 else 4)) σ → J_X8_next_112 K σ := by
    intro this
    unfold J_X8_next_112
    rw [h.2.2.1.1, show (0 : Int32) = nI 0 from rfl, nI_leI (by omega) (by omega)]
    refine ⟨fun z => ?_, fun z => ?_⟩
    · rw [if_neg (by omega)] at this; exact this
    · rw [if_pos (by omega)] at this; exact this
  rw [h.2.1.1, show (1 : Int32) = nI 1 from rfl, nI_leI (by omega) (by omega)]
  refine ⟨fun z => ?_, fun z => ?_⟩
  · rw [if_neg (by omega)] at hK
    exact h112 hK
  · have h2 : 2 ≤ qh q := by omega
    rw [if_pos h2] at hK
    rw [show nI (qh q) - nI 1 = nI (qh q - 1) from pk_sub (b := 1) (by omega), show nI (qh q) - 2 = nI (qh q - 2) from pk_sub (b := 2) (by omega)]
    have hj1 := hq.s1 (qh q - 1) (by omega) (by omega)
    have hi := hq.sle (k := qh q - 2) (by omega)
    refine ⟨vp_in_nI (by omega) (by decide), fun v2 e2 => ⟨vp_in_nI (by omega) (by decide), fun v4 e4 => ?_⟩⟩
    rw [ix_nI (by omega), h.2.1.2 _ (by omega)] at e2 e4
    subst e2 e4
    generalize hgj : qs q (qh q - 1) = y at *
    generalize hgi : qs q (qh q - 2) = i at *
    have htj := hT.ht y hj1.1 hj1.2
    have h86 : K (nxI (if i ≠ 0 ∧ i < y ∧ plT n t y < plT n t i then 3 else if 0 < qb q then 0 else 4)) σ → J_X8_next_86 K (nI y) (nI i) σ := by
      intro hk
      unfold J_X8_next_86
      rw [show (0 : Int32) = nI 0 from rfl, nI_eq (by omega) (by omega), nI_leI (by omega) (by omega)]
      refine ⟨fun z1 => ?_, fun z1 => ⟨fun z2 => ?_, fun z2 => ⟨vp_in_nI (by omega) (by decide), vp_in_nI (by omega) (by decide), ?_⟩⟩⟩
      · rw [if_neg (fun z => z.1 z1)] at hk; exact h112 hk
      · rw [if_neg (by omega)] at hk; exact h112 hk
      · have p1 := hpl i hi
        have p2 := hpl y hj1.2
        rw [ix_nI (by omega), ix_nI (by omega), h.1.2.2 i hi, h.1.2.2 y hj1.2, nI_leI (by omega) (by omega)]
        refine ⟨fun z3 => ?_, fun z3 => ?_⟩
        · rw [if_neg (by omega)] at hk; exact h112 hk
        · rw [if_pos ⟨z1, by omega, by omega⟩] at hk; exact hk
    have h61 : K (nxI (if t y = i ∧ compB n t (qm q) y = true then 2 else if i ≠ 0 ∧ i < y ∧ plT n t y < plT n t i then 3 else if 0 < qb q then 0 else 4)) σ → J_X8_next_61 K (nI j) (nI y) (nI i) σ := by
      intro hk
      unfold J_X8_next_61 P_X8_word
      rw [pl7]
      dsimp only
      refine ⟨vp_in_nI (by omega) (by decide), ?_⟩
      rw [ix_nI (by omega), h.1.2.1 y hj1.1 hj1.2, nI_eq (by omega) (by omega)]
      refine ⟨fun z1 => isReady_M hj hT hq h hj1.2 (fun hb => ⟨fun z => absurd z (by decide), fun _ => ?_⟩) (fun hb => ⟨fun _ => ?_, fun z => absurd rfl z⟩), fun z1 => ?_⟩
      · rw [if_pos ⟨z1, hb⟩] at hk; exact hk
      · rw [if_neg (fun z => by rw [hb] at z; cases z.2)] at hk; exact h86 hk
      · rw [if_neg (fun z => z1 z.1)] at hk; exact h86 hk
    rw [show (0 : Int32) = nI 0 from rfl, nI_eq (by omega) (by omega)]
    refine ⟨fun z1 => ?_, fun z1 => ?_⟩
    · rw [if_neg (fun z => z.1 z1)] at hK; exact h61 hK
    · have hti := hT.ht i (by omega) hi
      unfold P_X8_word
      rw [pl7]
      dsimp only
      refine ⟨vp_in_nI (by omega) (by decide), ?_⟩
      rw [ix_nI (by omega), h.1.2.1 i (by omega) hi, nI_eq (by omega) (by omega)]
      refine ⟨fun z2 => isReady_M hj hT hq h hi (fun hb => ⟨fun z => absurd z (by decide), fun _ => ?_⟩) (fun hb => ⟨fun _ => ?_, fun z => absurd rfl z⟩), fun z2 => ?_⟩
      · rw [if_pos ⟨z1, z2, hb⟩] at hK; exact hK
      · rw [if_neg (fun z => by rw [hb] at z; cases z.2.2)] at hK; exact h61 hK
      · rw [if_neg (fun z => z2 z.2.1)] at hK; exact h61 hK
def ranM (n : Nat) (t : Nat → Nat) (σ' : St) : Prop := σ'.1 204 33 = nI (movesL n t).length ∧ ∀ k, (hk : k < (movesL n t).length) → σ'.1 227 k = nI (movesL n t)[k]
def frV (σ σ' : St) : Prop := σ'.2 = σ.2 ∧ (∀ c, c ≠ 204 → c < 225 → σ'.1 c = σ.1 c) ∧ ∀ f, f < 30 → σ'.1 204 f = σ.1 204 f
theorem frV_RM {s : AS} {σ' : St} (h : RM σ s) (hf : frV σ σ') : RM σ' s := RM_fr h (fun k k1 k2 => hf.2.1 k (by omega) (by omega)) (fun j hj => hf.2.2 j (by omega))
theorem frV_K {σ' : St} (hf : frV σ σ') : frK σ σ' := ⟨fun k hk => ⟨hf.2.1 k (by omega) (by omega), by rw [hf.1]⟩, by rw [hf.1]⟩
theorem frV.tr {a b c : St} (h : frV a b) (h2 : frV b c) : frV a c := ⟨h2.1.trans h.1, fun k k1 k2 => (h2.2.1 k k1 k2).trans (h.2.1 k k1 k2), fun f hf => (h2.2.2 f hf).trans (h.2.2 f hf)⟩
theorem XQ_fr {σ' : St} (h : XQ n t j σ q) (h1 : ∀ c, c ≠ 204 → c ≠ 227 → σ'.1 c = σ.1 c) (h2 : ∀ f, f ≠ 33 → σ'.1 204 f = σ.1 204 f) : XQ n t j σ' q := by
  obtain ⟨⟨c1, c2, c3⟩, ⟨c4, c5⟩, ⟨c6, c7⟩, c8⟩ := h
  exact ⟨⟨by rw [h1 206 (by omega) (by omega)]; exact c1, fun w w1 w2 => by rw [h1 208 (by omega) (by omega)]; exact c2 w w1 w2, fun v hv => by rw [h1 226 (by omega) (by omega)]; exact c3 v hv⟩, ⟨by rw [h2 36 (by omega)]; exact c4, fun k hk => by rw [h1 228 (by omega) (by omega)]; exact c5 k hk⟩, ⟨by rw [h2 38 (by omega)]; exact c6, fun k hk => by rw [h1 229 (by omega) (by omega)]; exact c7 k hk⟩, by rw [h2 39 (by omega)]; exact c8⟩
theorem moves_M {K : St → Prop} (hj : j < 4) (hT : TR n t) (hn : σ.1 206 j = nI n) (hh : ∀ w, 1 ≤ w → w ≤ n → σ.1 208 (7 * j + w) = nI (t w)) (hK : ∀ σ', frV σ σ' → ranM n t σ' → K σ') : P_X8_moves (nI j) σ K := by
  unfold P_X8_moves
  have hn6 := hT.n6
  refine orders_M hj hT hn hh (fun σ1 ⟨a1, a2⟩ hord s2 e2 s3 e3 s4 e4 s5 e5 => ⟨vp_in_nI hj (by decide), fun s7 e7 => ?_⟩)
  have i0 : ix (0 : Int32) = 0 := ix_nI (j := 0) (by decide)
  rw [i0] at e4
  have hpl : ∀ v, v ≤ n → σ1.1 226 v = nI (plT n t v) ∧ plT n t v < 7 := fun v hv => pl_at hT hord.2 hv
  rw [ix_nI (by omega), show s5.1 206 j = nI n by rw [e5, wI_ne (by omega), e4, wI_ne (by omega), e3, wI_ne (by omega), e2, wI_ne (by omega), a2 206 (by omega) (by omega)]; exact hn] at e7
  have b1 : ∀ c, c ≠ 204 → c ≠ 228 → s7.1 c = σ1.1 c := fun c a b => by rw [e7, wI_ne a, e5, wI_ne a, e4, wI_ne b, e3, wI_ne a, e2, wI_ne a]
  have b2 : ∀ f, f ≠ 33 → f ≠ 36 → f ≠ 38 → f ≠ 39 → s7.1 204 f = σ1.1 204 f := fun f a b c d => by rw [e7, wI_ni c, e5, wI_ni b, e4, wI_ne (by omega), e3, wI_ni d, e2, wI_ni a]
  have b3 : s7.2 = σ.2 := by rw [e7, wI_2, e5, wI_2, e4, wI_2, e3, wI_2, e2, wI_2]; exact a1
  have hfr0 : frV σ s7 := ⟨b3, fun c a b => (b1 c a (by omega)).trans (a2 c (by omega) (by omega)), fun f hf => (b2 f (by omega) (by omega) (by omega) (by omega)).trans (by rw [a2 204 (by omega) (by omega)])⟩
  have d33 : s7.1 204 33 = 0 := by rw [e7, wI_ni (by omega), e5, wI_ni (by omega), e4, wI_ne (by omega), e3, wI_ni (by omega), e2]; exact wI_self
  have d39 : s7.1 204 39 = 0 := by rw [e7, wI_ni (by omega), e5, wI_ni (by omega), e4, wI_ne (by omega), e3]; exact wI_self
  have d36 : s7.1 204 36 = 1 := by rw [e7, wI_ni (by omega), e5]; exact wI_self
  have d38 : s7.1 204 38 = nI n := by rw [e7]; exact wI_self
  have d228 : s7.1 228 0 = 0 := by rw [e7, wI_ne (by omega), e5, wI_ne (by omega), e4]; exact wI_self
  refine LpE_for1 (fun i σ' => σ'.2 = s7.2 ∧ (∀ c, c ≠ 229 → σ'.1 c = s7.1 c) ∧ ∀ k, k < i → σ'.1 229 k = nI (n - k)) n ?_ 0 s7 (by omega) ⟨rfl, fun _ _ => rfl, fun k hk => absurd hk (Nat.not_lt_zero _)⟩
  intro i σ' c hi ⟨g1, g2, g3⟩ hc
  dsimp only
  unfold F_X8_moves_39
  rw [show σ'.1 204 38 = nI n by rw [g2 204 (by omega)]; exact d38, nI_leI (by omega) (by omega)]
  refine ⟨fun z => ?_, fun z => ⟨vp_in_nI (by omega) (by decide), fun s34 e34 v35 e35 => ?_⟩⟩
  · have hin : i = n := by omega
    subst hin
    have hXQ0 : XQ i t j σ' (begQ i) := ⟨⟨by rw [g2 206 (by omega), b1 206 (by omega) (by omega), a2 206 (by omega) (by omega)]; exact hn, fun w w1 w2 => by rw [g2 208 (by omega), b1 208 (by omega) (by omega), a2 208 (by omega) (by omega)]; exact hh w w1 w2, fun v hv => by rw [g2 226 (by omega), b1 226 (by omega) (by omega)]; exact (hpl v hv).1⟩, ⟨by rw [g2 204 (by omega)]; exact d36, fun k hk => by have hk : k < 1 := hk; rw [show k = 0 by omega, g2 228 (by omega)]; exact d228⟩, ⟨by rw [g2 204 (by omega)]; exact d38, g3⟩, by rw [g2 204 (by omega)]; exact d39⟩
    have hfr1 : frV σ σ' := hfr0.tr ⟨g1, fun c a b => g2 c (by omega), fun f hf => by rw [g2 204 (by omega)]⟩
    refine next_M hj hT (begQ_ok hn6) hXQ0 (fun v hv => (hpl v hv).2) ?_
    have hmv : movesL i t = [] ++ runQ i t (plT i t) 64 (begQ i) := rfl
    refine LpE_inv (fun s' => frV σ s'.2 ∧ ∃ q f D, okQ i q ∧ XQ i t j s'.2 q ∧ movesL i t = D ++ runQ i t (plT i t) f q ∧ D.length + f = 64 ∧ phiQ (plT i t) q < f ∧ s'.1 = nxI (nextQ i t (plT i t) q) ∧ s'.2.1 204 33 = nI D.length ∧ ∀ k, (hk : k < D.length) → s'.2.1 227 k = nI D[k]) (fun s' => 100 - ix (s'.2.1 204 33)) ?_ _ ⟨hfr1, begQ i, 64, [], begQ_ok hn6, hXQ0, hmv, rfl, phi_beg hn6, rfl, by show σ'.1 204 33 = _; rw [g2 204 (by omega)]; exact d33, fun k hk => absurd hk (Nat.not_lt_zero _)⟩
    intro s' c2 hI hc2
    obtain ⟨x1, σ2⟩ := s'
    obtain ⟨hf2, q, f, D, hq, hXQ, hmv2, hDf, hph, rfl, k6, k7⟩ := hI
    dsimp only at hf2 hXQ k6 k7
    dsimp only
    obtain ⟨f, rfl⟩ : ∃ g, f = g + 1 := ⟨f - 1, by omega⟩
    rw [runQ] at hmv2
    have hle := nextQ_le i t (plT i t) q
    have hhb := hq.hb
    have hh1 := hq.h1
    have hm1 := hq.m1
    unfold F_X8_moves_71
    by_cases h4 : nextQ i t (plT i t) q = 4
    · rw [h4]
      refine ⟨fun _ => ?_, fun z => absurd (by decide) z⟩
      rw [if_pos h4, List.append_nil] at hmv2
      refine hK σ2 hf2 ⟨by rw [hmv2]; exact k6, fun k hk => ?_⟩
      have hk' : k < D.length := by rw [hmv2] at hk; exact hk
      rw [k7 k hk']; congr 1; simp only [hmv2]
    · rw [if_neg h4] at hmv2
      have hnx : nxI (nextQ i t (plT i t) q) = nI (nextQ i t (plT i t) q) := by unfold nxI; rw [if_neg h4]
      rw [hnx]
      -- the end of a step
      have hJ : ∀ σ3, frV σ2 σ3 → XQ i t j σ3 (stepQ q (nextQ i t (plT i t) q)) → σ3.1 204 33 = nI D.length → σ3.1 227 = σ2.1 227 → J_X8_moves_239 K c2 (nI j) (nI (nextQ i t (plT i t) q)) σ3 := by
        intro σ3 r1 r2 r3 r4
        unfold J_X8_moves_239
        rw [r3, ix_nI (by omega)]
        refine ⟨vp_in_nI (by omega) (by decide), fun s21 e21 s22 e22 => ?_⟩
        rw [show s21.1 204 33 = nI D.length by rw [e21, wI_ne (by omega)]; exact r3, nI_1] at e22
        have w1 : ∀ c, c ≠ 204 → c ≠ 227 → s22.1 c = σ3.1 c := fun c a b => by rw [e22, wI_ne a, e21, wI_ne b]
        have w2 : ∀ f, f ≠ 33 → s22.1 204 f = σ3.1 204 f := fun f a => by rw [e22, wI_ni a, e21, wI_ne (by omega)]
        have hX2 := XQ_fr r2 w1 w2
        have hq2 := okQ_step hq h4
        refine next_M hj hT hq2 hX2 (fun v hv => (hpl v hv).2) ?_
        have hlen : (D ++ [nextQ i t (plT i t) q]).length = D.length + 1 := by rw [List.length_append]; rfl
        have w33 : s22.1 204 33 = nI (D.length + 1) := by rw [e22]; exact wI_self
        refine hc2 _ ⟨(hf2.tr r1).tr ⟨by show s22.2 = _; rw [e22, wI_2, e21, wI_2], fun c a b => w1 c a (by omega), fun f hf => w2 f (by omega)⟩, _, f, D ++ [nextQ i t (plT i t) q], hq2, hX2, by rw [hmv2, List.append_assoc]; rfl, by rw [hlen]; omega, by have := phi_step hq h4; omega, rfl, by rw [hlen]; exact w33, fun k hk => ?_⟩ ?_
        · show s22.1 227 k = _
          rw [e22, wI_ne (by omega), e21]
          rw [hlen] at hk
          by_cases e : k = D.length
          · subst e
            rw [wI_self, List.getElem_append_right (Nat.le_refl _)]
            simp only [Nat.sub_self, List.getElem_cons_zero]
          · rw [wI_ni e, List.getElem_append_left (show k < D.length by omega), r4]; exact k7 k (by omega)
        · show 100 - ix (s22.1 204 33) < 100 - ix (σ2.1 204 33)
          rw [w33, k6, ix_nI (by omega), ix_nI (by omega)]; omega
      obtain ⟨⟨c1, c2', c3⟩, ⟨c4, c5⟩, ⟨c6, c7⟩, c8⟩ := hXQ
      refine ⟨fun z => absurd z (nI_pos (by omega)), fun _ => ?_⟩
      rw [c4, show nI (qh q) - 1 = nI (qh q - 1) from pk_sub (b := 1) (by omega), ix_nI (by omega), c5 _ (by omega)]
      refine ⟨vp_in_nI (by omega) (by decide), fun v11 e11 => ?_⟩
      subst e11
      rcases nextQ_cases i t (plT i t) q with ⟨e, hb⟩ | ⟨e, -⟩ | ⟨h2, he⟩
      · rw [e] at hJ ⊢
        rw [stepQ, if_pos rfl] at hJ
        refine ⟨fun _ s28 e28 => ?_, fun z => absurd rfl z⟩
        rw [c6, show nI (qb q) - 1 = nI (qb q - 1) from pk_sub (b := 1) (by omega)] at e28
        have d1 : s28.1 204 38 = nI (qb q - 1) := by rw [e28]; exact wI_self
        have d2 : s28.1 204 36 = nI (qh q) := by rw [e28, wI_ni (by omega)]; exact c4
        have d3 : s28.1 229 (qb q - 1) = nI (qf q (qb q - 1)) := by rw [e28, wI_ne (by omega)]; exact c7 _ (by omega)
        rw [d1, d2, ix_nI (by omega), ix_nI (by omega), d3]
        refine ⟨vp_in_nI (by omega) (by decide), vp_in_nI (by omega) (by decide), fun s31 e31 s32 e32 => ?_⟩
        rw [show s31.1 204 36 = nI (qh q) by rw [e31, wI_ne (by omega)]; exact d2, nI_1] at e32
        have hv : ∀ c, c ≠ 204 → c ≠ 228 → s32.1 c = σ2.1 c := fun c a b => by rw [e32, wI_ne a, e31, wI_ne b, e28, wI_ne a]
        have hv6 : ∀ f, f ≠ 36 → f ≠ 38 → s32.1 204 f = σ2.1 204 f := fun f a b => by rw [e32, wI_ni a, e31, wI_ne (by omega), e28, wI_ni b]
        refine hJ s32 ⟨by rw [e32, wI_2, e31, wI_2, e28, wI_2], fun c a b => hv c a (by omega), fun f hf => hv6 f (by omega) (by omega)⟩ ⟨⟨by rw [hv 206 (by omega) (by omega)]; exact c1, fun w w1 w2 => by rw [hv 208 (by omega) (by omega)]; exact c2' w w1 w2, fun v hv' => by rw [hv 226 (by omega) (by omega)]; exact c3 v hv'⟩, ⟨by rw [e32]; exact wI_self, fun k hk => ?_⟩, ⟨by rw [e32, wI_ni (by omega), e31, wI_ne (by omega)]; exact d1, fun k hk => by rw [hv 229 (by omega) (by omega)]; exact c7 k (by have : k < qb q - 1 := hk; omega)⟩, by rw [hv6 39 (by omega) (by omega)]; exact c8⟩ (by rw [hv6 33 (by omega) (by omega)]; exact k6) (hv 227 (by omega) (by omega))
        have hk : k < qh q + 1 := hk
        rw [e32, wI_ne (by omega), e31]
        show _ = nI (u1 (qs q) (qh q) (qf q (qb q - 1)) k)
        unfold u1
        by_cases z : k = qh q
        · rw [if_pos z, z]; exact wI_self
        · rw [if_neg z, wI_ni z, e28, wI_ne (by omega)]; exact c5 k (by omega)
      · exact absurd e h4
      · have hj1 := hq.s1 (qh q - 1) (by omega) (by omega)
        have hi1 := hq.sle (k := qh q - 2) (by omega)
        have hp0 : ¬ nI (nextQ i t (plT i t) q) = 0 := by
          rcases he with ⟨e, -⟩ | e | ⟨e, -, -⟩ <;> rw [e] <;> decide
        refine ⟨fun z => absurd z hp0, fun _ => ?_⟩
        rw [show nI (qh q) - 2 = nI (qh q - 2) from pk_sub (b := 2) (by omega), ix_nI (by omega), c5 _ (by omega)]
        have h217 : ∀ (k : Nat) (b : Nat) (bf : Nat → Nat) (m : Nat) σ3, stepQ q (nextQ i t (plT i t) q) = (qh q - 1, u1 (qs q) (qh q - 2) (qs q (qh q - 1)), b, bf, m) → frV σ2 σ3 → (∀ c, c ≠ 204 → c ≠ 229 → σ3.1 c = σ2.1 c) → σ3.1 204 36 = nI (qh q) → σ3.1 204 33 = nI D.length → σ3.1 204 38 = nI b → (∀ k, k < b → σ3.1 229 k = nI (bf k)) → σ3.1 204 39 = nI m → J_X8_moves_217 K c2 (nI j) (nI (nextQ i t (plT i t) q)) (nI (qs q (qh q - 1))) σ3 := by
          intro _ b bf m σ3 est r1 r2 r3 r4 r5 r6 r7
          unfold J_X8_moves_217
          rw [r3, show nI (qh q) - 2 = nI (qh q - 2) from pk_sub (b := 2) (by omega), ix_nI (by omega)]
          refine ⟨vp_in_nI (by omega) (by decide), fun s18 e18 s19 e19 => ?_⟩
          rw [show s18.1 204 36 = nI (qh q) by rw [e18, wI_ne (by omega)]; exact r3, show nI (qh q) - 1 = nI (qh q - 1) from pk_sub (b := 1) (by omega)] at e19
          have hv : ∀ c, c ≠ 204 → c ≠ 228 → s19.1 c = σ3.1 c := fun c a b => by rw [e19, wI_ne a, e18, wI_ne b]
          have hv6 : ∀ f, f ≠ 36 → s19.1 204 f = σ3.1 204 f := fun f a => by rw [e19, wI_ni a, e18, wI_ne (by omega)]
          refine hJ s19 (r1.tr ⟨by rw [e19, wI_2, e18, wI_2], fun c a b => hv c a (by omega), fun f hf => hv6 f (by omega)⟩) ?_ (by rw [hv6 33 (by omega)]; exact r4) ((hv 227 (by omega) (by omega)).trans (r2 227 (by omega) (by omega)))
          rw [est]
          refine ⟨⟨by rw [hv 206 (by omega) (by omega), r2 206 (by omega) (by omega)]; exact c1, fun w w1 w2 => by rw [hv 208 (by omega) (by omega), r2 208 (by omega) (by omega)]; exact c2' w w1 w2, fun v hv' => by rw [hv 226 (by omega) (by omega), r2 226 (by omega) (by omega)]; exact c3 v hv'⟩, ⟨by rw [e19]; exact wI_self, fun k hk => ?_⟩, ⟨by rw [hv6 38 (by omega)]; exact r5, fun k hk => by rw [hv 229 (by omega) (by omega)]; exact r6 k hk⟩, by rw [hv6 39 (by omega)]; exact r7⟩
          have hk : k < qh q - 1 := hk
          rw [e19, wI_ne (by omega), e18]
          show _ = nI (u1 (qs q) (qh q - 2) (qs q (qh q - 1)) k)
          unfold u1
          by_cases z : k = qh q - 2
          · rw [if_pos z, z]; exact wI_self
          · rw [if_neg z, wI_ni z, r2 228 (by omega) (by omega)]; exact c5 k (by omega)
        rcases he with ⟨e, hne⟩ | e | ⟨e, hne, -⟩
        · rw [e] at h217 ⊢
          refine ⟨fun z => absurd z (by decide), fun _ => ⟨vp_in_nI (by omega) (by decide), fun v13 e13 => ⟨fun _ s25 e25 => ?_, fun z => absurd rfl z⟩⟩⟩
          subst e13
          rw [c8, (bit_set _ hm1 _ (by omega)).1] at e25
          have hv6 : ∀ f, f ≠ 39 → s25.1 204 f = σ2.1 204 f := fun f a => by rw [e25, wI_ni a]
          have hv : ∀ c, c ≠ 204 → s25.1 c = σ2.1 c := fun c a => by rw [e25, wI_ne a]
          refine h217 0 (qb q) (qf q) (qm q ||| 2 ^ qs q (qh q - 2)) s25 (by rw [stepQ, if_neg (by decide), if_neg (by decide), if_pos rfl]) ⟨by rw [e25, wI_2], fun c a _ => hv c a, fun f hf => hv6 f (by omega)⟩ (fun c a _ => hv c a) (by rw [hv6 36 (by omega)]; exact c4) (by rw [hv6 33 (by omega)]; exact k6) (by rw [hv6 38 (by omega)]; exact c6) (fun k hk => by rw [hv 229 (by omega)]; exact c7 k hk) (by rw [e25]; exact wI_self)
        · rw [e] at hJ ⊢
          rw [stepQ, if_neg (by decide), if_pos rfl] at hJ
          refine ⟨fun _ s26 e26 s27 e27 => ?_, fun z => absurd rfl z⟩
          rw [c8, (bit_set _ hm1 _ (by omega)).1] at e26
          rw [show s26.1 204 36 = nI (qh q) by rw [e26, wI_ni (by omega)]; exact c4, show nI (qh q) - 1 = nI (qh q - 1) from pk_sub (b := 1) (by omega)] at e27
          have hv6 : ∀ f, f ≠ 39 → f ≠ 36 → s27.1 204 f = σ2.1 204 f := fun f a b => by rw [e27, wI_ni b, e26, wI_ni a]
          have hv : ∀ c, c ≠ 204 → s27.1 c = σ2.1 c := fun c a => by rw [e27, wI_ne a, e26, wI_ne a]
          refine hJ s27 ⟨by rw [e27, wI_2, e26, wI_2], fun c a _ => hv c a, fun f hf => hv6 f (by omega) (by omega)⟩ ⟨⟨by rw [hv 206 (by omega)]; exact c1, fun w w1 w2 => by rw [hv 208 (by omega)]; exact c2' w w1 w2, fun v hv' => by rw [hv 226 (by omega)]; exact c3 v hv'⟩, ⟨by rw [e27]; exact wI_self, fun k hk => by rw [hv 228 (by omega)]; exact c5 k (by have : k < qh q - 1 := hk; omega)⟩, ⟨by rw [hv6 38 (by omega) (by omega)]; exact c6, fun k hk => by rw [hv 229 (by omega)]; exact c7 k hk⟩, by rw [e27, wI_ni (by omega), e26]; exact wI_self⟩ (by rw [hv6 33 (by omega) (by omega)]; exact k6) (hv 227 (by omega))
        · rw [e] at h217 ⊢
          refine ⟨fun z => absurd z (by decide), fun _ => ⟨vp_in_nI (by omega) (by decide), fun v13 e13 => ⟨fun z => absurd z (by decide), fun _ => ?_⟩⟩⟩
          subst e13
          rw [c6, ix_nI (by omega)]
          refine ⟨vp_in_nI (by omega) (by decide), fun s15 e15 s16 e16 => ?_⟩
          rw [show s15.1 204 38 = nI (qb q) by rw [e15, wI_ne (by omega)]; exact c6, nI_1] at e16
          have hv6 : ∀ f, f ≠ 38 → s16.1 204 f = σ2.1 204 f := fun f a => by rw [e16, wI_ni a, e15, wI_ne (by omega)]
          have hv : ∀ c, c ≠ 204 → c ≠ 229 → s16.1 c = σ2.1 c := fun c a b => by rw [e16, wI_ne a, e15, wI_ne b]
          refine h217 0 (qb q + 1) (u1 (qf q) (qb q) (qs q (qh q - 2))) (qm q) s16 (by rw [stepQ, if_neg (by decide), if_neg (by decide), if_neg (by decide)]) ⟨by rw [e16, wI_2, e15, wI_2], fun c a b => hv c a (by omega), fun f hf => hv6 f (by omega)⟩ hv (by rw [hv6 36 (by omega)]; exact c4) (by rw [hv6 33 (by omega)]; exact k6) (by rw [e16]; exact wI_self) (fun k hk => ?_) (by rw [hv6 39 (by omega)]; exact c8)
          rw [e16, wI_ne (by omega), e15]
          unfold u1
          by_cases z : k = qb q
          · rw [if_pos z, z]; exact wI_self
          · rw [if_neg z, wI_ni z]; exact c7 k (by omega)
  · rw [nI_1] at e35
    rw [ix_nI (by omega), show nI n - nI i = nI (n - i) from pk_sub (by omega)] at e34
    rw [e35]
    refine hc s34 (by omega) ⟨by rw [e34, wI_2]; exact g1, fun c a => by rw [e34, wI_ne a]; exact g2 c a, fun k hk => ?_⟩
    rw [e34]
    by_cases e : k = i
    · subst e; exact wI_self
    · rw [wI_ni e]; exact g3 k (by omega)
end MVR
