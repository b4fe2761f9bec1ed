/-! the transitions: the class -/
theorem compB_iff {n : Nat} {t : Nat → Nat} {m v : Nat} : compB n t m v = true ↔ ∀ w, 1 ≤ w → w ≤ n → t w = v → m.testBit w = true := by
  unfold compB
  rw [List.all_eq_true]
  refine ⟨fun h w w1 w2 e => ?_, fun h w hw => ?_⟩
  · have := h (w - 1) (List.mem_range.mpr (by omega))
    rw [show w - 1 + 1 = w by omega] at this
    simpa [e] using this
  · have := List.mem_range.mp hw
    by_cases e : t (w + 1) = v
    · rw [h (w + 1) (by omega) (by omega) e]; simp
    · simp [e]
def CQ (n : Nat) (t : Nat → Nat) (σ : St) (q : TQ) : Prop := (σ.1 196 0 = nI n ∧ (∀ w, 1 ≤ w → w ≤ n → σ.1 197 w = nI (t w)) ∧ ∀ v, v ≤ n → σ.1 199 v = nI (plT n t v)) ∧ (σ.1 196 8 = nI (qh q) ∧ ∀ k, k < qh q → σ.1 201 k = nI (qs q k)) ∧ (σ.1 196 10 = nI (qb q) ∧ ∀ k, k < qb q → σ.1 202 k = nI (qf q k)) ∧ ∀ w, 1 ≤ w → w ≤ n → σ.1 203 w = if (qm q).testBit w then 1 else 0
section MVC
variable {σ : St} {n : Nat} {t : Nat → Nat} {q : TQ}
theorem isComplete_C {K : Int32 → St → Prop} {v : Nat} (hT : TR n t) (h : CQ n t σ q) (hv : v ≤ n) (h1 : compB n t (qm q) v = true → K 1 σ) (h0 : compB n t (qm q) v = false → K 0 σ) : P_X3_isComplete (nI v) σ K := by
  unfold P_X3_isComplete
  have hn6 := hT.n6
  refine LpE_for (S := Int32 × St) (T := Unit) (fun i _ => (nI (i + 1), σ)) (fun i _ => ∀ w, 1 ≤ w → w ≤ i → t w = v → (qm q).testBit w = true) n ?_ 0 () (by omega) (fun w w1 w2 => by omega)
  intro i _ c hi hI hc
  dsimp only
  unfold F_X3_isComplete_2
  rw [h.1.1, nI_ltI (by omega) (by omega)]
  refine ⟨fun z => h1 (compB_iff.mpr (fun w w1 w2 e => hI w w1 (by omega) e)), fun z => ⟨vp_in_nI (by omega) (by decide), ?_⟩⟩
  have := hT.ht (i + 1) (by omega) (by omega)
  rw [ix_nI (by omega), h.1.2.1 (i + 1) (by omega) (by omega), nI_eq (by omega) (by omega), h.2.2.2 (i + 1) (by omega) (by omega), nI_1]
  refine ⟨fun e => ⟨vp_in_nI (by omega) (by decide), ?_⟩, fun e v2 e2 => ?_⟩
  · cases hb : (qm q).testBit (i + 1)
    · rw [if_neg (by decide)]
      refine ⟨fun _ => h0 ?_, fun z => absurd rfl z⟩
      cases hc2 : compB n t (qm q) v
      · rfl
      · have := compB_iff.mp hc2 (i + 1) (by omega) (by omega) e
        rw [hb] at this; cases this
    · rw [if_pos rfl]
      refine ⟨fun z => absurd z (by decide), fun _ v4 e4 => ?_⟩
      rw [e4]
      refine hc () (by omega) (fun w w1 w2 e3 => ?_)
      by_cases z3 : w = i + 1
      · rw [z3]; exact hb
      · exact hI w w1 (by omega) e3
  · rw [e2]
    refine hc () (by omega) (fun w w1 w2 e3 => ?_)
    by_cases z3 : w = i + 1
    · rw [z3] at e3; exact absurd e3 e
    · exact hI w w1 (by omega) e3
theorem choose_C {K : Int32 → St → Prop} (hT : TR n t) (hq : okQ n q) (h : CQ n t σ q) (hpl : ∀ v, v ≤ n → plT n t v < 7) (hK : K (nI (nextQ n t (plT n t) q)) σ) : P_X3_choose σ K := by
  unfold P_X3_choose
  have hn6 := hT.n6
  have hhb := hq.hb
  have h1 := hq.h1
  unfold nextQ at hK
  have h102 : (¬ 2 ≤ qh q ∨ K (nI (if 0 < qb q then 0 else 4)) σ) → (2 ≤ qh q ∨ K (nI (if 0 < qb q then 0 else 4)) σ) → J_X3_choose_102 K σ := by
    intro a b
    have : K (nI (if 0 < qb q then 0 else 4)) σ := by
      rcases a with a | a
      · rcases b with b | b
        · exact absurd b a
        · exact b
      · exact a
    unfold J_X3_choose_102
    rw [h.2.2.1.1, show (0 : Int32) = nI 0 from rfl, nI_leI (by omega) (by omega)]
    refine ⟨fun z => ?_, fun z => ?_⟩
    · rw [if_neg (by omega)] at this; exact this
    · rw [if_pos (by omega)] at this; exact this
  rw [h.2.1.1, show (2 : Int32) = nI 2 from rfl, nI_ltI (by omega) (by omega)]
  refine ⟨fun z => ?_, fun z => ?_⟩
  · rw [if_neg (by omega)] at hK
    exact h102 (Or.inr hK) (Or.inr hK)
  · have h2 : 2 ≤ qh q := by omega
    rw [if_pos h2] at hK
    rw [show nI (qh q) - 1 = nI (qh q - 1) from pk_sub (b := 1) (by omega), show nI (qh q) - nI 2 = nI (qh q - 2) from pk_sub (b := 2) (by omega)]
    have hj := hq.s1 (qh q - 1) (by omega) (by omega)
    have hi := hq.sle (k := qh q - 2) (by omega)
    refine ⟨vp_in_nI (by omega) (by decide), fun v2 e2 => ⟨vp_in_nI (by omega) (by decide), fun v4 e4 => ?_⟩⟩
    rw [ix_nI (by omega), h.2.1.2 _ (by omega)] at e2 e4
    subst e2 e4
    generalize hgj : qs q (qh q - 1) = j at *
    generalize hgi : qs q (qh q - 2) = i at *
    have htj := hT.ht j hj.1 hj.2
    have h76 : K (nI (if i ≠ 0 ∧ i < j ∧ plT n t j < plT n t i then 3 else if 0 < qb q then 0 else 4)) σ → J_X3_choose_76 K (nI j) (nI i) σ := by
      intro hk
      unfold J_X3_choose_76
      rw [show (0 : Int32) = nI 0 from rfl, nI_eq (by omega) (by omega), nI_leI (by omega) (by omega)]
      refine ⟨fun z1 => ?_, fun z1 => ⟨fun z2 => ?_, fun z2 => ⟨vp_in_nI (by omega) (by decide), vp_in_nI (by omega) (by decide), ?_⟩⟩⟩
      · rw [if_neg (fun z => z.1 z1)] at hk; exact h102 (Or.inr hk) (Or.inr hk)
      · rw [if_neg (by omega)] at hk; exact h102 (Or.inr hk) (Or.inr hk)
      · have p1 := hpl i hi
        have p2 := hpl j hj.2
        rw [ix_nI (by omega), ix_nI (by omega), h.1.2.2 i hi, h.1.2.2 j hj.2, nI_leI (by omega) (by omega)]
        refine ⟨fun z3 => ?_, fun z3 => ?_⟩
        · rw [if_neg (by omega)] at hk; exact h102 (Or.inr hk) (Or.inr hk)
        · rw [if_pos ⟨z1, by omega, by omega⟩] at hk; exact hk
    have h56 : K (nI (if t j = i ∧ compB n t (qm q) j = true then 2 else if i ≠ 0 ∧ i < j ∧ plT n t j < plT n t i then 3 else if 0 < qb q then 0 else 4)) σ → J_X3_choose_56 K (nI j) (nI i) σ := by
      intro hk
      unfold J_X3_choose_56
      refine ⟨vp_in_nI (by omega) (by decide), ?_⟩
      rw [ix_nI (by omega), h.1.2.1 j hj.1 hj.2, nI_eq (by omega) (by omega)]
      refine ⟨fun z1 => isComplete_C hT h hj.2 (fun hb => ⟨fun z => absurd z (by decide), fun _ => ?_⟩) (fun hb => ⟨fun _ => ?_, fun z => absurd rfl z⟩), fun z1 => ?_⟩
      · rw [if_pos ⟨z1, hb⟩] at hk; exact hk
      · rw [if_neg (fun z => by rw [hb] at z; cases z.2)] at hk; exact h76 hk
      · rw [if_neg (fun z => z1 z.1)] at hk; exact h76 hk
    rw [show (0 : Int32) = nI 0 from rfl, nI_eq (by omega) (by omega)]
    refine ⟨fun z1 => ?_, fun z1 => ⟨vp_in_nI (by omega) (by decide), ?_⟩⟩
    · rw [if_neg (fun z => z.1 z1)] at hK; exact h56 hK
    · have hti := hT.ht i (by omega) hi
      rw [ix_nI (by omega), h.1.2.1 i (by omega) hi, nI_eq (by omega) (by omega)]
      refine ⟨fun z2 => isComplete_C hT h hi (fun hb => ⟨fun z => absurd z (by decide), fun _ => ?_⟩) (fun hb => ⟨fun _ => ?_, fun z => absurd rfl z⟩), fun z2 => ?_⟩
      · rw [if_pos ⟨z1, z2, hb⟩] at hK; exact hK
      · rw [if_neg (fun z => by rw [hb] at z; cases z.2.2)] at hK; exact h56 hK
      · rw [if_neg (fun z => z2 z.2.1)] at hK; exact h56 hK
theorem bit1 {m v w : Nat} (hm : m < 128) (hv : v < 7) (hw : w < 7) : (if (m ||| 2 ^ v).testBit w then (1 : Int32) else 0) = if w = v then 1 else if m.testBit w then 1 else 0 := by
  rw [bit_get m hm v hv w hw]
  by_cases e : w = v
  · rw [if_pos e]; simp [e]
  · rw [if_neg e]; simp [e]
theorem apply_C {K : St → Prop} (hT : TR n t) (hq : okQ n q) (h : CQ n t σ q) (h4 : nextQ n t (plT n t) q ≠ 4) (hK : ∀ σ', (σ'.2 = σ.2 ∧ (∀ c, c ≠ 196 → c < 201 ∨ 203 < c → σ'.1 c = σ.1 c) ∧ σ'.1 196 6 = σ.1 196 6) → CQ n t σ' (stepQ q (nextQ n t (plT n t) q)) → K σ') : P_X3_apply (nI (nextQ n t (plT n t) q)) σ K := by
  unfold P_X3_apply
  have hn6 := hT.n6
  have hhb := hq.hb
  have h1 := hq.h1
  have hm := hq.m1
  obtain ⟨⟨c1, c2, c3⟩, ⟨c4, c5⟩, ⟨c6, c7⟩, c8⟩ := h
  rw [c4, c6]
  rcases nextQ_cases n t (plT n t) q with ⟨e, hb⟩ | ⟨e, -⟩ | ⟨h2, he⟩
  · rw [e]
    rw [e, stepQ, if_pos rfl] at hK
    refine ⟨fun _ s15 e15 => ?_, fun z => absurd rfl z⟩
    rw [show nI (qb q) - 1 = nI (qb q - 1) from pk_sub (b := 1) (by omega)] at e15
    have d1 : s15.1 196 10 = nI (qb q - 1) := by rw [e15]; exact wI_self
    have d2 : s15.1 196 8 = nI (qh q) := by rw [e15, wI_ni (by omega)]; exact c4
    have d3 : s15.1 202 (qb q - 1) = nI (qf q (qb q - 1)) := by rw [e15, wI_ne (by omega)]; exact c7 _ (by omega)
    rw [d1, d2, ix_nI (by omega), ix_nI (by omega), d3]
    refine ⟨vp_in_nI (by omega) (by decide), vp_in_nI (by omega) (by decide), fun s18 e18 s19 e19 => ?_⟩
    rw [show s18.1 196 8 = nI (qh q) by rw [e18, wI_ne (by omega)]; exact d2, nI_1] at e19
    have hv : ∀ c, c ≠ 196 → c ≠ 201 → s19.1 c = σ.1 c := fun c a b => by rw [e19, wI_ne a, e18, wI_ne b, e15, wI_ne a]
    have hv6 : ∀ j, j ≠ 8 → j ≠ 10 → s19.1 196 j = σ.1 196 j := fun j a b => by rw [e19, wI_ni a, e18, wI_ne (by omega), e15, wI_ni b]
    refine hK s19 ⟨by rw [e19, wI_2, e18, wI_2, e15, wI_2], fun c a b => hv c a (by omega), hv6 6 (by omega) (by omega)⟩ ⟨⟨by rw [hv6 0 (by omega) (by omega)]; exact c1, fun w w1 w2 => by rw [hv 197 (by omega) (by omega)]; exact c2 w w1 w2, fun v hv' => by rw [hv 199 (by omega) (by omega)]; exact c3 v hv'⟩, ⟨by rw [e19]; exact wI_self, fun k hk => ?_⟩, ⟨by rw [e19, wI_ni (by omega), e18, wI_ne (by omega)]; exact d1, fun k hk => by rw [hv 202 (by omega) (by omega)]; exact c7 k (by have : k < qb q - 1 := hk; omega)⟩, fun w w1 w2 => by rw [hv 203 (by omega) (by omega)]; exact c8 w w1 w2⟩
    have hk : k < qh q + 1 := hk
    rw [e19, wI_ne (by omega), e18]
    show _ = nI (u1 (qs q) (qh q) (qf q (qb q - 1)) k)
    unfold u1
    by_cases z : k = qh q
    · rw [if_pos z, z]; exact wI_self
    · rw [if_neg z, wI_ni z, e15, wI_ne (by omega)]; exact c5 k (by omega)
  · exact absurd e h4
  · have hj := hq.s1 (qh q - 1) (by omega) (by omega)
    have hi := hq.sle (k := qh q - 2) (by omega)
    rw [show nI (qh q) - 1 = nI (qh q - 1) from pk_sub (b := 1) (by omega), show nI (qh q) - 2 = nI (qh q - 2) from pk_sub (b := 2) (by omega)]
    have hp0 : ¬ nI (nextQ n t (plT n t) q) = 0 := by
      rcases he with ⟨e, -⟩ | e | ⟨e, -, -⟩ <;> rw [e] <;> decide
    refine ⟨fun z => absurd z hp0, fun _ => ⟨vp_in_nI (by omega) (by decide), fun v2 e2 => ⟨vp_in_nI (by omega) (by decide), fun v4 e4 s5 e5 => ?_⟩⟩⟩
    rw [ix_nI (by omega), c5 _ (by omega)] at e2 e4
    subst e2 e4
    have d58 : s5.1 196 8 = nI (qh q - 1) := by rw [e5]; exact wI_self
    rcases he with ⟨e, hne⟩ | e | ⟨e, hne, -⟩
    · rw [e]
      rw [e, stepQ, if_neg (by decide), if_neg (by decide), if_pos rfl] at hK
      refine ⟨fun z => absurd z (by decide), fun _ => ?_⟩
      rw [d58, show nI (qh q - 1) - 1 = nI (qh q - 1 - 1) from pk_sub (b := 1) (by omega), show qh q - 1 - 1 = qh q - 2 by omega, ix_nI (by omega)]
      refine ⟨vp_in_nI (by omega) (by decide), fun s7 e7 => ⟨fun _ => ⟨vp_in_nI (by omega) (by decide), fun s12 e12 => ?_⟩, fun z => absurd rfl z⟩⟩
      rw [ix_nI (by omega)] at e12
      have hv : ∀ c, c ≠ 196 → c ≠ 201 → c ≠ 203 → s12.1 c = σ.1 c := fun c a b d => by rw [e12, wI_ne d, e7, wI_ne b, e5, wI_ne a]
      have hv6 : ∀ j, j ≠ 8 → s12.1 196 j = σ.1 196 j := fun j a => by rw [e12, wI_ne (by omega), e7, wI_ne (by omega), e5, wI_ni a]
      refine hK s12 ⟨by rw [e12, wI_2, e7, wI_2, e5, wI_2], fun c a b => hv c a (by omega) (by omega), hv6 6 (by omega)⟩ ⟨⟨by rw [hv6 0 (by omega)]; exact c1, fun w w1 w2 => by rw [hv 197 (by omega) (by omega) (by omega)]; exact c2 w w1 w2, fun v hv' => by rw [hv 199 (by omega) (by omega) (by omega)]; exact c3 v hv'⟩, ⟨by rw [e12, wI_ne (by omega), e7, wI_ne (by omega)]; exact d58, fun k hk => ?_⟩, ⟨by rw [hv6 10 (by omega)]; exact c6, fun k hk => by rw [hv 202 (by omega) (by omega) (by omega)]; exact c7 k hk⟩, fun w w1 w2 => ?_⟩
      · have hk : k < qh q - 1 := hk
        rw [e12, wI_ne (by omega), e7]
        show _ = nI (u1 (qs q) (qh q - 2) (qs q (qh q - 1)) k)
        unfold u1
        by_cases z : k = qh q - 2
        · rw [if_pos z, z]; exact wI_self
        · rw [if_neg z, wI_ni z, e5, wI_ne (by omega)]; exact c5 k (by omega)
      · show _ = if (qm q ||| 2 ^ qs q (qh q - 2)).testBit w then 1 else 0
        rw [bit1 hm (by omega) (by omega), e12]
        by_cases z : w = qs q (qh q - 2)
        · rw [if_pos z, z]; exact wI_self
        · rw [if_neg z, wI_ni z, e7, wI_ne (by omega), e5, wI_ne (by omega)]; exact c8 w w1 w2
    · rw [e]
      rw [e, stepQ, if_neg (by decide), if_pos rfl] at hK
      refine ⟨fun _ => ⟨vp_in_nI (by omega) (by decide), fun s14 e14 => ?_⟩, fun z => absurd rfl z⟩
      rw [ix_nI (by omega)] at e14
      have hv : ∀ c, c ≠ 196 → c ≠ 203 → s14.1 c = σ.1 c := fun c a d => by rw [e14, wI_ne d, e5, wI_ne a]
      have hv6 : ∀ j, j ≠ 8 → s14.1 196 j = σ.1 196 j := fun j a => by rw [e14, wI_ne (by omega), e5, wI_ni a]
      refine hK s14 ⟨by rw [e14, wI_2, e5, wI_2], fun c a b => hv c a (by omega), hv6 6 (by omega)⟩ ⟨⟨by rw [hv6 0 (by omega)]; exact c1, fun w w1 w2 => by rw [hv 197 (by omega) (by omega)]; exact c2 w w1 w2, fun v hv' => by rw [hv 199 (by omega) (by omega)]; exact c3 v hv'⟩, ⟨by rw [e14, wI_ne (by omega)]; exact d58, fun k hk => by rw [hv 201 (by omega) (by omega)]; exact c5 k (by have : k < qh q - 1 := hk; omega)⟩, ⟨by rw [hv6 10 (by omega)]; exact c6, fun k hk => by rw [hv 202 (by omega) (by omega)]; exact c7 k hk⟩, fun w w1 w2 => ?_⟩
      show _ = if (qm q ||| 2 ^ qs q (qh q - 1)).testBit w then 1 else 0
      rw [bit1 hm (by omega) (by omega), e14]
      by_cases z : w = qs q (qh q - 1)
      · rw [if_pos z, z]; exact wI_self
      · rw [if_neg z, wI_ni z, e5, wI_ne (by omega)]; exact c8 w w1 w2
    · rw [e]
      rw [e, stepQ, if_neg (by decide), if_neg (by decide), if_neg (by decide)] at hK
      refine ⟨fun z => absurd z (by decide), fun _ => ?_⟩
      rw [d58, show nI (qh q - 1) - 1 = nI (qh q - 1 - 1) from pk_sub (b := 1) (by omega), show qh q - 1 - 1 = qh q - 2 by omega, ix_nI (by omega)]
      refine ⟨vp_in_nI (by omega) (by decide), fun s7 e7 => ⟨fun z => absurd z (by decide), fun _ => ?_⟩⟩
      have d7 : s7.1 196 10 = nI (qb q) := by rw [e7, wI_ne (by omega), e5, wI_ni (by omega)]; exact c6
      rw [d7, ix_nI (by omega)]
      refine ⟨vp_in_nI (by omega) (by decide), fun s9 e9 s10 e10 => ?_⟩
      rw [show s9.1 196 10 = nI (qb q) by rw [e9, wI_ne (by omega)]; exact d7, nI_1] at e10
      have hv : ∀ c, c ≠ 196 → c ≠ 201 → c ≠ 202 → s10.1 c = σ.1 c := fun c a b d => by rw [e10, wI_ne a, e9, wI_ne d, e7, wI_ne b, e5, wI_ne a]
      have hv6 : ∀ j, j ≠ 8 → j ≠ 10 → s10.1 196 j = σ.1 196 j := fun j a b => by rw [e10, wI_ni b, e9, wI_ne (by omega), e7, wI_ne (by omega), e5, wI_ni a]
      refine hK s10 ⟨by rw [e10, wI_2, e9, wI_2, e7, wI_2, e5, wI_2], fun c a b => hv c a (by omega) (by omega), hv6 6 (by omega) (by omega)⟩ ⟨⟨by rw [hv6 0 (by omega) (by omega)]; exact c1, fun w w1 w2 => by rw [hv 197 (by omega) (by omega) (by omega)]; exact c2 w w1 w2, fun v hv' => by rw [hv 199 (by omega) (by omega) (by omega)]; exact c3 v hv'⟩, ⟨by rw [e10, wI_ni (by omega), e9, wI_ne (by omega), e7, wI_ne (by omega)]; exact d58, fun k hk => ?_⟩, ⟨by rw [e10]; exact wI_self, fun k hk => ?_⟩, fun w w1 w2 => by rw [hv 203 (by omega) (by omega) (by omega)]; exact c8 w w1 w2⟩
      · have hk : k < qh q - 1 := hk
        rw [e10, wI_ne (by omega), e9, wI_ne (by omega), e7]
        show _ = nI (u1 (qs q) (qh q - 2) (qs q (qh q - 1)) k)
        unfold u1
        by_cases z : k = qh q - 2
        · rw [if_pos z, z]; exact wI_self
        · rw [if_neg z, wI_ni z, e5, wI_ne (by omega)]; exact c5 k (by omega)
      · have hk : k < qb q + 1 := hk
        rw [e10, wI_ne (by omega), e9]
        show _ = nI (u1 (qf q) (qb q) (qs q (qh q - 2)) k)
        unfold u1
        by_cases z : k = qb q
        · rw [if_pos z, z]; exact wI_self
        · rw [if_neg z, wI_ni z, e7, wI_ne (by omega), e5, wI_ne (by omega)]; exact c7 k (by omega)
/-- what is left behind the transitions -/
def ranC (n : Nat) (t : Nat → Nat) (σ' : St) : Prop := σ'.1 196 6 = nI (movesL n t).length ∧ ∀ k, (hk : k < (movesL n t).length) → σ'.1 200 k = nI (movesL n t)[k]
theorem nextQ_le (n : Nat) (t pl : Nat → Nat) (q : TQ) : nextQ n t pl q ≤ 4 := by
  rcases nextQ_cases n t pl q with ⟨e, _⟩ | ⟨e, _⟩ | ⟨_, ⟨e, _⟩ | e | ⟨e, _⟩⟩ <;> omega
theorem runQ_len (n : Nat) (t pl : Nat → Nat) : ∀ f q, (runQ n t pl f q).length ≤ f
  | 0, _ => Nat.le_refl _
  | f + 1, q => by
    rw [runQ]
    split
    · exact Nat.zero_le _
    · rw [List.length_cons]; have := runQ_len n t pl f (stepQ q (nextQ n t pl q)); omega
theorem perform_C {K : St → Prop} (hT : TR n t) (h : arrd n t σ) (hK : ∀ σ', (σ'.2 = σ.2 ∧ ∀ c, c < 196 ∨ 203 < c → σ'.1 c = σ.1 c) → ranC n t σ' → K σ') : P_X3_perform σ K := by
  unfold P_X3_perform
  have hn6 := hT.n6
  intro s1 e1 s2 e2 s3 e3 s4 e4 v5 e5
  have i0 : ix (0 : Int32) = 0 := ix_nI (j := 0) (by decide)
  rw [i0] at e2
  have f0 : ∀ c, c ≠ 196 → c ≠ 201 → s4.1 c = σ.1 c := fun c a b => by rw [e4, wI_ne a, e3, wI_ne a, e2, wI_ne b, e1, wI_ne a]
  have f6 : s4.1 196 0 = nI n := by rw [e4, wI_ni (by omega), e3, wI_ni (by omega), e2, wI_ne (by omega), e1, wI_ni (by omega)]; exact h.1
  rw [f6] at e5
  subst e5
  have hpl : ∀ v, v ≤ n → σ.1 199 v = nI (plT n t v) ∧ plT n t v < 7 := fun v hv => pl_at hT h.2.2.2 hv
  refine LpE_for (S := Int32 × St) (fun i t' => (nI (n - i), t')) (fun i σ' => (σ'.2 = σ.2 ∧ (∀ c, c ≠ 196 → c < 201 ∨ 203 < c → σ'.1 c = σ.1 c)) ∧ σ'.1 196 0 = nI n ∧ σ'.1 196 6 = 0 ∧ σ'.1 196 8 = 1 ∧ σ'.1 201 0 = 0 ∧ σ'.1 196 10 = nI i ∧ (∀ k, k < i → σ'.1 202 k = nI (n - k)) ∧ ∀ w, n - i < w → w ≤ n → σ'.1 203 w = 0) n ?_ 0 s4 (by omega) ⟨⟨by rw [e4, wI_2, e3, wI_2, e2, wI_2, e1, wI_2], fun c a b => f0 c a (by omega)⟩, f6, by rw [e4, wI_ni (by omega), e3, wI_ni (by omega), e2, wI_ne (by omega), e1]; exact wI_self, by rw [e4, wI_ni (by omega), e3]; exact wI_self, by rw [e4, wI_ne (by omega), e3, wI_ne (by omega), e2]; exact wI_self, by rw [e4]; exact wI_self, fun k hk => absurd hk (Nat.not_lt_zero _), fun w w1 w2 => by omega⟩
  intro i σ' c hi ⟨g1, g2, g3, g4, g5, g6, g7, g8⟩ hc
  dsimp only
  unfold F_X3_perform_27
  rw [show (1 : Int32) = nI 1 from rfl, nI_ltI (by omega) (by omega)]
  refine ⟨fun z => ?_, fun z => ?_⟩
  · have hin : i = n := by omega
    subst hin
    have hCQ0 : CQ i t σ' (begQ i) := ⟨⟨g2, fun w w1 w2 => by rw [g1.2 197 (by omega) (by omega)]; exact h.2.1 w w1 w2, fun v hv => by rw [g1.2 199 (by omega) (by omega)]; exact (hpl v hv).1⟩, ⟨g4, fun k hk => by have hk : k < 1 := hk; rw [show k = 0 by omega]; exact g5⟩, ⟨g6, g7⟩, fun w w1 w2 => by rw [g8 w (by omega) w2]; show _ = if Nat.testBit 0 w then 1 else 0; rw [Nat.zero_testBit]; rfl⟩
    have hmv : movesL i t = [] ++ runQ i t (plT i t) 64 (begQ i) := rfl
    refine LpE_inv (fun s' => (s'.2.2 = σ.2 ∧ ∀ c, c < 196 ∨ 203 < c → s'.2.1 c = σ.1 c) ∧ ∃ q f D, okQ i q ∧ CQ i t s'.2 q ∧ movesL i t = D ++ runQ i t (plT i t) f q ∧ D.length + f = 64 ∧ phiQ (plT i t) q < f ∧ s'.1 = nI D.length ∧ s'.2.1 196 6 = nI D.length ∧ ∀ k, (hk : k < D.length) → s'.2.1 200 k = nI D[k]) (fun s' => 100 - ix s'.1) ?_ _ ⟨⟨g1.1, fun c a => g1.2 c (by omega) (by omega)⟩, begQ i, 64, [], begQ_ok hn6, hCQ0, hmv, rfl, phi_beg hn6, rfl, g3, fun k hk => absurd hk (Nat.not_lt_zero _)⟩
    intro s' c2 hI hc2
    obtain ⟨x1, σ2⟩ := s'
    obtain ⟨k1, q, f, D, hq, hCQ, hmv2, hDf, hph, rfl, k6, k7⟩ := hI
    dsimp only at k1 hCQ k6 k7
    dsimp only
    unfold F_X3_perform_67
    rw [show (64 : Int32) = nI 64 from rfl, nI_leI (by omega) (by omega)]
    refine ⟨fun z2 => by omega, fun _ => choose_C hT hq hCQ (fun v hv => (hpl v hv).2) ?_⟩
    obtain ⟨f, rfl⟩ : ∃ g, f = g + 1 := ⟨f - 1, by omega⟩
    rw [runQ] at hmv2
    have hle := nextQ_le i t (plT i t) q
    rw [show (4 : Int32) = nI 4 from rfl, nI_eq (by omega) (by omega)]
    refine ⟨fun z2 => ?_, fun z2 => ⟨vp_in_nI (by omega) (by decide), fun s9 e9 s10 e10 => ?_⟩⟩
    · rw [if_pos z2, List.append_nil] at hmv2
      refine hK σ2 k1 ⟨by rw [hmv2]; exact k6, fun k hk => ?_⟩
      have hk' : k < D.length := by rw [hmv2] at hk; exact hk
      rw [k7 k hk']; congr 1; simp only [hmv2]
    · rw [if_neg z2] at hmv2
      rw [ix_nI (by omega)] at e9
      rw [nI_1] at e10
      obtain ⟨⟨c1, c2', c3⟩, ⟨c4, c5⟩, ⟨c6, c7⟩, c8⟩ := hCQ
      have hx : ∀ c, c ≠ 196 → c ≠ 200 → s10.1 c = σ2.1 c := fun c a b => by rw [e10, wI_ne a, e9, wI_ne b]
      have hx6 : ∀ j, j ≠ 6 → s10.1 196 j = σ2.1 196 j := fun j a => by rw [e10, wI_ni a, e9, wI_ne (by omega)]
      refine apply_C hT hq (σ := s10) ⟨⟨by rw [hx6 0 (by omega)]; exact c1, fun w w1 w2 => by rw [hx 197 (by omega) (by omega)]; exact c2' w w1 w2, fun v hv => by rw [hx 199 (by omega) (by omega)]; exact c3 v hv⟩, ⟨by rw [hx6 8 (by omega)]; exact c4, fun k hk => by rw [hx 201 (by omega) (by omega)]; exact c5 k hk⟩, ⟨by rw [hx6 10 (by omega)]; exact c6, fun k hk => by rw [hx 202 (by omega) (by omega)]; exact c7 k hk⟩, fun w w1 w2 => by rw [hx 203 (by omega) (by omega)]; exact c8 w w1 w2⟩ z2 (fun σ3 r1 r2 v12 e12 => ?_)
      rw [nI_1] at e12
      subst e12
      have hlen : (D ++ [nextQ i t (plT i t) q]).length = D.length + 1 := by rw [List.length_append]; rfl
      refine hc2 _ ⟨⟨?_, fun c a => ?_⟩, stepQ q (nextQ i t (plT i t) q), f, D ++ [nextQ i t (plT i t) q], okQ_step hq z2, r2, by rw [hmv2, List.append_assoc]; rfl, by rw [hlen]; omega, by have := phi_step hq z2; omega, by rw [hlen], ?_, fun k hk => ?_⟩ ?_
      · show σ3.2 = _
        rw [r1.1, e10, wI_2, e9, wI_2]; exact k1.1
      · show σ3.1 c = _
        rw [r1.2.1 c (by omega) (by omega), hx c (by omega) (by omega)]; exact k1.2 c a
      · show σ3.1 196 6 = _
        rw [r1.2.2, e10, hlen]; exact wI_self
      · show σ3.1 200 k = _
        rw [r1.2.1 200 (by omega) (by omega), e10, wI_ne (by omega), e9]
        rw [hlen] at hk
        by_cases e : k = D.length
        · subst e
          rw [wI_self, List.getElem_append_right (Nat.le_refl _)]
          simp only [Nat.sub_self, List.getElem_cons_zero]
        · rw [wI_ni e, List.getElem_append_left (show k < D.length by omega)]; exact k7 k (by omega)
      · show 100 - ix (nI (D.length + 1)) < 100 - ix (nI D.length)
        rw [ix_nI (by omega), ix_nI (by omega)]; omega
  · refine ⟨vp_in_nI (by omega) (by decide), fun s14 e14 => ?_⟩
    rw [ix_nI (by omega)] at e14
    have d1 : s14.1 196 10 = nI i := by rw [e14, wI_ne (by omega)]; exact g6
    rw [d1, ix_nI (by omega)]
    refine ⟨vp_in_nI (by omega) (by decide), fun s16 e16 s17 e17 v18 e18 => ?_⟩
    rw [show s16.1 196 10 = nI i by rw [e16, wI_ne (by omega)]; exact d1] at e17
    have ev : v18 = nI (n - (i + 1)) := by
      rw [e18, ← Int32.sub_eq_add_neg, show nI (n - i) - nI 1 = nI (n - i - 1) from pk_sub (b := 1) (by omega)]
      congr 1
    rw [nI_add] at e17
    rw [ev]
    have hx : ∀ c, c ≠ 196 → c ≠ 202 → c ≠ 203 → s17.1 c = σ'.1 c := fun c a b d => by rw [e17, wI_ne a, e16, wI_ne b, e14, wI_ne d]
    have hx6 : ∀ j, j ≠ 10 → s17.1 196 j = σ'.1 196 j := fun j a => by rw [e17, wI_ni a, e16, wI_ne (by omega), e14, wI_ne (by omega)]
    refine hc s17 (by omega) ⟨⟨by rw [e17, wI_2, e16, wI_2, e14, wI_2]; exact g1.1, fun c a b => by rw [hx c a (by omega) (by omega)]; exact g1.2 c a b⟩, by rw [hx6 0 (by omega)]; exact g2, by rw [hx6 6 (by omega)]; exact g3, by rw [hx6 8 (by omega)]; exact g4, by rw [hx 201 (by omega) (by omega) (by omega)]; exact g5, by rw [e17]; exact wI_self, fun k hk => ?_, fun w w1 w2 => ?_⟩
    · rw [e17, wI_ne (by omega), e16]
      by_cases e : k = i
      · subst e; exact wI_self
      · rw [wI_ni e, e14, wI_ne (by omega)]; exact g7 k (by omega)
    · rw [e17, wI_ne (by omega), e16, wI_ne (by omega), e14]
      by_cases e : w = n - i
      · subst e; exact wI_self
      · rw [wI_ni e]; exact g8 w (by omega) w2
end MVC
