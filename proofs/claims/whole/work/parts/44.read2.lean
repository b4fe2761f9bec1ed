/-! the class's read -/
theorem ff_le {N : Nat} {τ : Nat → Nat} : ∀ (f i n : Nat) (row : Nat → Nat) (p : Nat), i ≤ N → ff N τ f i n row = some p → p ≤ N := by
  intro f
  induction f with
  | zero => intro i n row p h1 h2; rw [ff] at h2; cases h2
  | succ f ih =>
    intro i n row p h1 h2
    rw [ff] at h2
    split at h2
    · split at h2
      · cases h2; omega
      · cases h2
    · split at h2
      · split at h2
        · cases h2; omega
        · exact ih _ _ _ _ (by omega) h2
      · split at h2
        · cases h2; omega
        · split at h2
          · cases h2; omega
          · split at h2
            · cases h2; omega
            · exact ih _ _ _ _ (by omega) h2
section RD2
variable {σ : St} {s : AS} {K : Int32 → St → Prop}
def frR (σ σ' : St) (m : Nat) : Prop := σ'.2 = σ.2 ∧ (∀ k, k ≠ 0 → k ≠ 3 → (∀ q, m ≤ q → q < 4 → k < σ.2.2 q ∨ σ.2.2 q + 19 ≤ k) → σ'.1 k = σ.1 k) ∧ (∀ q, q < 4 → σ'.1 (σ.2.2 q + 1) 0 = 8)
theorem RC_read {σ' : St} {L : List (Nat × Nat)} (h : RC σ s) (hL : aM s + L.length ≤ 4) (hf : frR σ σ' (aM s)) (h0 : σ'.1 0 2 = nI (aM s + L.length)) (hS : ∀ k, (hk : k < L.length) → RS σ' (σ.2.2 (aM s + k)) (newS (tx s) L[k])) (hB : ∀ i, aM s + L.length ≤ i → i < 4 → RB σ' (σ.2.2 i)) : RC σ' (s.1, (aM s + L.length, fun i => if i < aM s then aS s i else newS (tx s) (L.getD (i - aM s) (0, 0))), s.2.2) := by
  obtain ⟨f1, f2, f3⟩ := hf
  have hm := h.m4
  have hsp : ∀ i, σ'.2.2 i = σ.2.2 i := fun i => by rw [f1]
  have hlo : ∀ k, k < 5 ∨ 81 ≤ k → ∀ q, aM s ≤ q → q < 4 → k < σ.2.2 q ∨ σ.2.2 q + 19 ≤ k := fun k hk q _ hq => by have := s_rng (h.sok hq); omega
  have hRW : ∀ a W, 80 ≤ a → a ≤ 110 → RW σ a W → RW σ' a W := fun a W ha1 ha2 r => by
    obtain ⟨r1, r2⟩ := r
    refine ⟨fun p p1 q q1 => ?_, fun p p1 q q1 q2 => ?_⟩
    · rw [f2 _ (by omega) (by omega) (hlo _ (by omega))]; exact r1 p p1 q q1
    · rw [f2 _ (by omega) (by omega) (hlo _ (by omega))]; exact r2 p p1 q q1 q2
  refine ⟨⟨by rw [f2 1 (by decide) (by decide) (hlo _ (by omega))]; exact h.1.1, fun i hi => by rw [f2 2 (by decide) (by decide) (hlo _ (by omega))]; exact h.1.2 i hi⟩, ⟨h0, hL⟩, ⟨fun i hi => by rw [hsp]; exact h.sok hi, fun i hi k hk e => by rw [hsp, hsp] at e; exact h.sinj hi hk e, fun i hi => by rw [hsp]; exact f3 i hi⟩, ⟨fun i hi => ?_, fun i hi hi4 => by rw [hsp]; exact hB i hi hi4⟩, hRW 81 _ (by decide) (by decide) h.wts, fun i hi => ⟨by rw [f2 124 (by decide) (by decide) (hlo _ (by omega))]; exact (h.slot hi).1, hRW _ _ (by omega) (by omega) (h.slot hi).2⟩, by rw [f2 125 (by decide) (by decide) (hlo _ (by omega))]; exact h.g1, by rw [f2 125 (by decide) (by decide) (hlo _ (by omega))]; exact h.g2, by rw [f2 125 (by decide) (by decide) (hlo _ (by omega))]; exact h.g3⟩
  have hi' : i < aM s + L.length := hi
  rw [hsp]
  show RS σ' (σ.2.2 i) (if i < aM s then aS s i else _)
  by_cases e : i < aM s
  · rw [if_pos e]
    have h1 := s_rng (h.sok (i := i) (by omega))
    have hsep : ∀ k, σ.2.2 i ≤ k → k < σ.2.2 i + 19 → ∀ q, aM s ≤ q → q < 4 → k < σ.2.2 q ∨ σ.2.2 q + 19 ≤ k := fun k k1 k2 q q1 q2 => by
      have := s_sep (h.sok (i := i) (by omega)) (h.sok q2) (fun e2 => by have := h.sinj (by omega) q2 e2; omega)
      omega
    obtain ⟨r1, r2, r3⟩ := h.sent e
    refine ⟨by rw [f2 _ (by omega) (by omega) (hsep _ (by omega) (by omega))]; exact r1, fun w w1 w2 => ?_, fun p p1 w w1 => ?_⟩
    · rw [f2 _ (by omega) (by omega) (hsep _ (by omega) (by omega)), f2 _ (by omega) (by omega) (hsep _ (by omega) (by omega))]; exact r2 w w1 w2
    · rw [f2 _ (by omega) (by omega) (hsep _ (by omega) (by omega)), f2 _ (by omega) (by omega) (hsep _ (by omega) (by omega))]; exact r3 p p1 w w1
  · rw [if_neg e]
    have hl : i - aM s < L.length := by omega
    have := hS _ hl
    rw [show aM s + (i - aM s) = i by omega] at this
    rw [List.getD_eq_getElem?_getD, List.getElem?_eq_getElem hl]
    exact this
theorem addWord_C {a n : Nat} {p1 p2 : Int32} {K : St → Prop} (hn : σ.1 a 0 = nI n) (h6 : n < 6) (hK : ∀ σ', σ'.2 = σ.2 → (∀ k z, σ'.1 k z = if k = a ∧ z = 0 then nI (n + 1) else if k = a + 1 ∧ z = n + 1 then p1 else if k = a + 2 ∧ z = n + 1 then p2 else σ.1 k z) → K σ') : P_X0_addWord a p1 p2 σ K := by
  unfold P_X0_addWord
  rw [hn, show (6 : Int32) = nI 6 from rfl, nI_leI (by omega) (by omega), nI_1]
  refine ⟨fun q => absurd q (by omega), fun _ s1 e1 => ?_⟩
  have h1 : s1.1 a 0 = nI (n + 1) := by rw [e1]; exact wI_self
  rw [h1]
  refine ⟨vp_in_nI (by omega) (by decide), fun s3 e3 => ?_⟩
  have h3 : s3.1 a 0 = nI (n + 1) := by rw [e3, wI_ne (by omega)]; exact h1
  rw [h3]
  refine ⟨vp_in_nI (by omega) (by decide), fun s5 e5 => ?_⟩
  rw [ix_nI (by omega)] at e3 e5
  refine hK s5 (by rw [e5, wI_2, e3, wI_2, e1, wI_2]) (fun k z => ?_)
  rw [e5, e3, e1]
  show (if k = a + 2 ∧ z = n + 1 then p2 else if k = a + 1 ∧ z = n + 1 then p1 else if k = a ∧ z = 0 then nI (n + 1) else σ.1 k z) = _
  by_cases q1 : k = a ∧ z = 0
  · rw [if_neg (by omega), if_neg (by omega), if_pos q1, if_pos q1]
  · rw [if_neg q1, if_neg q1]
    by_cases q2 : k = a + 1 ∧ z = n + 1
    · rw [if_neg (by omega), if_pos q2, if_pos q2]
    · rw [if_neg q2, if_neg q2]
theorem newS_RB {σ' : St} {a b : Nat} {τ : Nat → Nat} (h : RS σ' a (newS τ (b, 0))) : RB σ' a := ⟨h.1, h.2.2⟩
theorem RB_newS {σ' : St} {a b : Nat} {τ : Nat → Nat} (h : RB σ' a) : RS σ' a (newS τ (b, 0)) := ⟨h.1, fun w w1 w2 => by have : w ≤ 0 := w2; omega, h.2⟩
theorem c_read (h : RC σ s) (hw : wf s) (hK : ∀ σ', RC σ' (nx_read s) → frM σ σ' → K (an_read s) σ') : P_X7_read σ K := by
  unfold P_X7_read
  have hN := hw.1.1
  have hm := h.m4
  refine c_findFault h hw (fun σ1 e1 e2 => ?_)
  have h1 : RC σ1 s := RC_fr h ⟨fun k hk => ⟨e1 k hk.2, by rw [e2]⟩, by rw [e2]⟩
  have hfM : frM σ σ1 := fun k hk => ⟨e1 k (by omega), by rw [e2]⟩
  refine ⟨fun q => ?_, fun q => ?_⟩
  · have hR : fltR s = none := by
      cases hz : fltR s with
      | none => rfl
      | some p =>
        exfalso
        rw [an_fault, hz] at q
        have hp : p ≤ aN s := ff_le _ _ _ _ _ (Nat.zero_le _) hz
        have q2 : nI p = NONEV := q
        rw [T_eq, nI_toInt (by omega)] at q2
        have : NONEV.toInt = -1000004 := by decide
        omega
    refine countS_C hN h1.1.1 (fun i hi => ⟨by rw [h1.1.2 i hi]; exact (tx_eq hw hi).1, (tx_eq hw hi).2⟩) hR ?_
    have hlen : (SGL s).length ≤ 100 := by
      have := sg_cnt (N := aN s) (τ := tx s) _ 0 0 _ (by omega) hR
      unfold SGL
      rw [this]
      exact Nat.le_trans (List.length_filter_le _ _) (by rw [List.length_range]; omega)
    rw [h1.cnt, nI_add, show (4 : Int32) = nI 4 from rfl, nI_leI (by omega) (by omega)]
    unfold an_read nx_read at hK
    rw [if_pos hR] at hK
    refine ⟨fun q4 => ?_, fun q4 => ?_⟩
    · rw [if_pos q4, if_pos ⟨hR, q4⟩] at hK
      refine LpE_inv (fun s' => ∃ f i n row L, aN s < i + f ∧ i ≤ aN s ∧ 2 * n ≤ i ∧ n ≤ 6 ∧ ff (aN s) (tx s) f i n row = none ∧ SGL s = L ++ sg (aN s) (tx s) f i n ∧ frR σ1 s'.2 (aM s) ∧ s'.2.1 0 2 = nI (aM s + L.length) ∧ (∀ k, (hk : k < L.length) → RS s'.2 (σ1.2.2 (aM s + k)) (newS (tx s) L[k])) ∧ (aM s + L.length < 4 → RS s'.2 (σ1.2.2 (aM s + L.length)) (newS (tx s) (i - 2 * n, n))) ∧ (∀ j, aM s + L.length < j → j < 4 → RB s'.2 (σ1.2.2 j)) ∧ (s'.1 = nI i ∨ (s'.1 = nI (i + 1) ∧ i < aN s ∧ (65 ≤ tx s i ∧ tx s i ≤ 72) ∧ aM s + L.length < 4))) (fun s' => 200 - ix s'.1) ?_ _ ⟨aN s + 1, 0, 0, fun _ => 0, [], by omega, by omega, by omega, by omega, hR, rfl, ⟨rfl, fun _ _ _ _ => rfl, fun q hq => h1.root hq⟩, h1.cnt, fun k hk => absurd hk (Nat.not_lt_zero _), fun z => RB_newS (h1.blank (Nat.le_refl _) z), fun j hj hj4 => h1.blank (by simp at hj; omega) hj4, Or.inl rfl⟩
      intro s' c hI hc
      obtain ⟨x1, σ'⟩ := s'
      obtain ⟨f, i, n, row, L, hf, hi, hni, hn6, hff, hS, hfr, hcn, hRS, hRn, hRB, hx⟩ := hI
      dsimp only at hfr hcn hRS hRn hRB hx
      dsimp only
      unfold F_X7_read_36
      have hlo : ∀ k, k < 5 ∨ 81 ≤ k → ∀ q, aM s ≤ q → q < 4 → k < σ1.2.2 q ∨ σ1.2.2 q + 19 ≤ k := fun k hk q _ hq => by have := s_rng (h1.sok hq); omega
      have hlS : (SGL s).length = L.length + (sg (aN s) (tx s) f i n).length := by rw [hS, List.length_append]
      have hlen1 : σ'.1 1 1 = nI (aN s) := by rw [hfr.2.1 1 (by decide) (by decide) (hlo _ (by omega))]; exact h1.1.1
      have htx : ∀ j, j < aN s → σ'.1 2 j = nI (tx s j) := fun j hj => by
        rw [hfr.2.1 2 (by decide) (by decide) (hlo _ (by omega)), h1.1.2 j hj]; exact (tx_eq hw hj).1
      have hend : sg (aN s) (tx s) f i n = [] → i = aN s ∧ n = 0 := by
        intro hz
        by_cases z : i < aN s ∨ 0 < n
        · exact absurd hz (sg_ne f i n row hf hi hff z)
        · omega
      have hfin : sg (aN s) (tx s) f i n = [] → K (σ'.1 0 2) σ' := by
        intro hz
        rw [hz, List.append_nil] at hS
        obtain ⟨y1, y2⟩ := hend hz
        rw [hcn, ← hS]
        refine hK σ' ?_ (hfM.tr (fun k hk => ⟨hfr.2.1 k (by omega) (by omega) (hlo k (by omega)), by rw [hfr.1]⟩))
        refine RC_read h1 q4 hfr (by rw [hS]; exact hcn) (fun k hk => ?_) (fun j hj hj4 => ?_)
        · have hk' : k < L.length := by rw [← hS]; exact hk
          have := hRS k hk'
          simp only [hS]; exact this
        · rw [hS] at hj
          rcases Nat.lt_or_ge (aM s + L.length) j with z | z
          · exact hRB j z hj4
          · have hj2 : j = aM s + L.length := by omega
            have z2 := hRn (by omega)
            rw [y2] at z2
            rw [hj2]
            exact newS_RB z2
      rw [hlen1, hcn, show (4 : Int32) = nI 4 from rfl]
      obtain ⟨f, rfl⟩ : ∃ g, f = g + 1 := ⟨f - 1, by omega⟩
      rcases hx with rfl | ⟨rfl, hiN, htag, h4⟩
      · rw [nI_leI (by omega) (by omega), nI_leI (by omega) (by omega)]
        rw [hcn] at hfin
        refine ⟨fun z => hfin (by rw [sg, if_pos z]), fun z => ⟨fun z2 => hfin (List.eq_nil_of_length_eq_zero (by omega)), fun z2 => ⟨vp_in_nI (by omega) (by decide), fun v6 e6 => ?_⟩⟩⟩
        have h128 := (tx_eq hw (i := i) (by omega)).2
        rw [ix_nI (by omega), htx i (by omega)] at e6
        subst e6
        rw [ff, if_neg z] at hff
        rw [sg, if_neg z] at hS
        rw [show (59 : Int32) = nI 59 from rfl, nI_eq (by omega) (by omega)]
        refine ⟨fun z3 s16 e16 v17 e17 => ?_, fun z3 => ?_⟩
        · rw [if_pos z3] at hff hS
          by_cases q3 : n = 0 ∨ treeB n (cap n row) = false
          · rw [if_pos q3] at hff; cases hff
          rw [if_neg q3] at hff
          rw [nI_1] at e16 e17
          subst e17
          have hs16 : ∀ k, k ≠ 0 → s16.1 k = σ'.1 k := fun k hk => by rw [e16, wI_ne hk]
          have hRSf : ∀ a x, 5 ≤ a → RS σ' a x → RS s16 a x := fun a x ha r => by
            obtain ⟨r1, r2, r3⟩ := r
            refine ⟨by rw [hs16 _ (by omega)]; exact r1, fun w w1 w2 => ?_, fun p p1 w w1 => ?_⟩
            · rw [hs16 _ (by omega), hs16 _ (by omega)]; exact r2 w w1 w2
            · rw [hs16 _ (by omega), hs16 _ (by omega)]; exact r3 p p1 w w1
          have hRBf : ∀ a, 5 ≤ a → RB σ' a → RB s16 a := fun a ha r => by
            obtain ⟨r1, r3⟩ := r
            refine ⟨by rw [hs16 _ (by omega)]; exact r1, fun p p1 w w1 => ?_⟩
            rw [hs16 _ (by omega), hs16 _ (by omega)]; exact r3 p p1 w w1
          have hlen2 : (L ++ [(i - 2 * n, n)]).length = L.length + 1 := by rw [List.length_append]; rfl
          refine hc _ ⟨f, i + 1, 0, _, L ++ [(i - 2 * n, n)], by omega, by omega, by omega, by omega, hff, by rw [hS, List.append_assoc]; rfl, ⟨by show s16.2 = _; rw [e16, wI_2]; exact hfr.1, fun k k0 k1 k2 => by show s16.1 k = _; rw [hs16 k k0]; exact hfr.2.1 k k0 k1 k2, fun q hq => by show s16.1 _ 0 = 8; rw [hs16 _ (by omega)]; exact hfr.2.2 q hq⟩, ?_, fun k hk => ?_, fun hz => ?_, fun j hj hj4 => ?_, Or.inl rfl⟩ ?_
          · show s16.1 0 2 = _
            rw [e16, hlen2]; exact wI_self
          · rw [hlen2] at hk
            by_cases e : k = L.length
            · subst e
              rw [List.getElem_append_right (Nat.le_refl _)]
              simp only [Nat.sub_self, List.getElem_cons_zero]
              exact hRSf _ _ (s_rng (h1.sok (by omega))).1 (hRn (by omega))
            · rw [List.getElem_append_left (show k < L.length by omega)]
              exact hRSf _ _ (s_rng (h1.sok (by omega))).1 (hRS k (by omega))
          · rw [hlen2] at hz ⊢
            exact RB_newS (hRBf _ (s_rng (h1.sok (by omega))).1 (hRB _ (by omega) (by omega)))
          · rw [hlen2] at hj
            exact hRBf _ (s_rng (h1.sok (by omega))).1 (hRB _ (by omega) (by omega))
          · show 200 - ix (nI (i + 1)) < 200 - ix (nI i)
            rw [ix_nI (by omega), ix_nI (by omega)]; omega
        · have hff0 := hff
          rw [if_neg z3] at hff
          by_cases q3 : ¬ (65 ≤ tx s i ∧ tx s i ≤ 72) ∨ 6 ≤ n
          · rw [if_pos q3] at hff; cases hff
          have hgo : c (nI (i + 1), σ') := by
            refine hc _ ⟨f + 1, i, n, row, L, hf, hi, hni, hn6, by rw [ff, if_neg z]; exact hff0, by rw [sg, if_neg z]; exact hS, hfr, hcn, hRS, hRn, hRB, Or.inr ⟨rfl, by omega, by omega, by omega⟩⟩ ?_
            show 200 - ix (nI (i + 1)) < 200 - ix (nI i)
            rw [ix_nI (by omega), ix_nI (by omega)]; omega
          refine ⟨fun _ v7 e7 => by rw [nI_1] at e7; rw [e7]; exact hgo, fun _ => isDigit_C h128 (fun hd => by omega) (fun hd => ⟨fun _ v10 e10 => by rw [nI_1] at e10; rw [e10]; exact hgo, fun z => absurd rfl z⟩)⟩
      · rw [ff, if_neg (by omega), if_neg (by omega)] at hff
        rw [sg, if_neg (by omega), if_neg (by omega)] at hS
        by_cases q3 : ¬ (65 ≤ tx s i ∧ tx s i ≤ 72) ∨ 6 ≤ n
        · rw [if_pos q3] at hff; cases hff
        rw [if_neg q3] at hff
        by_cases p4 : aN s ≤ i + 1
        · rw [if_pos p4] at hff; cases hff
        rw [if_neg p4] at hff
        by_cases p5 : ¬ (48 ≤ tx s (i + 1) ∧ tx s (i + 1) ≤ 57) ∨ tx s (i + 1) = n + 49
        · rw [if_pos p5] at hff; cases hff
        rw [if_neg p5] at hff
        have hso := h1.sok (i := aM s + L.length) (by omega)
        have hrg := s_rng hso
        have hRn := hRn (by omega)
        rw [nI_leI (by omega) (by omega), nI_leI (by omega) (by omega)]
        refine ⟨fun z => by omega, fun z => ⟨fun z2 => by omega, fun z2 => ⟨vp_in_nI (by omega) (by decide), fun v6 e6 => ?_⟩⟩⟩
        have h128 := (tx_eq hw (i := i + 1) (by omega)).2
        rw [ix_nI (by omega), htx (i + 1) (by omega)] at e6
        subst e6
        rw [show (59 : Int32) = nI 59 from rfl, nI_eq (by omega) (by omega), show (0 : Int32) = nI 0 from rfl, nI_leI (by omega) (by omega)]
        refine ⟨fun z3 => by omega, fun _ => ⟨fun z4 => by omega, fun _ => isDigit_C h128 (fun hd => ⟨fun z => absurd z (by decide), fun _ => ?_⟩) (fun hd => by omega)⟩⟩
        rw [hcn, show nI (i + 1) - 1 = nI i from pk_sub (b := 1) (by omega), ix_nI (by omega), ix_nI (by omega), hfr.1, htx i hiN, show nI (tx s i) - 65 = nI (tx s i - 65) from pk_sub (b := 65) (by omega), show nI (tx s (i + 1)) - 48 = nI (tx s (i + 1) - 48) from pk_sub (b := 48) (by omega)]
        refine ⟨vp_in_nI (by omega) (by decide), hso, vp_in_nI (by omega) (by decide), addWord_C hRn.1 (by show n < 6; omega) (fun σ2 g1 g2 v15 e15 => ?_)⟩
        have g2 : ∀ k z, σ2.1 k z = if k = σ1.2.2 (aM s + L.length) ∧ z = 0 then nI (n + 1) else if k = σ1.2.2 (aM s + L.length) + 1 ∧ z = n + 1 then nI (tx s i - 65) else if k = σ1.2.2 (aM s + L.length) + 2 ∧ z = n + 1 then nI (tx s (i + 1) - 48) else σ'.1 k z := g2
        have hot : ∀ k, (k < σ1.2.2 (aM s + L.length) ∨ σ1.2.2 (aM s + L.length) + 3 ≤ k) → σ2.1 k = σ'.1 k := fun k hk => by
          funext z
          rw [g2, if_neg (by omega), if_neg (by omega), if_neg (by omega)]
        rw [nI_1] at e15
        subst e15
        have hsep : ∀ q, q < 4 → q ≠ aM s + L.length → ∀ k, σ1.2.2 q ≤ k → k < σ1.2.2 q + 19 → k < σ1.2.2 (aM s + L.length) ∨ σ1.2.2 (aM s + L.length) + 3 ≤ k := fun q hq hne k k1 k2 => by
          have := s_sep (h1.sok hq) hso (fun e => hne (h1.sinj hq (by omega) e))
          omega
        refine hc _ ⟨f, i + 2, n + 1, _, L, by omega, by omega, by omega, by omega, hff, hS, ⟨by show σ2.2 = _; rw [g1]; exact hfr.1, fun k k0 k1 k2 => ?_, fun q hq => ?_⟩, ?_, fun k hk => ?_, fun hz => ?_, fun j hj hj4 => ?_, Or.inl rfl⟩ ?_
        · show σ2.1 k = _
          have := k2 (aM s + L.length) (by omega) (by omega)
          rw [hot k (by omega)]; exact hfr.2.1 k k0 k1 k2
        · show σ2.1 (σ1.2.2 q + 1) 0 = 8
          rw [g2, if_neg (fun z => ?_), if_neg (by omega), if_neg (by omega)]
          · exact hfr.2.2 q hq
          · by_cases e : q = aM s + L.length
            · rw [e] at z; omega
            · have := hsep q hq e (σ1.2.2 q + 1) (by omega) (by omega); omega
        · show σ2.1 0 2 = _
          rw [hot 0 (by omega)]; exact hcn
        · obtain ⟨r1, r2, r3⟩ := hRS k hk
          have hs := hsep (aM s + k) (by omega) (by omega)
          refine ⟨by show σ2.1 _ 0 = _; rw [hot _ (hs _ (by omega) (by omega))]; exact r1, fun w w1 w2 => ?_, fun p p1 w w1 => ?_⟩
          · show σ2.1 _ w = _ ∧ σ2.1 _ w = _
            rw [hot _ (hs _ (by omega) (by omega)), hot _ (hs _ (by omega) (by omega))]; exact r2 w w1 w2
          · show σ2.1 _ w = _ ∧ σ2.1 _ w = _
            rw [hot _ (hs _ (by omega) (by omega)), hot _ (hs _ (by omega) (by omega))]; exact r3 p p1 w w1
        · obtain ⟨r1, r2, r3⟩ := hRn
          rw [show i + 2 - 2 * (n + 1) = i - 2 * n by omega]
          refine ⟨?_, fun w w1 w2 => ?_, fun p p1 w w1 => ?_⟩
          · show σ2.1 _ 0 = nI (n + 1)
            rw [g2, if_pos ⟨rfl, rfl⟩]
          · have w2 : w ≤ n + 1 := w2
            show σ2.1 _ w = nI (tx s (i - 2 * n + 2 * w - 2) - 65) ∧ σ2.1 _ w = nI (tx s (i - 2 * n + 2 * w - 1) - 48)
            by_cases e : w = n + 1
            · rw [g2, if_neg (by omega), if_pos ⟨rfl, e⟩, g2, if_neg (by omega), if_neg (by omega), if_pos ⟨rfl, e⟩, show i - 2 * n + 2 * w - 2 = i by omega, show i - 2 * n + 2 * w - 1 = i + 1 by omega]
              exact ⟨rfl, rfl⟩
            · rw [g2, if_neg (by omega), if_neg (by omega), if_neg (by omega), g2, if_neg (by omega), if_neg (by omega), if_neg (by omega)]
              exact r2 w w1 (by show w ≤ n; omega)
          · show σ2.1 _ w = _ ∧ σ2.1 _ w = _
            rw [hot _ (by omega), hot _ (by omega)]; exact r3 p p1 w w1
        · obtain ⟨r1, r3⟩ := hRB j hj hj4
          have hs := hsep j (by omega) (by omega)
          refine ⟨by show σ2.1 _ 0 = _; rw [hot _ (hs _ (by omega) (by omega))]; exact r1, fun p p1 w w1 => ?_⟩
          show σ2.1 _ w = _ ∧ σ2.1 _ w = _
          rw [hot _ (hs _ (by omega) (by omega)), hot _ (hs _ (by omega) (by omega))]; exact r3 p p1 w w1
        · show 200 - ix (nI (i + 1 + 1)) < 200 - ix (nI (i + 1))
          rw [ix_nI (by omega), ix_nI (by omega)]; omega
    · rw [if_neg q4, if_neg (fun z => q4 z.2)] at hK; exact hK σ1 h1 hfM
  · have hR : ¬ fltR s = none := fun z => q (by rw [an_fault, z])
    unfold an_read nx_read at hK
    rw [if_neg hR, if_neg (fun z => hR z.1)] at hK; exact hK σ1 h1 hfM
end RD2
