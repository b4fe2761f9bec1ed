/-! the fault of a text -/
def ff (N : Nat) (τ : Nat → Nat) : Nat → Nat → Nat → (Nat → Nat) → Option Nat
  | 0, _, _, _ => none
  | f + 1, i, n, row =>
    if N ≤ i then (if N = 0 ∨ 0 < n then some N else none)
    else if τ i = 59 then (if n = 0 ∨ treeB n (cap n row) = false then some i else ff N τ f (i + 1) 0 (fun _ => 0))
    else if ¬ (65 ≤ τ i ∧ τ i ≤ 72) ∨ 6 ≤ n then some i
    else if N ≤ i + 1 then some (i + 1)
    else if ¬ (48 ≤ τ (i + 1) ∧ τ (i + 1) ≤ 57) ∨ τ (i + 1) = n + 49 then some (i + 1)
    else ff N τ f (i + 2) (n + 1) (u1 row (n + 1) (τ (i + 1) - 48))
def sg (N : Nat) (τ : Nat → Nat) : Nat → Nat → Nat → List (Nat × Nat)
  | 0, _, _ => []
  | f + 1, i, n => if N ≤ i then [] else if τ i = 59 then (i - 2 * n, n) :: sg N τ f (i + 1) 0 else sg N τ f (i + 2) (n + 1)
def tx (s : AS) (i : Nat) : Nat := ix (aT s i)
def fltR (s : AS) : Option Nat := ff (aN s) (tx s) (aN s + 1) 0 0 (fun _ => 0)
def an_fault (s : AS) : Int32 := match fltR s with
  | none => NONEV
  | some p => nI p
theorem tx_eq {s : AS} (hw : wf s) {i : Nat} (hi : i < aN s) : aT s i = nI (tx s i) ∧ tx s i < 128 := by
  obtain ⟨c, hc, e⟩ := hw.1.2 i hi
  have : tx s i = c := by unfold tx; rw [e]; exact ix_nI (by omega)
  rw [this]; exact ⟨e, hc⟩
section FLT
variable {σ : St} {s : AS} {K : Int32 → St → Prop}
theorem isDigit_C {c : Nat} (hc : c < 128) (h1 : 48 ≤ c ∧ c ≤ 57 → K 1 σ) (h0 : ¬ (48 ≤ c ∧ c ≤ 57) → K 0 σ) : P_X2_isDigit (nI c) σ K := by
  unfold P_X2_isDigit
  rw [show (48 : Int32) = nI 48 from rfl, show (57 : Int32) = nI 57 from rfl, nI_ltI (by omega) (by omega), nI_ltI (by omega) (by omega)]
  exact ⟨fun q => h0 (by omega), fun q => ⟨fun q2 => h0 (by omega), fun q2 => h1 (by omega)⟩⟩
theorem isTag_C {c : Nat} (hc : c < 128) (h1 : 65 ≤ c ∧ c ≤ 72 → K 1 σ) (h0 : ¬ (65 ≤ c ∧ c ≤ 72) → K 0 σ) : P_X2_isTagLetter (nI c) σ K := by
  unfold P_X2_isTagLetter
  rw [show (65 : Int32) = nI 65 from rfl, show (73 : Int32) = nI 73 from rfl, nI_ltI (by omega) (by omega), nI_leI (by omega) (by omega)]
  exact ⟨fun q => h0 (by omega), fun q => ⟨fun q2 => h0 (by omega), fun q2 => h1 (by omega)⟩⟩
theorem isHead_C {c n : Nat} (hc : c < 128) (hn : n < 100) (h1 : 48 ≤ c ∧ c ≤ 57 → c ≠ n + 48 → K 1 σ) (h0 : ¬ (48 ≤ c ∧ c ≤ 57) ∨ c = n + 48 → K 0 σ) : P_X2_isHeadOf (nI c) (nI n) σ K := by
  unfold P_X2_isHeadOf
  refine isDigit_C hc (fun q => ⟨fun z => absurd z (by decide), fun _ => ?_⟩) (fun q => ⟨fun _ => h0 (Or.inl q), fun z => absurd rfl z⟩)
  rw [show nI c - 48 = nI (c - 48) from pk_sub (b := 48) (by omega), nI_eq (by omega) (by omega)]
  exact ⟨fun q2 => h0 (Or.inr (by omega)), fun q2 => h1 q (by omega)⟩
theorem c_findFault (h : RC σ s) (hw : wf s) (hK : ∀ σ', (∀ k, k ≠ 3 → σ'.1 k = σ.1 k) → σ'.2 = σ.2 → K (an_fault s) σ') : P_X2_findFault σ K := by
  unfold P_X2_findFault
  have hN := hw.1.1
  refine LpE_inv (fun s' => (∀ k, k ≠ 3 → s'.2.2.2.1 k = σ.1 k) ∧ s'.2.2.2.2 = σ.2 ∧ ∃ f i n row, aN s < i + f ∧ i ≤ aN s ∧ n ≤ 6 ∧ fltR s = ff (aN s) (tx s) f i n row ∧ (∀ v, 1 ≤ v → v ≤ n → s'.2.2.2.1 3 v = nI (row v) ∧ row v < 100) ∧ ((s'.1 = nI n ∧ s'.2.1 = 0 ∧ s'.2.2.1 = nI i) ∨ (s'.1 = nI (n + 1) ∧ s'.2.1 = 1 ∧ s'.2.2.1 = nI (i + 1) ∧ i < aN s ∧ tx s i ≠ 59 ∧ (65 ≤ tx s i ∧ tx s i ≤ 72) ∧ n < 6))) (fun s' => 200 - ix s'.2.2.1) ?_ _ ⟨fun _ _ => rfl, rfl, aN s + 1, 0, 0, fun _ => 0, by omega, by omega, by omega, rfl, fun v v1 v2 => by omega, Or.inl ⟨rfl, rfl, rfl⟩⟩
  intro s' c hI hc
  obtain ⟨x1, x2, x3, σ'⟩ := s'
  obtain ⟨e1, e2, f, i, n, row, hf, hi, hn, hR, hr, hx⟩ := hI
  dsimp only at e1 e2 hr hx
  dsimp only
  unfold F_X2_findFault_6
  rw [show σ'.1 1 1 = nI (aN s) by rw [e1 1 (by decide)]; exact h.1.1]
  rcases hx with ⟨rfl, rfl, rfl⟩ | ⟨rfl, rfl, rfl, hiN, ht1, ht2, hn6⟩
  · obtain ⟨f, rfl⟩ : ∃ g, f = g + 1 := ⟨f - 1, by omega⟩
    rw [ff] at hR
    rw [nI_leI (by omega) (by omega)]
    refine ⟨fun q => ?_, fun q => ⟨vp_in_nI (by omega) (by decide), fun v2 ev2 => ⟨fun _ => ?_, fun z => absurd rfl z⟩⟩⟩
    · rw [if_pos q] at hR
      rw [show (0 : Int32) = nI 0 from rfl, nI_eq (by omega) (by omega), nI_leI (by omega) (by omega)]
      refine ⟨fun q2 => ?_, fun q2 => ⟨fun q3 => ?_, fun q3 => ?_⟩⟩
      · rw [if_pos (Or.inl q2)] at hR
        have := hK σ' e1 e2
        rw [an_fault, hR] at this; exact this
      · rw [if_neg (by omega)] at hR
        have := hK σ' e1 e2
        rw [an_fault, hR] at this; exact this
      · rw [if_pos (by omega)] at hR
        have := hK σ' e1 e2
        rw [an_fault, hR] at this; exact this
    · rw [if_neg q] at hR
      rw [ix_nI (by omega), e1 2 (by decide), h.1.2 i (by omega), (tx_eq hw (by omega)).1] at ev2
      have hc128 := (tx_eq hw (i := i) (by omega)).2
      subst ev2
      rw [show (59 : Int32) = nI 59 from rfl, nI_eq (by omega) (by omega)]
      refine ⟨fun q2 => ?_, fun q2 => ?_⟩
      · rw [if_pos q2] at hR
        rw [show (0 : Int32) = nI 0 from rfl, nI_eq (by omega) (by omega)]
        refine ⟨fun q3 => ?_, fun q3 => ?_⟩
        · rw [if_pos (Or.inl q3)] at hR
          have := hK σ' e1 e2
          rw [an_fault, hR] at this; exact this
        · refine formTree_C (t := row) (by omega) (show n < 7 by omega) hr (by decide) (fun ht => ⟨fun z => absurd z (by decide), fun _ v9 ev9 => ?_⟩) (fun ht => ⟨fun _ => ?_, fun z => absurd rfl z⟩)
          · rw [if_neg (fun z => z.elim q3 (fun z => by rw [ht] at z; cases z))] at hR
            rw [nI_1] at ev9
            subst ev9
            refine hc _ ⟨e1, e2, f, i + 1, 0, fun _ => 0, by omega, by omega, by omega, hR, fun v v1 v2 => by omega, Or.inl ⟨rfl, rfl, rfl⟩⟩ ?_
            show 200 - ix (nI (i + 1)) < 200 - ix (nI i)
            rw [ix_nI (by omega), ix_nI (by omega)]; omega
          · rw [if_pos (Or.inr ht)] at hR
            have := hK σ' e1 e2
            rw [an_fault, hR] at this; exact this
      · rw [if_neg q2] at hR
        refine isTag_C hc128 (fun ht => ⟨fun z => absurd z (by decide), fun _ => ?_⟩) (fun ht => ⟨fun _ => ?_, fun z => absurd rfl z⟩)
        · rw [show (6 : Int32) = nI 6 from rfl, nI_ltI (by omega) (by omega)]
          refine ⟨fun q3 v5 ev5 v6 ev6 => ?_, fun q3 => ?_⟩
          · rw [nI_1] at ev5 ev6
            subst ev5 ev6
            refine hc _ ⟨e1, e2, f + 1, i, n, row, by omega, by omega, by omega, by rw [ff, if_neg q, if_neg q2]; exact hR, hr, Or.inr ⟨rfl, rfl, rfl, by omega, q2, ht, q3⟩⟩ ?_
            show 200 - ix (nI (i + 1)) < 200 - ix (nI i)
            rw [ix_nI (by omega), ix_nI (by omega)]; omega
          · rw [if_pos (Or.inr (by omega))] at hR
            have := hK σ' e1 e2
            rw [an_fault, hR] at this; exact this
        · rw [if_pos (Or.inl ht)] at hR
          have := hK σ' e1 e2
          rw [an_fault, hR] at this; exact this
  · obtain ⟨f, rfl⟩ : ∃ g, f = g + 1 := ⟨f - 1, by omega⟩
    rw [ff, if_neg (by omega), if_neg ht1, if_neg (fun z => z.elim (fun z => z ht2) (by omega))] at hR
    rw [nI_leI (by omega) (by omega)]
    refine ⟨fun q => ?_, fun q => ⟨vp_in_nI (by omega) (by decide), fun v2 ev2 => ⟨fun z => absurd z (by decide), fun _ => ?_⟩⟩⟩
    · rw [if_pos q] at hR
      have hiN2 : aN s = i + 1 := by omega
      rw [show (0 : Int32) = nI 0 from rfl, nI_eq (by omega) (by omega), nI_leI (by omega) (by omega)]
      have := hK σ' e1 e2
      rw [an_fault, hR, ← hiN2] at this
      exact ⟨fun _ => this, fun _ => ⟨fun q2 => absurd q2 (by omega), fun _ => this⟩⟩
    · rw [if_neg q] at hR
      rw [ix_nI (by omega), e1 2 (by decide), h.1.2 (i + 1) (by omega), (tx_eq hw (by omega)).1] at ev2
      have hc128 := (tx_eq hw (i := i + 1) (by omega)).2
      subst ev2
      refine isHead_C hc128 (by omega) (fun q2 q3 => ⟨fun z => absurd z (by decide), fun _ => ⟨vp_in_nI (by omega) (by decide), fun s13 es v14 ev14 => ?_⟩⟩) (fun q2 => ⟨fun _ => ?_, fun z => absurd rfl z⟩)
      · rw [if_neg (fun z => z.elim (fun z => z q2) (fun z => q3 (by omega)))] at hR
        rw [ix_nI (by omega), show nI (tx s (i + 1)) - 48 = nI (tx s (i + 1) - 48) from pk_sub (b := 48) (by omega)] at es
        rw [nI_1] at ev14
        subst es ev14
        refine hc _ ⟨fun k hk => ?_, e2, f, i + 2, n + 1, _, by omega, by omega, by omega, hR, fun v v1 v2 => ?_, Or.inl ⟨rfl, rfl, rfl⟩⟩ ?_
        · show (wI σ' 3 (n + 1) _).1 k = _
          rw [wI_ne hk]; exact e1 k hk
        · show (if 3 = 3 ∧ v = n + 1 then nI (tx s (i + 1) - 48) else σ'.1 3 v) = _ ∧ _
          unfold u1
          by_cases e : v = n + 1
          · rw [if_pos ⟨rfl, e⟩, if_pos e]; exact ⟨rfl, by omega⟩
          · rw [if_neg (fun z => e z.2), if_neg e]; exact hr v v1 (by omega)
        · show 200 - ix (nI (i + 1 + 1)) < 200 - ix (nI (i + 1))
          rw [ix_nI (by omega), ix_nI (by omega)]; omega
      · rw [if_pos (q2.elim Or.inl (fun z => Or.inr (by omega)))] at hR
        have := hK σ' e1 e2
        rw [an_fault, hR] at this; exact this
theorem c_faultPosition (h : RC σ s) (hw : wf s) (hK : ∀ σ', RC σ' s → frM σ σ' → K (an_fault s) σ') : P_X7_faultPosition σ K := by
  unfold P_X7_faultPosition
  refine c_findFault h hw (fun σ' e1 e2 => hK σ' (RC_fr h ⟨fun k hk => ⟨e1 k hk.2, by rw [e2]⟩, by rw [e2]⟩) (fun k hk => ⟨e1 k (by omega), by rw [e2]⟩))
end FLT
