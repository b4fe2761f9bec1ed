/-! heads that come to the root: countStepsToRoot, formTree of the class; isTree of the reference -/
theorem itN_succ (t : Nat → Nat) : ∀ (k w : Nat), itN t (k + 1) w = t (itN t k w)
  | 0, _ => rfl
  | k + 1, w => itN_succ t k (t w)
theorem itN_add (t : Nat → Nat) : ∀ (j k w : Nat), itN t (j + k) w = itN t j (itN t k w)
  | 0, k, w => by rw [Nat.zero_add]; rfl
  | j + 1, k, w => by rw [show j + 1 + k = (j + k) + 1 by omega, itN_succ, itN_add t j k w, itN_succ]
/-- a head above n leads nowhere -/
def cap (n : Nat) (t : Nat → Nat) (w : Nat) : Nat := if w = 0 then 0 else if t w ≤ n then t w else w
theorem cap_in {n : Nat} {t : Nat → Nat} {v : Nat} (h0 : v ≠ 0) (h : t v ≤ n) : cap n t v = t v := by unfold cap; rw [if_neg h0, if_pos h]
theorem cap_out {n : Nat} {t : Nat → Nat} {v : Nat} (h0 : v ≠ 0) (h : ¬ t v ≤ n) : cap n t v = v := by unfold cap; rw [if_neg h0, if_neg h]
theorem cap_0 {n : Nat} {t : Nat → Nat} : cap n t 0 = 0 := rfl
theorem itN_cap0 {n : Nat} {t : Nat → Nat} : ∀ k, itN (cap n t) k 0 = 0
  | 0 => rfl
  | k + 1 => by rw [itN_succ, itN_cap0 k]; rfl
theorem itN_cap_le {n : Nat} {t : Nat → Nat} {w : Nat} (hw : w ≤ n) : ∀ k, itN (cap n t) k w ≤ n
  | 0 => hw
  | k + 1 => by
    rw [itN_succ]
    have := itN_cap_le (t := t) hw k
    unfold cap
    split
    · omega
    · split
      · assumption
      · exact this
theorem itN_cap_stay {n : Nat} {t : Nat → Nat} {w k j : Nat} (h : itN (cap n t) k w = 0) (hj : k ≤ j) : itN (cap n t) j w = 0 := by
  rw [show j = (j - k) + k by omega, itN_add, h]
  exact itN_cap0 _
theorem itN_cap_stuck {n : Nat} {t : Nat → Nat} {w k : Nat} (h0 : itN (cap n t) k w ≠ 0) (h : n < t (itN (cap n t) k w)) (j : Nat) : itN (cap n t) j w ≠ 0 := by
  have hfix : ∀ i, itN (cap n t) (i + k) w = itN (cap n t) k w := by
    intro i
    induction i with
    | zero => rw [Nat.zero_add]
    | succ i ih =>
      rw [show i + 1 + k = (i + k) + 1 by omega, itN_succ, ih, cap_out h0 (by omega)]
  by_cases hj : k ≤ j
  · rw [show j = (j - k) + k by omega, hfix]; exact h0
  · exact fun q => h0 (itN_cap_stay q (by omega))
def treeB (n : Nat) (t : Nat → Nat) : Bool := (List.range n).all fun w => itN t n (w + 1) == 0
theorem treeB_iff {n : Nat} {t : Nat → Nat} : treeB n t = true ↔ isT n t := by
  unfold treeB isT
  rw [List.all_eq_true]
  constructor
  · intro h w h1 h2
    have := h (w - 1) (List.mem_range.mpr (by omega))
    rw [show w - 1 + 1 = w by omega] at this
    exact eq_of_beq this
  · intro h w hw
    have := List.mem_range.mp hw
    exact beq_iff_eq.mpr (h (w + 1) (by omega) (by omega))
theorem itN_congr {n : Nat} {f g : Nat → Nat} (h : ∀ v, v ≤ n → f v = g v ∧ f v ≤ n) : ∀ (k v : Nat), v ≤ n → itN f k v = itN g k v
  | 0, _, _ => rfl
  | k + 1, v, hv => by
    show itN f k (f v) = itN g k (g v)
    rw [itN_congr h k (f v) (h v hv).2, (h v hv).1]
theorem isT_congr {n : Nat} {f g : Nat → Nat} (h : ∀ v, v ≤ n → f v = g v ∧ f v ≤ n) : isT n f ↔ isT n g := by
  unfold isT
  constructor
  · intro q w h1 h2; rw [← itN_congr h n w h2]; exact q w h1 h2
  · intro q w h1 h2; rw [itN_congr h n w h2]; exact q w h1 h2
section TR
variable {σ : St} {K : Int32 → St → Prop} {a n : Nat} {t : Nat → Nat}
/-- the steps to the root, if one comes there -/
theorem steps_C {w : Nat} (hn : n < 100) (hl : n < ln a) (hw : w ≤ n) (ha : ∀ v, 1 ≤ v → v ≤ n → σ.1 a v = nI (t v) ∧ t v < 100) (h0 : ∀ k, k ≤ n → itN (cap n t) k w = 0 → (∀ j, j < k → itN (cap n t) j w ≠ 0) → K (nI k) σ) (h1 : (∀ j, j ≤ n → itN (cap n t) j w ≠ 0) → K NONEV σ) (hln : ln a < 2 ^ 31) : P_X7_countStepsToRoot a (nI n) (nI w) σ K := by
  unfold P_X7_countStepsToRoot
  refine LpE_inv (fun s => s.2.2 = σ ∧ ∃ k m, k ≤ n + 1 ∧ s.2.1 = nI k ∧ s.1 = nI m ∧ m < 100 ∧ (∀ j, j < k → itN (cap n t) j w ≠ 0) ∧ ((m ≤ n ∧ m = itN (cap n t) k w) ∨ (n < m ∧ ∀ j, itN (cap n t) j w ≠ 0))) (fun s => n + 2 - ix s.2.1) ?_ _ ⟨rfl, 0, w, by omega, rfl, rfl, by omega, fun j hj => absurd hj (Nat.not_lt_zero _), Or.inl ⟨hw, rfl⟩⟩
  intro s c hI hc
  obtain ⟨u3, u4, σ'⟩ := s
  obtain ⟨e1, k, m, hk, e2, e3, hm, hj, hor⟩ := hI
  dsimp only at e1 e2 e3
  subst e1 e2 e3
  dsimp only
  unfold F_X7_countStepsToRoot_5
  refine ⟨fun q => ?_, fun q => ⟨fun z => ?_, fun z => ⟨fun z2 => absurd z2 (nI_pos (by omega)), fun _ => ⟨fun z3 => ?_, fun z3 => ?_⟩⟩⟩⟩
  · have hkn : k = n + 1 := by
      rcases Nat.lt_or_ge n k with q2 | q2
      · omega
      · exact absurd q (nI_nlt q2 (by omega))
    exact h1 (fun j hj' => hj j (by omega))
  · have hm0 : m = 0 := nI_inj (a := m) (b := 0) (by omega) (by omega) z
    have hkn : k ≤ n := Nat.not_lt.mp (fun h => q (nI_lt h (by omega)))
    rcases hor with ⟨o1, o2⟩ | ⟨o1, o2⟩
    · exact h0 k hkn (by rw [← o2, hm0]) hj
    · omega
  · have hmn : m ≤ n := (nI_leI (by omega) (by omega)).mp z3
    have hm1 : 1 ≤ m := by
      rcases Nat.eq_zero_or_pos m with h | h
      · subst h; exact absurd rfl z
      · exact h
    have hkn : k ≤ n := Nat.not_lt.mp (fun h => q (nI_lt h (by omega)))
    refine ⟨vp_in_nI (by omega) hln, fun v2 e2 v3 e3 => ?_⟩
    rw [ix_nI (by omega), (ha m hm1 hmn).1] at e2
    rw [nI_1] at e3
    subst e2 e3
    have ht := (ha m hm1 hmn).2
    rcases hor with ⟨o1, o2⟩ | ⟨o1, o2⟩
    · refine hc _ ⟨rfl, k + 1, t m, by omega, rfl, rfl, ht, fun j hj' => ?_, ?_⟩ ?_
      · rcases Nat.lt_or_ge j k with h | h
        · exact hj j h
        · rw [show j = k by omega, ← o2]; omega
      · by_cases hc2 : t m ≤ n
        · refine Or.inl ⟨hc2, ?_⟩
          rw [itN_succ, ← o2, cap_in (by omega) hc2]
        · refine Or.inr ⟨by omega, fun j => itN_cap_stuck (k := k) (by rw [← o2]; omega) (by rw [← o2]; omega) j⟩
      · show n + 2 - ix (nI (k + 1)) < n + 2 - ix (nI k)
        rw [ix_nI (by omega), ix_nI (by omega)]; omega
    · omega
  · have hmn : ¬ m ≤ n := fun h => z3 (nI_le h (by omega))
    rcases hor with ⟨o1, o2⟩ | ⟨o1, o2⟩
    · omega
    · exact h1 (fun j _ => o2 j)
theorem formTree_C (hn : n < 100) (hl : n < ln a) (ha : ∀ v, 1 ≤ v → v ≤ n → σ.1 a v = nI (t v) ∧ t v < 100) (hln : ln a < 2 ^ 31) (h1 : treeB n (cap n t) = true → K 1 σ) (h0 : treeB n (cap n t) = false → K 0 σ) : P_X7_formTree a (nI n) σ K := by
  unfold P_X7_formTree
  refine LpE_inv (fun s => s.2 = σ ∧ ∃ w, 1 ≤ w ∧ w ≤ n + 1 ∧ s.1 = nI w ∧ ∀ v, 1 ≤ v → v < w → itN (cap n t) n v = 0) (fun s => n + 2 - ix s.1) ?_ _ ⟨rfl, 1, by omega, by omega, rfl, fun v h1 h2 => by omega⟩
  intro s c hI hc
  obtain ⟨u2, σ'⟩ := s
  obtain ⟨e1, w, w1, w2, e2, hv⟩ := hI
  dsimp only at e1 e2
  subst e1 e2
  dsimp only
  unfold F_X7_formTree_2
  refine ⟨fun q => ?_, fun q => ?_⟩
  · have hwn : w = n + 1 := by
      rcases Nat.lt_or_ge n w with q2 | q2
      · omega
      · exact absurd q (nI_nlt q2 (by omega))
    exact h1 (treeB_iff.mpr (fun v a1 a2 => hv v a1 (by omega)))
  · have hwn : w ≤ n := Nat.not_lt.mp (fun h => q (nI_lt h (by omega)))
    refine steps_C hn hl hwn ha (fun k k1 k2 k3 => ⟨fun z => ?_, fun z => ?_⟩) (fun hno => ⟨fun z => ?_, fun z => absurd rfl z⟩) hln
    · exfalso
      have := congrArg Int32.toInt z
      rw [nI_toInt (by omega), show (-1000004 : Int32).toInt = -1000004 from rfl] at this
      omega
    · intro v3 e3
      rw [nI_1] at e3
      subst e3
      refine hc _ ⟨rfl, w + 1, by omega, by omega, rfl, fun v a1 a2 => ?_⟩ ?_
      · rcases Nat.lt_or_ge v w with h | h
        · exact hv v a1 h
        · rw [show v = w by omega]; exact itN_cap_stay k2 k1
      · show n + 2 - ix (nI (w + 1)) < n + 2 - ix (nI w)
        rw [ix_nI (by omega), ix_nI (by omega)]; omega
    · refine h0 ?_
      cases hb : treeB n (cap n t) with
      | false => rfl
      | true => exact absurd (treeB_iff.mp hb w w1 hwn) (hno n (Nat.le_refl _))
theorem isTree_M {f : Nat} (hn : n < 100) (hf : f < 1000) (hl : f + n < ln a) (hln : ln a < 2 ^ 31) (ha : ∀ v, 1 ≤ v → v ≤ n → σ.1 a (f + v) = nI (t v) ∧ t v < 100) (h1 : treeB n (cap n t) = true → K 1 σ) (h0 : treeB n (cap n t) = false → K 0 σ) : P_X8_isTree a (nI f) (nI n) σ K := by
  unfold P_X8_isTree
  refine LpE_inv (fun s => s.2.2 = σ ∧ ∃ w, 1 ≤ w ∧ w ≤ n + 1 ∧ s.2.1 = nI w ∧ ((s.1 = 1 ∧ ∀ v, 1 ≤ v → v < w → itN (cap n t) n v = 0) ∨ (s.1 = 0 ∧ ∃ v, 1 ≤ v ∧ v < w ∧ itN (cap n t) n v ≠ 0))) (fun s => n + 2 - ix s.2.1) ?_ _ ⟨rfl, 1, by omega, by omega, rfl, Or.inl ⟨rfl, fun v h1 h2 => by omega⟩⟩
  intro s c hI hc
  obtain ⟨u3, u4, σ'⟩ := s
  obtain ⟨e1, w, w1, w2, e2, hor⟩ := hI
  dsimp only at e1 e2 hor
  subst e1 e2
  dsimp only
  unfold F_X8_isTree_5
  refine ⟨fun q => ?_, fun q => ?_⟩
  · have hwn : w = n + 1 := by
      rcases Nat.lt_or_ge n w with q2 | q2
      · omega
      · exact absurd q (nI_nlt q2 (by omega))
    rcases hor with ⟨o1, o2⟩ | ⟨o1, v, v1, v2, v3⟩
    · subst o1; exact ⟨isB1, h1 (treeB_iff.mpr (fun v a1 a2 => o2 v a1 (by omega)))⟩
    · subst o1
      refine ⟨isB0, h0 ?_⟩
      cases hb : treeB n (cap n t) with
      | false => rfl
      | true => exact absurd (treeB_iff.mp hb v v1 (by omega)) v3
  · have hwn : w ≤ n := Nat.not_lt.mp (fun h => q (nI_lt h (by omega)))
    have key : ∀ m, (m = itN (cap n t) n w) → J_X8_isTree_58 K c a (nI f) (nI n) u3 (nI w) (nI m) σ' := by
      intro m hm
      have hmn : m ≤ n := by rw [hm]; exact itN_cap_le hwn n
      unfold J_X8_isTree_58
      have hdec : n + 2 - ix (nI (w + 1)) < n + 2 - ix (nI w) := by rw [ix_nI (by omega), ix_nI (by omega)]; omega
      refine ⟨fun z v1 e1 => ?_, fun z => ⟨fun z2 v3 e3 => ?_, fun z2 v2 e2 => ?_⟩⟩
      · rw [nI_1] at e1; subst e1
        rcases hor with ⟨o1, o2⟩ | ⟨o1, v, v1, v2, v3⟩
        · rw [o1] at z; exact absurd z (by decide)
        · exact hc _ ⟨rfl, w + 1, by omega, by omega, rfl, Or.inr ⟨rfl, v, v1, by omega, v3⟩⟩ hdec
      · rw [nI_1] at e3; subst e3
        have hm0 : m = 0 := nI_inj (a := m) (b := 0) (by omega) (by omega) z2
        rcases hor with ⟨o1, o2⟩ | ⟨o1, o2⟩
        · refine hc _ ⟨rfl, w + 1, by omega, by omega, rfl, Or.inl ⟨rfl, fun v a1 a2 => ?_⟩⟩ hdec
          rcases Nat.lt_or_ge v w with h | h
          · exact o2 v a1 h
          · rw [show v = w by omega, ← hm, hm0]
        · exact absurd o1 z
      · rw [nI_1] at e2; subst e2
        refine hc _ ⟨rfl, w + 1, by omega, by omega, rfl, Or.inr ⟨rfl, w, w1, by omega, ?_⟩⟩ hdec
        rw [← hm]
        exact fun h => z2 (by rw [h]; rfl)
    refine LpE_inv (fun s => s.2.2 = σ' ∧ ∃ k, k ≤ n ∧ s.2.1 = nI k ∧ s.1 = nI (itN (cap n t) k w)) (fun s => n + 2 - ix s.2.1) ?_ _ ⟨rfl, 0, by omega, rfl, rfl⟩
    intro s2 c2 hI2 hc2
    obtain ⟨u5, u6, σ2⟩ := s2
    obtain ⟨e1, k, hk, e2, e3⟩ := hI2
    dsimp only at e1 e2 e3
    subst e1 e2 e3
    dsimp only
    unfold F_X8_isTree_18
    have hle := itN_cap_le (t := t) hwn k
    refine ⟨fun z => ?_, fun z => ⟨fun z2 => ?_, fun z2 => ?_⟩⟩
    · have : k = n := by have := (nI_leI (a := n) (b := k) (by omega) (by omega)).mp z; omega
      subst this
      exact key _ rfl
    · have h00 : itN (cap n t) k w = 0 := by
        rcases Nat.eq_zero_or_pos (itN (cap n t) k w) with h | h
        · exact h
        · exact absurd z2 (nI_nle h (by omega))
      rw [h00]
      exact key 0 (itN_cap_stay h00 (by omega)).symm
    · have hkn : k < n := Nat.not_le.mp (fun h => z (nI_le h (by omega)))
      have hp : 1 ≤ itN (cap n t) k w := by
        rcases Nat.eq_zero_or_pos (itN (cap n t) k w) with h | h
        · rw [h] at z2; exact absurd (by decide) z2
        · exact h
      have hdec : n + 2 - ix (nI (k + 1)) < n + 2 - ix (nI k) := by rw [ix_nI (by omega), ix_nI (by omega)]; omega
      obtain ⟨r1, r2⟩ := ha _ hp hle
      rw [nI_add]
      have hin : vp_in (nI (f + itN (cap n t) k w)) (ln a) := vp_in_nI (by omega) hln
      refine ⟨hin, fun z3 => ⟨hin, fun v6 e6 v7 e7 => ?_⟩, fun z3 v8 e8 => ?_⟩
      · rw [ix_nI (by omega), r1] at e6 z3
        rw [nI_1] at e7
        subst e6 e7
        have hcap : t (itN (cap n t) k w) ≤ n := (nI_leI (by omega) (by omega)).mp z3
        refine hc2 _ ⟨rfl, k + 1, by omega, rfl, ?_⟩ hdec
        show nI _ = nI _
        rw [itN_succ, cap_in (Nat.ne_of_gt hp) hcap]
      · rw [ix_nI (by omega), r1] at z3
        rw [nI_1] at e8
        subst e8
        have hcap : ¬ t (itN (cap n t) k w) ≤ n := fun h => z3 (nI_le h (by omega))
        refine hc2 _ ⟨rfl, k + 1, by omega, rfl, ?_⟩ hdec
        show nI _ = nI _
        rw [itN_succ, cap_out (Nat.ne_of_gt hp) hcap]
end TR
