/-! the transitions: a machine -/
abbrev TQ : Type := Nat × (Nat → Nat) × Nat × (Nat → Nat) × Nat
abbrev qh (q : TQ) : Nat := q.1
abbrev qs (q : TQ) : Nat → Nat := q.2.1
abbrev qb (q : TQ) : Nat := q.2.2.1
abbrev qf (q : TQ) : Nat → Nat := q.2.2.2.1
abbrev qm (q : TQ) : Nat := q.2.2.2.2
def compB (n : Nat) (t : Nat → Nat) (m v : Nat) : Bool := (List.range n).all fun w => !(decide (t (w + 1) = v)) || m.testBit (w + 1)
def nextQ (n : Nat) (t pl : Nat → Nat) (q : TQ) : Nat :=
  if 2 ≤ qh q then
    if qs q (qh q - 2) ≠ 0 ∧ t (qs q (qh q - 2)) = qs q (qh q - 1) ∧ compB n t (qm q) (qs q (qh q - 2)) = true then 1
    else if t (qs q (qh q - 1)) = qs q (qh q - 2) ∧ compB n t (qm q) (qs q (qh q - 1)) = true then 2
    else if qs q (qh q - 2) ≠ 0 ∧ qs q (qh q - 2) < qs q (qh q - 1) ∧ pl (qs q (qh q - 1)) < pl (qs q (qh q - 2)) then 3
    else if 0 < qb q then 0 else 4
  else if 0 < qb q then 0 else 4
def stepQ (q : TQ) (k : Nat) : TQ :=
  if k = 0 then (qh q + 1, u1 (qs q) (qh q) (qf q (qb q - 1)), qb q - 1, qf q, qm q)
  else if k = 2 then (qh q - 1, qs q, qb q, qf q, qm q ||| 2 ^ qs q (qh q - 1))
  else if k = 1 then (qh q - 1, u1 (qs q) (qh q - 2) (qs q (qh q - 1)), qb q, qf q, qm q ||| 2 ^ qs q (qh q - 2))
  else (qh q - 1, u1 (qs q) (qh q - 2) (qs q (qh q - 1)), qb q + 1, u1 (qf q) (qb q) (qs q (qh q - 2)), qm q)
def runQ (n : Nat) (t pl : Nat → Nat) : Nat → TQ → List Nat
  | 0, _ => []
  | f + 1, q => if nextQ n t pl q = 4 then [] else nextQ n t pl q :: runQ n t pl f (stepQ q (nextQ n t pl q))
def begQ (n : Nat) : TQ := (1, fun _ => 0, n, fun k => n - k, 0)
def okQ (n : Nat) (q : TQ) : Prop := (n ≤ 6) ∧ (1 ≤ qh q) ∧ (qh q + qb q ≤ n + 1) ∧ (qs q 0 = 0) ∧ (∀ k, 1 ≤ k → k < qh q → 1 ≤ qs q k ∧ qs q k ≤ n) ∧ (∀ k, k < qb q → 1 ≤ qf q k ∧ qf q k ≤ n) ∧ (qm q < 128)
theorem okQ.n6 {n : Nat} {q : TQ} (h : okQ n q) : n ≤ 6 := h.1
theorem okQ.h1 {n : Nat} {q : TQ} (h : okQ n q) : 1 ≤ qh q := h.2.1
theorem okQ.hb {n : Nat} {q : TQ} (h : okQ n q) : qh q + qb q ≤ n + 1 := h.2.2.1
theorem okQ.s0 {n : Nat} {q : TQ} (h : okQ n q) : qs q 0 = 0 := h.2.2.2.1
theorem okQ.s1 {n : Nat} {q : TQ} (h : okQ n q) : ∀ k, 1 ≤ k → k < qh q → 1 ≤ qs q k ∧ qs q k ≤ n := h.2.2.2.2.1
theorem okQ.b1 {n : Nat} {q : TQ} (h : okQ n q) : ∀ k, k < qb q → 1 ≤ qf q k ∧ qf q k ≤ n := h.2.2.2.2.2.1
theorem okQ.m1 {n : Nat} {q : TQ} (h : okQ n q) : qm q < 128 := h.2.2.2.2.2.2
theorem okQ.sle {n : Nat} {q : TQ} (h : okQ n q) {k : Nat} (hk : k < qh q) : qs q k ≤ n := by
  rcases Nat.eq_zero_or_pos k with z | z
  · rw [z, h.s0]; omega
  · exact (h.s1 k z hk).2
theorem nextQ_cases (n : Nat) (t pl : Nat → Nat) (q : TQ) : (nextQ n t pl q = 0 ∧ 0 < qb q) ∨ (nextQ n t pl q = 4 ∧ qb q = 0) ∨ (2 ≤ qh q ∧ ((nextQ n t pl q = 1 ∧ qs q (qh q - 2) ≠ 0) ∨ nextQ n t pl q = 2 ∨ (nextQ n t pl q = 3 ∧ qs q (qh q - 2) ≠ 0 ∧ pl (qs q (qh q - 1)) < pl (qs q (qh q - 2))))) := by
  unfold nextQ
  split
  · split
    · rename_i h1 h2; exact Or.inr (Or.inr ⟨h1, Or.inl ⟨rfl, h2.1⟩⟩)
    · split
      · rename_i h1 _ _; exact Or.inr (Or.inr ⟨h1, Or.inr (Or.inl rfl)⟩)
      · split
        · rename_i h1 _ _ h2; exact Or.inr (Or.inr ⟨h1, Or.inr (Or.inr ⟨rfl, h2.1, h2.2.2⟩)⟩)
        · split
          · rename_i h; exact Or.inl ⟨rfl, h⟩
          · rename_i h; exact Or.inr (Or.inl ⟨rfl, by omega⟩)
  · split
    · rename_i h; exact Or.inl ⟨rfl, h⟩
    · rename_i h; exact Or.inr (Or.inl ⟨rfl, by omega⟩)
theorem okQ_step {n : Nat} {t pl : Nat → Nat} {q : TQ} (h : okQ n q) (h4 : nextQ n t pl q ≠ 4) : okQ n (stepQ q (nextQ n t pl q)) := by
  have hn6 := h.n6
  have hh1 := h.h1
  have hhb := h.hb
  rcases nextQ_cases n t pl q with ⟨e, hb⟩ | ⟨e, -⟩ | ⟨h2, he⟩
  · rw [e, stepQ, if_pos rfl]
    refine ⟨h.n6, by show 1 ≤ qh q + 1; omega, by show qh q + 1 + (qb q - 1) ≤ n + 1; omega, ?_, fun k k1 k2 => ?_, fun k hk => ?_, h.m1⟩
    · show u1 (qs q) (qh q) _ 0 = 0
      unfold u1; rw [if_neg (by omega)]; exact h.s0
    · show 1 ≤ u1 (qs q) (qh q) _ k ∧ u1 (qs q) (qh q) _ k ≤ n
      have k2 : k < qh q + 1 := k2
      unfold u1
      by_cases z : k = qh q
      · rw [if_pos z]; exact h.b1 _ (by omega)
      · rw [if_neg z]; exact h.s1 k k1 (by omega)
    · have hk : k < qb q - 1 := hk
      exact h.b1 k (by omega)
  · exact absurd e h4
  · have hj := h.s1 (qh q - 1) (by omega) (by omega)
    have hi := h.sle (k := qh q - 2) (by omega)
    have hst : ∀ v, 1 ≤ v → v ≤ n → qs q (qh q - 2) ≠ 0 → u1 (qs q) (qh q - 2) v 0 = 0 ∧ ∀ k, 1 ≤ k → k < qh q - 1 → 1 ≤ u1 (qs q) (qh q - 2) v k ∧ u1 (qs q) (qh q - 2) v k ≤ n := by
      intro v v1 v2 hne
      have h3 : qh q - 2 ≠ 0 := fun z => hne (by rw [z]; exact h.s0)
      refine ⟨by unfold u1; rw [if_neg (by omega)]; exact h.s0, fun k k1 k2 => ?_⟩
      unfold u1
      by_cases z : k = qh q - 2
      · rw [if_pos z]; exact ⟨v1, v2⟩
      · rw [if_neg z]; exact h.s1 k k1 (by omega)
    rcases he with ⟨e, hne⟩ | e | ⟨e, hne, -⟩
    · rw [e, stepQ, if_neg (by decide), if_neg (by decide), if_pos rfl]
      obtain ⟨y1, y2⟩ := hst _ hj.1 hj.2 hne
      exact ⟨h.n6, by show 1 ≤ qh q - 1; omega, by show qh q - 1 + qb q ≤ n + 1; omega, y1, y2, h.b1, (bit_set _ h.m1 _ (by omega)).2⟩
    · rw [e, stepQ, if_neg (by decide), if_pos rfl]
      exact ⟨h.n6, by show 1 ≤ qh q - 1; omega, by show qh q - 1 + qb q ≤ n + 1; omega, h.s0, fun k k1 k2 => h.s1 k k1 (by have : k < qh q - 1 := k2; omega), h.b1, (bit_set _ h.m1 _ (by omega)).2⟩
    · rw [e, stepQ, if_neg (by decide), if_neg (by decide), if_neg (by decide)]
      obtain ⟨y1, y2⟩ := hst _ hj.1 hj.2 hne
      refine ⟨h.n6, by show 1 ≤ qh q - 1; omega, by show qh q - 1 + (qb q + 1) ≤ n + 1; omega, y1, y2, fun k hk => ?_, h.m1⟩
      show 1 ≤ u1 (qf q) (qb q) _ k ∧ u1 (qf q) (qb q) _ k ≤ n
      have hk : k < qb q + 1 := hk
      unfold u1
      by_cases z : k = qb q
      · rw [if_pos z]; exact ⟨by omega, hi⟩
      · rw [if_neg z]; exact h.b1 k (by omega)
/-! how long it goes on -/
def invL (pl : Nat → Nat) : List Nat → Nat
  | [] => 0
  | a :: l => (l.filter (fun b => decide (pl b < pl a))).length + invL pl l
theorem invL_le (pl : Nat → Nat) : ∀ l : List Nat, 2 * invL pl l + l.length ≤ l.length * l.length
  | [] => Nat.le_refl _
  | a :: l => by
    have h := invL_le pl l
    have h2 := List.length_filter_le (fun b => decide (pl b < pl a)) l
    have hm : (l.length + 1) * (l.length + 1) = l.length * l.length + l.length + l.length + 1 := by rw [Nat.add_mul, Nat.mul_add]; omega
    rw [invL, List.length_cons, hm]
    omega
theorem invL_del (pl : Nat → Nat) (x : Nat) (R : List Nat) : ∀ A : List Nat, invL pl (A ++ R) ≤ invL pl (A ++ x :: R)
  | [] => by rw [List.nil_append, List.nil_append, invL]; omega
  | a :: A => by
    have h := invL_del pl x R A
    rw [List.cons_append, List.cons_append, invL, invL, List.filter_append, List.filter_append, List.length_append, List.length_append, List.filter_cons]
    split
    · rw [List.length_cons]; omega
    · omega
theorem invL_swap (pl : Nat → Nat) (i j : Nat) (h : pl j < pl i) (R : List Nat) : ∀ A : List Nat, invL pl (A ++ i :: j :: R) = invL pl (A ++ j :: i :: R) + 1
  | [] => by
    simp only [List.nil_append, invL, List.filter_cons]
    rw [if_pos (by simpa using h), if_neg (by simp; omega)]
    simp only [List.length_cons]; omega
  | a :: A => by
    have hh := invL_swap pl i j h R A
    rw [List.cons_append, List.cons_append, invL, invL, hh, List.filter_append, List.filter_append, List.length_append, List.length_append]
    have : (List.filter (fun b => decide (pl b < pl a)) (i :: j :: R)).length = (List.filter (fun b => decide (pl b < pl a)) (j :: i :: R)).length := by
      simp only [List.filter_cons]
      split <;> split <;> simp [*]
    rw [this]; omega
def seqQ (q : TQ) : List Nat := (List.range (qh q)).map (qs q) ++ ((List.range (qb q)).map (qf q)).reverse
def phiQ (pl : Nat → Nat) (q : TQ) : Nat := 2 * invL pl (seqQ q) + qh q + 2 * qb q
theorem map_u1 {f : Nat → Nat} {k v : Nat} : ∀ h, h ≤ k → (List.range h).map (u1 f k v) = (List.range h).map f := by
  intro h hh
  apply List.map_congr_left
  intro a ha
  have := List.mem_range.mp ha
  unfold u1; rw [if_neg (by omega)]
theorem seq_top {q : TQ} (h2 : 2 ≤ qh q) : (List.range (qh q)).map (qs q) = (List.range (qh q - 2)).map (qs q) ++ [qs q (qh q - 2), qs q (qh q - 1)] := by
  obtain ⟨g, hg⟩ : ∃ g, qh q = g + 2 := ⟨qh q - 2, by omega⟩
  rw [hg, List.range_succ, List.range_succ]
  simp
theorem phi_step {n : Nat} {t pl : Nat → Nat} {q : TQ} (h : okQ n q) (h4 : nextQ n t pl q ≠ 4) : phiQ pl (stepQ q (nextQ n t pl q)) < phiQ pl q := by
  rcases nextQ_cases n t pl q with ⟨e, hb⟩ | ⟨e, -⟩ | ⟨h2, he⟩
  · rw [e, stepQ, if_pos rfl]
    have : seqQ (qh q + 1, u1 (qs q) (qh q) (qf q (qb q - 1)), qb q - 1, qf q, qm q) = seqQ q := by
      obtain ⟨g, hg⟩ : ∃ g, qb q = g + 1 := ⟨qb q - 1, by omega⟩
      unfold seqQ
      show (List.range (qh q + 1)).map (u1 (qs q) (qh q) (qf q (qb q - 1))) ++ ((List.range (qb q - 1)).map (qf q)).reverse = _
      rw [List.range_succ, List.map_append, map_u1 _ (Nat.le_refl _), hg, List.range_succ (n := g), Nat.add_sub_cancel]
      simp [u1]
    unfold phiQ
    rw [this]
    show 2 * invL pl (seqQ q) + (qh q + 1) + 2 * (qb q - 1) < _
    omega
  · exact absurd e h4
  · have hm : ∀ v, (List.range (qh q - 1)).map (u1 (qs q) (qh q - 2) v) = (List.range (qh q - 2)).map (qs q) ++ [v] := by
      intro v
      obtain ⟨g, hg⟩ : ∃ g, qh q = g + 2 := ⟨qh q - 2, by omega⟩
      rw [hg, show g + 2 - 1 = g + 1 by omega, show g + 2 - 2 = g by omega, List.range_succ, List.map_append, map_u1 _ (Nat.le_refl _)]
      simp [u1]
    have hm0 : (List.range (qh q - 1)).map (qs q) = (List.range (qh q - 2)).map (qs q) ++ [qs q (qh q - 2)] := by
      obtain ⟨g, hg⟩ : ∃ g, qh q = g + 2 := ⟨qh q - 2, by omega⟩
      rw [hg, show g + 2 - 1 = g + 1 by omega, show g + 2 - 2 = g by omega, List.range_succ]
      simp
    have hq : seqQ q = (List.range (qh q - 2)).map (qs q) ++ qs q (qh q - 2) :: qs q (qh q - 1) :: ((List.range (qb q)).map (qf q)).reverse := by
      unfold seqQ
      rw [seq_top h2]; simp
    rcases he with ⟨e, hne⟩ | e | ⟨e, hne, hp⟩
    · rw [e, stepQ, if_neg (by decide), if_neg (by decide), if_pos rfl]
      unfold phiQ
      rw [hq]
      show 2 * invL pl ((List.range (qh q - 1)).map (u1 (qs q) (qh q - 2) _) ++ ((List.range (qb q)).map (qf q)).reverse) + (qh q - 1) + 2 * qb q < _
      rw [hm]
      have := invL_del pl (qs q (qh q - 2)) (qs q (qh q - 1) :: ((List.range (qb q)).map (qf q)).reverse) ((List.range (qh q - 2)).map (qs q))
      rw [List.append_assoc, List.singleton_append]
      omega
    · rw [e, stepQ, if_neg (by decide), if_pos rfl]
      unfold phiQ
      rw [hq]
      show 2 * invL pl ((List.range (qh q - 1)).map (qs q) ++ ((List.range (qb q)).map (qf q)).reverse) + (qh q - 1) + 2 * qb q < _
      rw [hm0]
      have := invL_del pl (qs q (qh q - 1)) ((List.range (qb q)).map (qf q)).reverse ((List.range (qh q - 2)).map (qs q) ++ [qs q (qh q - 2)])
      rw [List.append_assoc, List.append_assoc, List.singleton_append, List.singleton_append] at this
      rw [List.append_assoc, List.singleton_append]
      omega
    · rw [e, stepQ, if_neg (by decide), if_neg (by decide), if_neg (by decide)]
      unfold phiQ
      rw [hq]
      show 2 * invL pl ((List.range (qh q - 1)).map (u1 (qs q) (qh q - 2) _) ++ ((List.range (qb q + 1)).map (u1 (qf q) (qb q) _)).reverse) + (qh q - 1) + 2 * (qb q + 1) < _
      rw [hm, List.range_succ, List.map_append, map_u1 _ (Nat.le_refl _)]
      have := invL_swap pl _ _ hp ((List.range (qb q)).map (qf q)).reverse ((List.range (qh q - 2)).map (qs q))
      simp only [List.map_cons, List.map_nil, List.reverse_append, List.reverse_cons, List.reverse_nil, List.nil_append, List.append_assoc, List.cons_append, u1, if_pos]
      omega
theorem begQ_ok {n : Nat} (h : n ≤ 6) : okQ n (begQ n) := ⟨h, Nat.le_refl _, by show 1 + n ≤ n + 1; omega, rfl, fun k k1 k2 => by have : k < 1 := k2; omega, fun k hk => by have : k < n := hk; show 1 ≤ n - k ∧ n - k ≤ n; omega, by show 0 < 128; decide⟩
theorem phi_beg {n : Nat} {pl : Nat → Nat} (h : n ≤ 6) : phiQ pl (begQ n) < 64 := by
  have h1 := invL_le pl (seqQ (begQ n))
  have h2 : (seqQ (begQ n)).length = n + 1 := by
    unfold seqQ
    rw [List.length_append, List.length_reverse, List.length_map, List.length_map, List.length_range, List.length_range]
    show 1 + n = n + 1
    omega
  rw [h2] at h1
  have h3 : (n + 1) * (n + 1) ≤ 7 * 7 := Nat.mul_le_mul (by omega) (by omega)
  show 2 * invL pl (seqQ (begQ n)) + 1 + 2 * n < 64
  omega
def plT (n : Nat) (t : Nat → Nat) (v : Nat) : Nat := (ordF n t 0).idxOf v
def movesL (n : Nat) (t : Nat → Nat) : List Nat := runQ n t (plT n t) 64 (begQ n)
theorem pl_at {n : Nat} {t : Nat → Nat} {σ : St} {a : Nat} (hT : TR n t) (h : ∀ k, (hk : k < (ordF n t 0).length) → σ.1 a (ordF n t 0)[k] = nI k) {v : Nat} (hv : v ≤ n) : σ.1 a v = nI (plT n t v) ∧ plT n t v < 7 := by
  have hm := hT.mem.mpr hv
  have hl := List.idxOf_lt_length_of_mem hm
  have := h _ hl
  rw [List.getElem_idxOf hl] at this
  exact ⟨this, by have := hT.len; have := hT.n6; unfold plT; omega⟩
