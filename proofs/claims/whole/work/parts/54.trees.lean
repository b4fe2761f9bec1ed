/-! heads as lists; all of them in order -/
def hL (l : List Nat) (w : Nat) : Nat := if w = 0 then 0 else l.getD (w - 1) 0
def hsF (n w : Nat) : Nat → Nat → List Nat
  | 0, _ => []
  | f + 1, h => if n < h then [] else h :: hsF n w f (if h + 1 = w then h + 2 else h + 1)
def seqs (n : Nat) : Nat → Nat → List (List Nat)
  | 0, _ => [[]]
  | m + 1, w => (hsF n w (n + 1) 0).flatMap fun h => (seqs n m (w + 1)).map (h :: ·)
def allT (n : Nat) : List (List Nat) := seqs n n 1
def zer (m : Nat) : List Nat := List.replicate m 0
def stepL (n : Nat) : Nat → List Nat → Option (List Nat)
  | _, [] => none
  | w, h :: r => match stepL n (w + 1) r with
    | some r' => some (h :: r')
    | none => if (if h + 1 = w then h + 2 else h + 1) ≤ n then some ((if h + 1 = w then h + 2 else h + 1) :: zer r.length) else none
theorem hL_get {l : List Nat} {w : Nat} (h1 : 1 ≤ w) (h2 : w ≤ l.length) : hL l w = l[w - 1] := by
  unfold hL
  rw [if_neg (by omega), List.getD_eq_getElem?_getD, List.getElem?_eq_getElem (by omega)]; rfl
theorem hL_app {p r : List Nat} {w : Nat} (h2 : w ≤ p.length) : hL (p ++ r) w = hL p w := by
  unfold hL
  by_cases e : w = 0
  · rw [if_pos e, if_pos e]
  · rw [if_neg e, if_neg e, List.getD_eq_getElem?_getD, List.getD_eq_getElem?_getD, List.getElem?_append_left (by omega)]
theorem hL_mid {p r : List Nat} {h : Nat} : hL (p ++ h :: r) (p.length + 1) = h := by
  unfold hL
  rw [if_neg (by omega), List.getD_eq_getElem?_getD, Nat.add_sub_cancel, List.getElem?_append_right (Nat.le_refl _), Nat.sub_self]; rfl
theorem hL_ext {l l' : List Nat} (hl : l.length = l'.length) (h : ∀ w, 1 ≤ w → w ≤ l.length → hL l w = hL l' w) : l = l' := by
  apply List.ext_getElem hl
  intro i h1 h2
  have := h (i + 1) (by omega) (by omega)
  rw [hL_get (by omega) (by omega), hL_get (by omega) (by omega)] at this
  exact this
theorem seqs_len {n : Nat} : ∀ (m w : Nat) (l : List Nat), l ∈ seqs n m w → l.length = m
  | 0, w, l, h => by rw [seqs] at h; rw [List.mem_singleton.mp h]; rfl
  | m + 1, w, l, h => by
    rw [seqs] at h
    obtain ⟨a, _, h2⟩ := List.mem_flatMap.mp h
    obtain ⟨r, h3, rfl⟩ := List.mem_map.mp h2
    rw [List.length_cons, seqs_len m (w + 1) r h3]
theorem hsF_mem {n w : Nat} : ∀ (f h a : Nat), n < h + f → h ≠ w → (a ∈ hsF n w f h ↔ h ≤ a ∧ a ≤ n ∧ a ≠ w) := by
  intro f
  induction f with
  | zero => intro h a h1 h2; rw [hsF]; constructor
            · intro z; cases z
            · intro z; omega
  | succ f ih =>
    intro h a h1 h2
    rw [hsF]
    by_cases q : n < h
    · rw [if_pos q]; constructor
      · intro z; cases z
      · intro z; omega
    · rw [if_neg q, List.mem_cons]
      by_cases q2 : h + 1 = w
      · rw [if_pos q2, ih (h + 2) a (by omega) (by omega)]
        constructor
        · intro z; omega
        · intro z; omega
      · rw [if_neg q2, ih (h + 1) a (by omega) (by omega)]
        constructor
        · intro z; omega
        · intro z; omega
theorem seqs_mem {n : Nat} : ∀ (m w : Nat) (l : List Nat), 1 ≤ w → (l ∈ seqs n m w ↔ l.length = m ∧ ∀ i, (hi : i < l.length) → l[i] ≤ n ∧ l[i] ≠ w + i)
  | 0, w, l, hw => by
    rw [seqs, List.mem_singleton]
    constructor
    · intro h; subst h; exact ⟨rfl, fun i hi => absurd hi (Nat.not_lt_zero _)⟩
    · intro h; exact List.eq_nil_of_length_eq_zero h.1
  | m + 1, w, l, hw => by
    rw [seqs, List.mem_flatMap]
    constructor
    · rintro ⟨a, h1, h2⟩
      obtain ⟨r, h3, rfl⟩ := List.mem_map.mp h2
      obtain ⟨e1, e2⟩ := (seqs_mem m (w + 1) r (by omega)).mp h3
      rw [hsF_mem (n + 1) 0 a (by omega) (by omega)] at h1
      refine ⟨by rw [List.length_cons, e1], fun i hi => ?_⟩
      cases i with
      | zero => exact ⟨h1.2.1, h1.2.2⟩
      | succ i =>
        have := e2 i (by rw [List.length_cons] at hi; omega)
        rw [List.getElem_cons_succ]; omega
    · rintro ⟨h1, h2⟩
      cases l with
      | nil => cases h1
      | cons a r =>
        rw [List.length_cons] at h1
        have h0 := h2 0 (by rw [List.length_cons]; omega)
        rw [List.getElem_cons_zero] at h0
        refine ⟨a, (hsF_mem (n + 1) 0 a (by omega) (by omega)).mpr ⟨by omega, h0.1, by omega⟩, List.mem_map.mpr ⟨r, (seqs_mem m (w + 1) r (by omega)).mpr ⟨by omega, fun i hi => ?_⟩, rfl⟩⟩
        have := h2 (i + 1) (by rw [List.length_cons]; omega)
        rw [List.getElem_cons_succ] at this; omega
theorem allT_mem {n : Nat} {l : List Nat} : l ∈ allT n ↔ l.length = n ∧ ∀ w, 1 ≤ w → w ≤ n → hL l w ≤ n ∧ hL l w ≠ w := by
  unfold allT
  rw [seqs_mem n 1 l (Nat.le_refl _)]
  constructor
  · rintro ⟨h1, h2⟩
    refine ⟨h1, fun w w1 w2 => ?_⟩
    have := h2 (w - 1) (by omega)
    rw [hL_get w1 (by omega)]; omega
  · rintro ⟨h1, h2⟩
    refine ⟨h1, fun i hi => ?_⟩
    have := h2 (i + 1) (by omega) (by omega)
    rw [hL_get (by omega) (by omega)] at this
    simp only [Nat.add_sub_cancel] at this
    omega
theorem seqs_head {n : Nat} : ∀ (m w : Nat), ∃ E, seqs n m w = zer m :: E
  | 0, w => ⟨[], rfl⟩
  | m + 1, w => by
    obtain ⟨E, hE⟩ := seqs_head (n := n) m (w + 1)
    rw [seqs, hsF, if_neg (by omega), List.flatMap_cons, hE, List.map_cons]
    exact ⟨_, rfl⟩
theorem stepL_chain {n : Nat} : ∀ (m w : Nat) (D : List (List Nat)) (c : List Nat) (E : List (List Nat)), seqs n m w = D ++ c :: E → stepL n w c = E.head? := by
  intro m
  induction m with
  | zero =>
    intro w D c E h
    rw [seqs] at h
    cases D with
    | nil => simp at h; rw [h.1, h.2]; rfl
    | cons d D => simp at h
  | succ m ih =>
    intro w D c E h
    rw [seqs] at h
    have key : ∀ (f a : Nat) (D : List (List Nat)), n < a + f → (hsF n w f a).flatMap (fun h => (seqs n m (w + 1)).map (h :: ·)) = D ++ c :: E → stepL n w c = E.head? := by
      intro f
      induction f with
      | zero => intro a D h1 h; rw [hsF] at h; simp at h
      | succ f ihf =>
        intro a D h1 h
        rw [hsF] at h
        by_cases q : n < a
        · rw [if_pos q] at h; simp at h
        · rw [if_neg q, List.flatMap_cons] at h
          rcases List.append_eq_append_iff.mp h with ⟨x, h2, h3⟩ | ⟨x, h2, h3⟩
          · refine ihf _ x ?_ h3
            split <;> omega
          · cases x with
            | nil =>
              rw [List.append_nil] at h2
              rw [List.nil_append] at h3
              refine ihf _ [] ?_ h3.symm
              split <;> omega
            | cons y x =>
              rw [List.cons_append, List.cons.injEq] at h3
              obtain ⟨rfl, rfl⟩ := h3
              -- c stands in the first block
              obtain ⟨D1, Y1, e1, e2, e3⟩ := List.map_eq_append_iff.mp h2
              cases Y1 with
              | nil => simp at e3
              | cons y1 E1 =>
                rw [List.map_cons, List.cons.injEq] at e3
                obtain ⟨rfl, rfl⟩ := e3
                have hy := ih (w + 1) D1 y1 E1 e1
                have hlen : y1.length = m := seqs_len m (w + 1) y1 (by rw [e1]; simp)
                rw [stepL, hy]
                cases E1 with
                | cons z E1 => rfl
                | nil =>
                  simp only [List.head?_nil, List.map_nil, List.nil_append]
                  cases f with
                  | zero => rw [hsF, if_neg (by split <;> omega)]; rfl
                  | succ f =>
                    rw [hsF]
                    by_cases q2 : n < (if a + 1 = w then a + 2 else a + 1)
                    · rw [if_pos q2, if_neg (by omega)]; rfl
                    · rw [if_neg q2, if_pos (by omega), List.flatMap_cons]
                      obtain ⟨E', hE'⟩ := seqs_head (n := n) m (w + 1)
                      rw [hE', hlen]; rfl
    exact key (n + 1) 0 D (by omega) h
theorem stepL_app {n : Nat} : ∀ (p : List Nat) (w : Nat) (r r' : List Nat), stepL n (w + p.length) r = some r' → stepL n w (p ++ r) = some (p ++ r')
  | [], w, r, r', h => h
  | a :: p, w, r, r', h => by
    rw [List.cons_append, stepL, stepL_app p (w + 1) r r' (by rw [List.length_cons, ← Nat.add_assoc, Nat.add_right_comm] at h; exact h)]
    rfl
/-! trees by their steps -/
def walkT (t : Nat → Nat) (w : Nat) : Nat → Nat → Nat
  | 0, v => v
  | k + 1, v => if 0 < v ∧ v < w then walkT t w k (t v) else v
theorem nodup_bound : ∀ (k : Nat) (l : List Nat), l.Nodup → (∀ a, a ∈ l → a < k) → l.length ≤ k
  | 0, l, h1, h2 => by
    cases l with
    | nil => exact Nat.le_refl _
    | cons a l => exact absurd (h2 a List.mem_cons_self) (Nat.not_lt_zero _)
  | k + 1, l, h1, h2 => by
    by_cases e : k ∈ l
    · have h3 := nodup_bound k (l.erase k) (h1.erase k) (fun a ha => by
        have := h2 a (List.mem_of_mem_erase ha)
        have : a ≠ k := fun z => by subst z; exact (List.Nodup.not_mem_erase h1) ha
        omega)
      rw [List.length_erase_of_mem e] at h3
      omega
    · have := nodup_bound k l h1 (fun a ha => by
        have := h2 a ha
        have : a ≠ k := fun z => e (z ▸ ha)
        omega)
      omega
/-- the first step out of the words up to k -/
theorem first_out {t : Nat → Nat} {k v : Nat} : ∀ j, ¬ (0 < itN t j v ∧ itN t j v ≤ k) → ∃ d, d ≤ j ∧ ¬ (0 < itN t d v ∧ itN t d v ≤ k) ∧ ∀ i, i < d → 0 < itN t i v ∧ itN t i v ≤ k := by
  intro j
  induction j with
  | zero => intro h; exact ⟨0, Nat.le_refl _, h, fun i hi => absurd hi (Nat.not_lt_zero _)⟩
  | succ j ih =>
    intro h
    by_cases q : ∃ i, i ≤ j ∧ ¬ (0 < itN t i v ∧ itN t i v ≤ k)
    · obtain ⟨i, hi, hq⟩ := q
      by_cases e : i = j
      · subst e
        obtain ⟨d, h1, h2⟩ := ih hq
        exact ⟨d, by omega, h2⟩
      · -- fall back on a smaller one
        have : ∀ m, ¬ (0 < itN t m v ∧ itN t m v ≤ k) → ∃ d, d ≤ m ∧ ¬ (0 < itN t d v ∧ itN t d v ≤ k) ∧ ∀ i, i < d → 0 < itN t i v ∧ itN t i v ≤ k := by
          intro m
          induction m using Nat.strongRecOn with
          | _ m ihm =>
            intro hm
            by_cases z : ∃ i, i < m ∧ ¬ (0 < itN t i v ∧ itN t i v ≤ k)
            · obtain ⟨i, hi, hz⟩ := z
              obtain ⟨d, d1, d2⟩ := ihm i hi hz
              exact ⟨d, by omega, d2⟩
            · exact ⟨m, Nat.le_refl _, hm, fun i hi => Classical.byContradiction (fun y => z ⟨i, hi, y⟩)⟩
        obtain ⟨d, d1, d2⟩ := this i hq
        exact ⟨d, by omega, d2⟩
    · exact ⟨j + 1, Nat.le_refl _, h, fun i hi => Classical.byContradiction (fun y => q ⟨i, by omega, y⟩)⟩
theorem out_bound {t : Nat → Nat} {k v d : Nat} (h : ¬ (0 < itN t d v ∧ itN t d v ≤ k)) (h2 : ∀ i, i < d → 0 < itN t i v ∧ itN t i v ≤ k) : d ≤ k := by
  have := nodup_bound k ((List.range d).map (fun i => itN t i v - 1)) (by
    rw [List.nodup_iff_pairwise_ne, List.pairwise_map]
    refine List.Pairwise.imp_of_mem ?_ List.pairwise_lt_range
    intro a b ha hb hab e
    have ha := List.mem_range.mp ha
    have hb := List.mem_range.mp hb
    have h3 := h2 a ha
    have h4 := h2 b hb
    have e2 : itN t a v = itN t b v := by omega
    have h5 := h2 ((d - b) + a) (by omega)
    rw [itN_add, e2, ← itN_add, show d - b + b = d by omega] at h5
    exact h h5) (fun a ha => by
    obtain ⟨i, hi, rfl⟩ := List.mem_map.mp ha
    have := h2 i (List.mem_range.mp hi)
    omega)
  rw [List.length_map, List.length_range] at this
  exact this
theorem walkT_out {t : Nat → Nat} {w : Nat} : ∀ (d k v : Nat), (∀ i, i < d → 0 < itN t i v ∧ itN t i v < w) → ¬ (0 < itN t d v ∧ itN t d v < w) → d ≤ k → walkT t w k v = itN t d v
  | 0, k, v, h1, h2, h3 => by
    cases k with
    | zero => rfl
    | succ k =>
      have h2' : ¬ (0 < v ∧ v < w) := h2
      rw [walkT, if_neg h2']; rfl
  | d + 1, k, v, h1, h2, h3 => by
    obtain ⟨k, rfl⟩ : ∃ g, k = g + 1 := ⟨k - 1, by omega⟩
    have h1' : 0 < v ∧ v < w := h1 0 (by omega)
    rw [walkT, if_pos h1', walkT_out d k (t v) (fun i hi => h1 (i + 1) (by omega)) h2 (by omega)]; rfl
theorem itN_0 {t : Nat → Nat} (h0 : t 0 = 0) : ∀ k, itN t k 0 = 0
  | 0 => rfl
  | k + 1 => by rw [itN, h0]; exact itN_0 h0 k
theorem isT_steps {n : Nat} {t : Nat → Nat} (h0 : t 0 = 0) (ht : ∀ w, 1 ≤ w → w ≤ n → t w ≤ n) : isT n t ↔ ∀ w, 1 ≤ w → w ≤ n → walkT t w w (t w) ≠ w := by
  constructor
  · intro hT w w1 w2 hc
    -- a way from w back to w
    have hz : ∃ j, itN t j (t w) = w := by
      have : ∀ k v, ∃ j, itN t j v = walkT t w k v := by
        intro k
        induction k with
        | zero => intro v; exact ⟨0, rfl⟩
        | succ k ih =>
          intro v
          rw [walkT]
          split
          · obtain ⟨j, hj⟩ := ih (t v); exact ⟨j + 1, hj⟩
          · exact ⟨0, rfl⟩
      obtain ⟨j, hj⟩ := this w (t w)
      exact ⟨j, hj.trans hc⟩
    obtain ⟨j, hj⟩ := hz
    have hp : ∀ m, itN t (m * (j + 1)) w = w := by
      intro m
      induction m with
      | zero => rw [Nat.zero_mul]; rfl
      | succ m ih =>
        rw [Nat.succ_mul, itN_add, show itN t (j + 1) w = w from hj, ih]
    have h1 := hp n
    have h2 : itN t (n * (j + 1)) w = 0 := by
      rw [Nat.mul_add, Nat.mul_one, itN_add, hT w w1 w2]
      exact itN_0 h0 _
    omega
  · intro hc
    have hle : ∀ j v, v ≤ n → itN t j v ≤ n := by
      intro j
      induction j with
      | zero => intro v hv; exact hv
      | succ j ih =>
        intro v hv
        rw [itN]
        rcases Nat.eq_zero_or_pos v with e | e
        · rw [e, h0]; exact ih 0 (by omega)
        · exact ih _ (ht v e hv)
    have key : ∀ k, k ≤ n → ∀ v, v ≤ n → ∃ j, ¬ (0 < itN t j v ∧ itN t j v ≤ k) := by
      intro k
      induction k with
      | zero => intro _ v _; exact ⟨0, by omega⟩
      | succ k ih =>
        intro hk v hv
        obtain ⟨j, hj⟩ := ih (by omega) v hv
        by_cases e : itN t j v = k + 1
        · have htk := ht (k + 1) (by omega) hk
          obtain ⟨j2, hj2⟩ := ih (by omega) (t (k + 1)) htk
          obtain ⟨d, d1, d2, d3⟩ := first_out j2 hj2
          have hd := out_bound d2 d3
          have hw := walkT_out (t := t) (w := k + 1) d (k + 1) (t (k + 1)) (fun i hi => by have := d3 i hi; omega) (by omega) (by omega)
          have hne := hc (k + 1) (by omega) hk
          rw [hw] at hne
          refine ⟨d + (j + 1), ?_⟩
          rw [itN_add, show itN t (j + 1) v = t (itN t j v) from itN_succ t j v, e]
          omega
        · exact ⟨j, by omega⟩
    intro w w1 w2
    obtain ⟨j, hj⟩ := key n (Nat.le_refl _) w w2
    obtain ⟨d, d1, d2, d3⟩ := first_out j hj
    have hd := out_bound d2 d3
    have h3 := hle d w w2
    have h4 : itN t d w = 0 := by omega
    rw [show n = (n - d) + d by omega, itN_add, h4]
    exact itN_0 h0 _
