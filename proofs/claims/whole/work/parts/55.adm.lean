/-! admissible trees, word by word and as a whole -/
def okL (sg pj : Prop) (ch : Nat → Nat → Prop) (p : List Nat) (h : Nat) : Prop := ch h (p.length + 1) ∧ ¬ (h = 0 ∧ 0 ∈ p ∧ sg) ∧ walkT (hL p) (p.length + 1) (p.length + 1) h ≠ p.length + 1 ∧ (pj → ∀ u, 1 ≤ u → u ≤ p.length → ¬ crP h (p.length + 1) (hL p u) u)
def admR (sg pj : Prop) (ch : Nat → Nat → Prop) : List Nat → List Nat → Prop
  | _, [] => True
  | p, h :: r => okL sg pj ch p h ∧ admR sg pj ch (p ++ [h]) r
def admT (sg pj : Prop) (ch : Nat → Nat → Prop) (n : Nat) (l : List Nat) : Prop := (∀ w, 1 ≤ w → w ≤ n → ch (hL l w) w) ∧ (sg → ∀ u w, 1 ≤ u → u < w → w ≤ n → ¬ (hL l u = 0 ∧ hL l w = 0)) ∧ isT n (hL l) ∧ (pj → ∀ u w, 1 ≤ u → u < w → w ≤ n → ¬ crP (hL l w) w (hL l u) u)
section ADM
variable {sg pj : Prop} {ch : Nat → Nat → Prop}
theorem walkT_congr {t t' : Nat → Nat} {w : Nat} (h : ∀ v, 0 < v → v < w → t v = t' v) : ∀ k v, walkT t w k v = walkT t' w k v
  | 0, v => rfl
  | k + 1, v => by
    rw [walkT, walkT]
    by_cases q : 0 < v ∧ v < w
    · rw [if_pos q, if_pos q, h v q.1 q.2]; exact walkT_congr h k _
    · rw [if_neg q, if_neg q]
theorem admR_iff : ∀ (r p : List Nat), admR sg pj ch p r ↔ ∀ w, p.length < w → w ≤ (p ++ r).length → okL sg pj ch ((p ++ r).take (w - 1)) (hL (p ++ r) w)
  | [], p => by
    rw [admR, List.append_nil]
    exact ⟨fun _ w h1 h2 => by omega, fun _ => trivial⟩
  | h :: r, p => by
    rw [admR, admR_iff r (p ++ [h])]
    have e : p ++ [h] ++ r = p ++ h :: r := by simp
    rw [e, List.length_append (as := p) (bs := [h])]
    have e1 : (p ++ h :: r).take (p.length + 1 - 1) = p := by rw [Nat.add_sub_cancel, List.take_left']; rfl
    constructor
    · rintro ⟨h1, h2⟩ w w1 w2
      by_cases q : w = p.length + 1
      · subst q; rw [e1, hL_mid]; exact h1
      · exact h2 w (by simp only [List.length_cons, List.length_nil]; omega) w2
    · intro hh
      refine ⟨?_, fun w w1 w2 => hh w (by simp only [List.length_cons, List.length_nil] at w1; omega) w2⟩
      have := hh (p.length + 1) (by omega) (by rw [List.length_append, List.length_cons]; omega)
      rw [e1, hL_mid] at this; exact this
theorem hL_take {l : List Nat} {w u : Nat} (h : u < w) (hw : w ≤ l.length) : hL (l.take (w - 1)) u = hL l u := by
  have : l = l.take (w - 1) ++ l.drop (w - 1) := (List.take_append_drop _ _).symm
  conv => rhs; rw [this]
  rw [hL_app]
  rw [List.length_take]; omega
theorem adm_iff {n : Nat} {l : List Nat} (hl : l ∈ allT n) : admR sg pj ch [] l ↔ admT sg pj ch n l := by
  obtain ⟨h1, h2⟩ := allT_mem.mp hl
  rw [admR_iff]
  simp only [List.nil_append, List.length_nil]
  have hlen : ∀ w, 1 ≤ w → w ≤ n → (l.take (w - 1)).length + 1 = w := fun w w1 w2 => by rw [List.length_take]; omega
  have hz : ∀ w, 1 ≤ w → w ≤ n → (0 ∈ l.take (w - 1) ↔ ∃ u, 1 ≤ u ∧ u < w ∧ hL l u = 0) := by
    intro w w1 w2
    rw [List.mem_iff_getElem]
    constructor
    · rintro ⟨i, hi, e⟩
      rw [List.length_take] at hi
      refine ⟨i + 1, by omega, by omega, ?_⟩
      rw [hL_get (by omega) (by omega)]
      rw [List.getElem_take] at e
      simpa using e
    · rintro ⟨u, u1, u2, e⟩
      rw [hL_get u1 (by omega)] at e
      exact ⟨u - 1, by rw [List.length_take]; omega, by rw [List.getElem_take]; exact e⟩
  have hok : ∀ w, 1 ≤ w → w ≤ n → (okL sg pj ch (l.take (w - 1)) (hL l w) ↔ ch (hL l w) w ∧ ¬ (hL l w = 0 ∧ (∃ u, 1 ≤ u ∧ u < w ∧ hL l u = 0) ∧ sg) ∧ walkT (hL l) w w (hL l w) ≠ w ∧ (pj → ∀ u, 1 ≤ u → u < w → ¬ crP (hL l w) w (hL l u) u)) := by
    intro w w1 w2
    unfold okL
    rw [hlen w w1 w2, hz w w1 w2, walkT_congr (t := hL (l.take (w - 1))) (t' := hL l) (fun v _ hv => hL_take hv (by omega))]
    have : ∀ u, u ≤ (l.take (w - 1)).length ↔ u < w := fun u => by have := hlen w w1 w2; omega
    constructor
    · rintro ⟨a, b, c, d⟩
      exact ⟨a, b, c, fun hp u u1 u2 => by have := d hp u u1 ((this u).mpr u2); rw [hL_take u2 (by omega)] at this; exact this⟩
    · rintro ⟨a, b, c, d⟩
      exact ⟨a, b, c, fun hp u u1 u2 => by rw [hL_take ((this u).mp u2) (by omega)]; exact d hp u u1 ((this u).mp u2)⟩
  unfold admT
  rw [isT_steps (show hL l 0 = 0 from rfl) (fun w w1 w2 => (h2 w w1 w2).1)]
  constructor
  · intro hh
    have hh2 : ∀ w, 1 ≤ w → w ≤ n → _ := fun w w1 w2 => (hok w w1 w2).mp (hh w (by omega) (by omega))
    exact ⟨fun w w1 w2 => (hh2 w w1 w2).1, fun hs u w u1 uw wn hc => (hh2 w (by omega) wn).2.1 ⟨hc.2, ⟨u, u1, uw, hc.1⟩, hs⟩, fun w w1 w2 => (hh2 w w1 w2).2.2.1, fun hp u w u1 uw wn => (hh2 w (by omega) wn).2.2.2 hp u u1 uw⟩
  · rintro ⟨a, b, c, d⟩ w w1 w2
    exact (hok w (by omega) (by omega)).mpr ⟨a w (by omega) (by omega), fun hc => by obtain ⟨z1, ⟨u, u1, u2, z2⟩, z3⟩ := hc; exact b z3 u w u1 u2 (by omega) ⟨z2, z1⟩, c w (by omega) (by omega), fun hp u u1 u2 => d hp u w u1 u2 (by omega)⟩
/-- roots -/
def rtC (t : Nat → Nat) : Nat → Nat
  | 0 => 0
  | w + 1 => rtC t w + (if t (w + 1) = 0 then 1 else 0)
theorem rtC_le (t : Nat → Nat) : ∀ n, rtC t n ≤ n
  | 0 => Nat.le_refl _
  | n + 1 => by have := rtC_le t n; rw [rtC]; split <;> omega
theorem rtC_zero {t : Nat → Nat} : ∀ n, rtC t n = 0 ↔ ∀ w, 1 ≤ w → w ≤ n → t w ≠ 0
  | 0 => ⟨fun _ w w1 w2 => by omega, fun _ => rfl⟩
  | n + 1 => by
    rw [rtC]
    have ih := rtC_zero (t := t) n
    constructor
    · intro h w w1 w2
      by_cases e : w = n + 1
      · subst e
        intro z
        rw [if_pos z] at h; omega
      · exact ih.mp (by omega) w w1 (by omega)
    · intro h
      rw [ih.mpr (fun w w1 w2 => h w w1 (by omega)), if_neg (h (n + 1) (by omega) (by omega))]
theorem rtC_one {t : Nat → Nat} : ∀ n, rtC t n ≤ 1 ↔ ∀ u w, 1 ≤ u → u < w → w ≤ n → ¬ (t u = 0 ∧ t w = 0)
  | 0 => ⟨fun _ u w u1 uw wn => by omega, fun _ => by rw [rtC]; omega⟩
  | n + 1 => by
    rw [rtC]
    have ih := rtC_one (t := t) n
    have iz := rtC_zero (t := t) n
    constructor
    · intro h u w u1 uw wn hc
      by_cases e : w = n + 1
      · subst e
        rw [if_pos hc.2] at h
        exact iz.mp (by omega) u u1 (by omega) hc.1
      · exact ih.mp (by omega) u w u1 uw (by omega) hc
    · intro h
      by_cases e : t (n + 1) = 0
      · rw [if_pos e, iz.mpr (fun w w1 w2 z => h w (n + 1) w1 (by omega) (Nat.le_refl _) ⟨z, e⟩)]; omega
      · rw [if_neg e]
        have := ih.mpr (fun u w u1 uw wn => h u w u1 uw (by omega))
        omega
theorem rt_pos {t : Nat → Nat} {n : Nat} (hn : 1 ≤ n) (hT : isT n t) (ht : ∀ w, 1 ≤ w → w ≤ n → t w ≤ n) : rtC t n ≠ 0 := by
  intro h
  have hz := (rtC_zero n).mp h
  have : ∀ k v, 1 ≤ v → v ≤ n → 1 ≤ itN t k v := by
    intro k
    induction k with
    | zero => intro v v1 _; exact v1
    | succ k ih => intro v v1 v2; rw [itN]; exact ih _ (by have := hz v v1 v2; omega) (ht v v1 v2)
  have h1 := this n 1 (Nat.le_refl _) hn
  have h2 := hT 1 (Nat.le_refl _) hn
  omega
theorem cr1_zero {t : Nat → Nat} {w : Nat} : ∀ k, cr1 t w k = 0 ↔ ∀ u, 1 ≤ u → u < k → ¬ crP (t w) w (t u) u
  | 0 => ⟨fun _ u u1 u2 => by omega, fun _ => rfl⟩
  | k + 1 => by
    rw [cr1]
    have ih := cr1_zero (t := t) (w := w) k
    constructor
    · intro h u u1 u2
      by_cases e : u = k
      · subst e
        intro z
        rw [if_pos ⟨u1, z⟩] at h; omega
      · exact ih.mp (by omega) u u1 (by omega)
    · intro h
      rw [ih.mpr (fun u u1 u2 => h u u1 (by omega))]
      by_cases e : 1 ≤ k
      · rw [if_neg (fun z => h k e (by omega) z.2)]
      · rw [if_neg (fun z => e z.1)]
theorem crA_zero {t : Nat → Nat} : ∀ n, crA t (n + 1) = 0 ↔ ∀ u w, 1 ≤ u → u < w → w ≤ n → ¬ crP (t w) w (t u) u
  | 0 => ⟨fun _ u w u1 uw wn => by omega, fun _ => rfl⟩
  | n + 1 => by
    rw [crA]
    have ih := crA_zero (t := t) n
    constructor
    · intro h u w u1 uw wn
      by_cases e : w = n + 1
      · subst e
        rw [if_pos (by omega)] at h
        exact (cr1_zero (n + 1)).mp (by omega) u u1 uw
      · exact ih.mp (by omega) u w u1 uw (by omega)
    · intro h
      rw [ih.mpr (fun u w u1 uw wn => h u w u1 uw (by omega))]
      split
      · rw [(cr1_zero (n + 1)).mpr (fun u u1 u2 => h u (n + 1) u1 u2 (Nat.le_refl _))]
      · rfl
theorem treeB_hL {n : Nat} {l : List Nat} (hl : l ∈ allT n) : treeB n (cap n (hL l)) = true ↔ isT n (hL l) := by
  obtain ⟨h1, h2⟩ := allT_mem.mp hl
  rw [treeB_iff]
  refine isT_congr (fun v hv => ?_)
  unfold cap
  by_cases e : v = 0
  · subst e; exact ⟨rfl, Nat.zero_le _⟩
  · have := (h2 v (by omega) hv).1
    rw [if_neg e, if_pos this]; exact ⟨rfl, this⟩
/-- as the reference looks at it -/
theorem admT_ref {n : Nat} {l : List Nat} (hn : 1 ≤ n) (hl : l ∈ allT n) : admT sg pj ch n l ↔ (∀ w, 1 ≤ w → w ≤ n → ch (hL l w) w) ∧ rtC (hL l) n ≠ 0 ∧ (sg → rtC (hL l) n = 1) ∧ treeB n (cap n (hL l)) = true ∧ (pj → crA (hL l) (n + 1) = 0) := by
  obtain ⟨h1, h2⟩ := allT_mem.mp hl
  unfold admT
  rw [treeB_hL hl, crA_zero, ← rtC_one]
  constructor
  · rintro ⟨a, b, c, d⟩
    have hp := rt_pos hn c (fun w w1 w2 => (h2 w w1 w2).1)
    exact ⟨a, hp, fun hs => by have := b hs; omega, c, d⟩
  · rintro ⟨a, b, c, d, e⟩
    exact ⟨a, fun hs => by have := c hs; omega, d, e⟩
end ADM
/-- the heads that the constraints leave to a word -/
def chP (x : SentT) (h w : Nat) : Prop := h ≤ sZ x ∧ h ≠ w ∧ sCo x h w ≠ 2 ∧ ∀ h', h' ≤ sZ x → h' ≠ w → h' ≠ h → sCo x h' w ≠ 1
