/-! which forests stand in the lists -/
def inS (S w : Nat) : Prop := 1 ≤ w ∧ S.testBit (w - 1) = true
def anc (t : Nat → Nat) (u v : Nat) : Prop := ∃ k, itN t k u = v
def HT (n : Nat) (t : Nat → Nat) : Prop := t 0 = 0 ∧ isT n t
section ANC
variable {n : Nat} {t : Nat → Nat} {u v w h : Nat}
theorem anc_rf : anc t u u := ⟨0, rfl⟩
theorem anc_tr (h1 : anc t u v) (h2 : anc t v w) : anc t u w := by
  obtain ⟨k, hk⟩ := h1
  obtain ⟨j, hj⟩ := h2
  exact ⟨j + k, by rw [itN_add, hk, hj]⟩
theorem anc_up : anc t u (t u) := ⟨1, rfl⟩
theorem anc_st (h1 : anc t u v) (hne : u ≠ v) : anc t (t u) v := by
  obtain ⟨k, hk⟩ := h1
  cases k with
  | zero => exact absurd hk hne
  | succ k => exact ⟨k, hk⟩
theorem anc_ln (h1 : anc t u v) (h2 : anc t u w) : anc t v w ∨ anc t w v := by
  obtain ⟨k, hk⟩ := h1
  obtain ⟨j, hj⟩ := h2
  rcases Nat.le_total k j with q | q
  · exact Or.inl ⟨j - k, by rw [← hk, ← itN_add, show j - k + k = j by omega]; exact hj⟩
  · exact Or.inr ⟨k - j, by rw [← hj, ← itN_add, show k - j + j = k by omega]; exact hk⟩
theorem anc_as (H : HT n t) (hu : u ≤ n) (h1 : anc t u v) (h2 : anc t v u) : u = v := by
  obtain ⟨k, hk⟩ := h1
  obtain ⟨j, hj⟩ := h2
  rcases Nat.eq_zero_or_pos k with e | e
  · subst e; exact hk
  · have hp : ∀ m, itN t (m * (j + k)) u = u := by
      intro m
      induction m with
      | zero => rw [Nat.zero_mul]; rfl
      | succ m ih => rw [Nat.succ_mul, itN_add, itN_add t j k, hk, hj, ih]
    have hu0 : u = 0 := by
      rcases Nat.eq_zero_or_pos u with z | z
      · exact z
      · have h3 := hp n
        obtain ⟨d, hd⟩ : ∃ d, j + k = d + 1 := ⟨j + k - 1, by omega⟩
        rw [hd, Nat.mul_add, Nat.mul_one, itN_add, H.2 u z hu, itN_0 H.1] at h3
        exact h3.symm
    subst hu0
    rw [itN_0 H.1] at hk
    exact hk
theorem uc_anc (H : HT n t) {A : Nat → Prop} (hA : ∀ v, A v → 1 ≤ v ∧ v ≤ n) (hU : ∀ v, A v → t v = h ∨ A (t v)) : ∀ v, A v → ∃ w, A w ∧ anc t v w ∧ t w = h := by
  have key : ∀ k v, A v → itN t k v = 0 → ∃ w, A w ∧ anc t v w ∧ t w = h := by
    intro k
    induction k with
    | zero => intro v hv e; have := (hA v hv).1; have e2 : v = 0 := e; omega
    | succ k ih =>
      intro v hv e
      rcases hU v hv with q | q
      · exact ⟨v, hv, anc_rf, q⟩
      · obtain ⟨w, h1, h2, h3⟩ := ih (t v) q e
        exact ⟨w, h1, anc_tr anc_up h2, h3⟩
  intro v hv
  exact key n v hv (H.2 v (hA v hv).1 (hA v hv).2)
theorem uc_h (H : HT n t) {A : Nat → Prop} (hA : ∀ v, A v → 1 ≤ v ∧ v ≤ n) (hU : ∀ v, A v → t v = h ∨ A (t v)) (hv : A v) : anc t v h := by
  obtain ⟨w, _, h2, h3⟩ := uc_anc H hA hU v hv
  exact anc_tr h2 (h3 ▸ anc_up)
theorem uc_in {A : Nat → Prop} (hU : ∀ v, A v → t v = h ∨ A (t v)) {x : Nat} (hv : A v) (ha : anc t v x) : A x ∨ anc t h x := by
  have key : ∀ k v, A v → A (itN t k v) ∨ anc t h (itN t k v) := by
    intro k
    induction k with
    | zero => intro v hv; exact Or.inl hv
    | succ k ih =>
      intro v hv
      rcases hU v hv with q | q
      · exact Or.inr ⟨k, by rw [itN, q]⟩
      · exact ih (t v) q
  obtain ⟨k, rfl⟩ := ha
  exact key k v hv
theorem uc_sep (H : HT n t) {X Y : Nat → Prop} (hX1 : ∀ v, X v → 1 ≤ v ∧ v ≤ n) (hX : ∀ v, X v → t v = h ∨ X (t v)) (hY : ∀ v, Y v → t v = h ∨ Y (t v)) (hd : ¬ Y v) (hh : ¬ X h) (hv : X v) (hu : Y u) (ha : anc t u v) : False := by
  rcases uc_in hY hu ha with q | q
  · exact hd q
  · have := anc_as H (hX1 v hv).2 (uc_h H hX1 hX hv) q
    exact hh (this ▸ hv)
end ANC
section MASK
variable {S B v w i n : Nat}
theorem inS_le (h : S < 2 ^ n) (hw : inS S w) : w ≤ n := by
  apply Classical.byContradiction
  intro q
  have h2 : S < 2 ^ (w - 1) := Nat.lt_of_lt_of_le h (Nat.pow_le_pow_right (by decide) (by omega))
  have := Nat.testBit_lt_two_pow h2
  rw [hw.2] at this; cases this
theorem inS_i : inS S (i + 1) ↔ S.testBit i = true := by
  unfold inS; rw [Nat.add_sub_cancel]; exact ⟨fun h => h.2, fun h => ⟨by omega, h⟩⟩
theorem inS_bit (hi : S.testBit i = true) : inS (S ^^^ 2 ^ i) v ↔ inS S v ∧ v ≠ i + 1 := by
  cases v with
  | zero => exact ⟨fun h => absurd h.1 (by omega), fun h => absurd h.1.1 (by omega)⟩
  | succ j =>
    rw [inS_i, inS_i, Nat.testBit_xor, Nat.testBit_two_pow]
    by_cases e : i = j
    · subst e; rw [hi]; simp
    · have : j + 1 ≠ i + 1 := by omega
      simp [e]; intro _ z; exact e z.symm
theorem inS_sub (hB : B &&& S = B) (h : inS B v) : inS S v := by
  refine ⟨h.1, ?_⟩
  have := h.2
  rw [← hB, Nat.testBit_and] at this
  exact (Bool.and_eq_true_iff.mp this).2
theorem inS_xor (hB : B &&& S = B) : inS (S ^^^ B) v ↔ inS S v ∧ ¬ inS B v := by
  have h1 : B.testBit (v - 1) = true → S.testBit (v - 1) = true := by
    intro h
    rw [← hB, Nat.testBit_and] at h
    exact (Bool.and_eq_true_iff.mp h).2
  unfold inS
  rw [Nat.testBit_xor]
  cases e1 : B.testBit (v - 1) <;> cases e2 : S.testBit (v - 1)
  · simp
  · simp
  · rw [e1, e2] at h1; exact absurd (h1 rfl) (by decide)
  · simp; intro z; omega
theorem inS_ext {A B : Nat} (h : ∀ w, inS A w ↔ inS B w) : A = B := by
  refine Nat.eq_of_testBit_eq (fun i => ?_)
  have := h (i + 1)
  rw [inS_i, inS_i] at this
  exact Bool.eq_iff_iff.mpr this
theorem inS_mk (q : Nat → Prop) : ∀ n, ∃ M, M < 2 ^ n ∧ ∀ w, inS M w ↔ 1 ≤ w ∧ w ≤ n ∧ q w
  | 0 => ⟨0, by decide, fun w => ⟨fun h => (by have := h.2; rw [Nat.zero_testBit] at this; cases this), fun h => (by omega)⟩⟩
  | n + 1 => by
    obtain ⟨M, h1, h2⟩ := inS_mk q n
    have hl : M < 2 ^ (n + 1) := Nat.lt_of_lt_of_le h1 (Nat.pow_le_pow_right (by decide) (by omega))
    by_cases e : q (n + 1)
    · refine ⟨M ||| 2 ^ n, Nat.or_lt_two_pow hl (Nat.pow_lt_pow_right (by decide) (by omega)), fun w => ?_⟩
      have h3 := h2 w
      unfold inS at h3 ⊢
      rw [Nat.testBit_or, Nat.testBit_two_pow, Bool.or_eq_true]
      constructor
      · rintro ⟨a, c | c⟩
        · have := h3.mp ⟨a, c⟩; exact ⟨this.1, by omega, this.2.2⟩
        · have c := of_decide_eq_true c
          have : w = n + 1 := by omega
          subst this; exact ⟨a, by omega, e⟩
      · rintro ⟨a, c, d⟩
        refine ⟨a, ?_⟩
        by_cases z : w = n + 1
        · exact Or.inr (decide_eq_true (by omega))
        · exact Or.inl (h3.mpr ⟨a, by omega, d⟩).2
    · refine ⟨M, hl, fun w => ?_⟩
      rw [h2 w]
      constructor
      · rintro ⟨a, c, d⟩; exact ⟨a, by omega, d⟩
      · rintro ⟨a, c, d⟩
        have : w ≠ n + 1 := fun z => e (z ▸ d)
        exact ⟨a, by omega, d⟩
end MASK
def qT (t : Nat → Nat) (m : Mon) : Bool := m.all (fun x => t x.2 == x.1)
section CNT
variable {t : Nat → Nat}
theorem qT_app {u v : Mon} : qT t (u ++ v) = (qT t u && qT t v) := List.all_append
theorem cnt_cons {h w : Nat} : ∀ {L : List Mon}, (L.map (fun m => (h, w) :: m)).countP (qT t) = if t w = h then L.countP (qT t) else 0
  | [] => by rw [List.map_nil, List.countP_nil, ite_self]
  | m :: L => by
    rw [List.map_cons, List.countP_cons, List.countP_cons, cnt_cons (L := L)]
    by_cases e : t w = h
    · have : qT t ((h, w) :: m) = qT t m := by unfold qT; rw [List.all_cons]; simp [e]
      rw [if_pos e, if_pos e, this]
    · have : qT t ((h, w) :: m) = false := by unfold qT; rw [List.all_cons]; simp [e]
      rw [if_neg e, if_neg e, this]; rfl
theorem cnt_app {u : Mon} : ∀ {L : List Mon}, (L.map (fun v => u ++ v)).countP (qT t) = if qT t u = true then L.countP (qT t) else 0
  | [] => by rw [List.map_nil, List.countP_nil, ite_self]
  | m :: L => by
    rw [List.map_cons, List.countP_cons, List.countP_cons, cnt_app (L := L), qT_app]
    by_cases e : qT t u = true
    · rw [if_pos e, if_pos e, e, Bool.true_and]
    · rw [if_neg e, if_neg e, Bool.eq_false_iff.mpr e, Bool.false_and]; rfl
theorem cnt_mul {B : List Mon} : ∀ {A : List Mon}, (mulM A B).countP (qT t) = A.countP (qT t) * B.countP (qT t)
  | [] => by rw [mulM, List.flatMap_nil, List.countP_nil, Nat.zero_mul]
  | u :: A => by
    have ih := cnt_mul (A := A) (B := B)
    unfold mulM at ih ⊢
    rw [List.flatMap_cons, List.countP_append, ih, cnt_app, List.countP_cons, Nat.add_mul]
    by_cases e : qT t u = true
    · rw [if_pos e, if_pos e, Nat.one_mul, Nat.add_comm]
    · rw [if_neg e, if_neg e, Nat.zero_mul, Nat.add_comm]
theorem cnt_flat {α β : Type} {q : β → Bool} {g : α → List β} : ∀ {L : List α}, (L.flatMap g).countP q = (L.map (fun x => (g x).countP q)).sum
  | [] => rfl
  | a :: L => by rw [List.flatMap_cons, List.countP_append, List.map_cons, List.sum_cons, cnt_flat (L := L)]
theorem sum01 {g : Nat → Nat} {P : Nat → Prop} : ∀ {L : List Nat}, L.Nodup → (∀ x, x ∈ L → P x → g x = 1) → (∀ x, x ∈ L → ¬ P x → g x = 0) → (∀ x y, x ∈ L → y ∈ L → P x → P y → x = y) → ((∃ x, x ∈ L ∧ P x) → (L.map g).sum = 1) ∧ ((¬ ∃ x, x ∈ L ∧ P x) → (L.map g).sum = 0)
  | [], _, _, _, _ => ⟨fun ⟨x, hx, _⟩ => (by cases hx), fun _ => rfl⟩
  | a :: L, nd, h1, h0, hu => by
    have nd2 := List.nodup_cons.mp nd
    have ih := sum01 nd2.2 (fun x hx => h1 x (List.mem_cons_of_mem _ hx)) (fun x hx => h0 x (List.mem_cons_of_mem _ hx)) (fun x y hx hy => hu x y (List.mem_cons_of_mem _ hx) (List.mem_cons_of_mem _ hy))
    rw [List.map_cons, List.sum_cons]
    by_cases e : P a
    · have : ¬ ∃ x, x ∈ L ∧ P x := by
        rintro ⟨x, hx, hp⟩
        have := hu x a (List.mem_cons_of_mem _ hx) List.mem_cons_self hp e
        exact nd2.1 (this ▸ hx)
      rw [h1 a List.mem_cons_self e, ih.2 this]
      exact ⟨fun _ => rfl, fun z => absurd ⟨a, List.mem_cons_self, e⟩ z⟩
    · rw [h0 a List.mem_cons_self e, Nat.zero_add]
      constructor
      · rintro ⟨x, hx, hp⟩
        rcases List.mem_cons.mp hx with z | z
        · exact absurd (z ▸ hp) e
        · exact ih.1 ⟨x, z, hp⟩
      · intro z
        exact ih.2 (fun ⟨x, hx, hp⟩ => z ⟨x, List.mem_cons_of_mem _ hx, hp⟩)
end CNT
