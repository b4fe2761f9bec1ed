/-! values of trees; the greatest ones -/
def tot (f : Nat → Nat → Int) : Nat → List Nat → Int
  | _, [] => 0
  | w, h :: r => f h w + tot f (w + 1) r
def cod : Nat → List Nat → Nat
  | _, [] => 0
  | w, h :: r => h * 7 ^ (6 - w) + cod (w + 1) r
def vW (v : Nat → Nat → Int) (h w : Nat) : Int := v h w * 117649 - ((h * 7 ^ (6 - w) : Nat) : Int)
theorem tot_app {f : Nat → Nat → Int} : ∀ (p r : List Nat) (w : Nat), tot f w (p ++ r) = tot f w p + tot f (w + p.length) r
  | [], r, w => by simp [tot]
  | h :: p, r, w => by
    rw [List.cons_append, tot, tot, tot_app p r (w + 1), List.length_cons, show w + 1 + p.length = w + (p.length + 1) by omega]; omega
theorem tot_vW {v : Nat → Nat → Int} : ∀ (l : List Nat) (w : Nat), tot (vW v) w l = tot v w l * 117649 - (cod w l : Int)
  | [], w => by simp [tot, cod]
  | h :: r, w => by
    rw [tot, tot, cod, tot_vW r (w + 1), vW, Int.add_mul, Int.natCast_add]; omega
theorem cod_lt : ∀ (l : List Nat) (w : Nat), 1 ≤ w → w + l.length ≤ 7 → (∀ a, a ∈ l → a ≤ 6) → cod w l < 7 ^ (7 - w)
  | [], w, _, _, _ => by rw [cod]; exact Nat.pow_pos (by decide)
  | h :: r, w, hw, hl, ha => by
    rw [List.length_cons] at hl
    have h1 := cod_lt r (w + 1) (by omega) (by omega) (fun a m => ha a (List.mem_cons_of_mem _ m))
    have h2 := ha h List.mem_cons_self
    rw [cod, show 7 - w = (6 - w) + 1 by omega, Nat.pow_succ]
    rw [show 7 - (w + 1) = 6 - w by omega] at h1
    have h3 : h * 7 ^ (6 - w) ≤ 6 * 7 ^ (6 - w) := Nat.mul_le_mul_right _ h2
    omega
theorem cod_inj : ∀ (l l' : List Nat) (w : Nat), 1 ≤ w → w + l.length ≤ 7 → l.length = l'.length → (∀ a, a ∈ l → a ≤ 6) → (∀ a, a ∈ l' → a ≤ 6) → cod w l = cod w l' → l = l'
  | [], l', w, _, _, hl, _, _, _ => (List.eq_nil_of_length_eq_zero hl.symm).symm
  | h :: r, [], w, _, _, hl, _, _, _ => by cases hl
  | h :: r, h' :: r', w, hw, hl, hll, ha, ha', e => by
    rw [List.length_cons] at hl
    rw [List.length_cons, List.length_cons] at hll
    have h1 := cod_lt r (w + 1) (by omega) (by omega) (fun a m => ha a (List.mem_cons_of_mem _ m))
    have h2 := cod_lt r' (w + 1) (by omega) (by omega) (fun a m => ha' a (List.mem_cons_of_mem _ m))
    rw [show 7 - (w + 1) = 6 - w by omega] at h1 h2
    rw [cod, cod] at e
    have hh : h = h' := by
      have e1 : (h * 7 ^ (6 - w) + cod (w + 1) r) / 7 ^ (6 - w) = h := by
        rw [Nat.mul_comm, Nat.mul_add_div (Nat.pow_pos (by decide)), Nat.div_eq_of_lt h1, Nat.add_zero]
      have e2 : (h' * 7 ^ (6 - w) + cod (w + 1) r') / 7 ^ (6 - w) = h' := by
        rw [Nat.mul_comm, Nat.mul_add_div (Nat.pow_pos (by decide)), Nat.div_eq_of_lt h2, Nat.add_zero]
      rw [← e1, ← e2, e]
    subst hh
    rw [cod_inj r r' (w + 1) (by omega) (by omega) (by omega) (fun a m => ha a (List.mem_cons_of_mem _ m)) (fun a m => ha' a (List.mem_cons_of_mem _ m)) (by omega)]
theorem all6 {n : Nat} {l : List Nat} (hn : n ≤ 6) (hl : l ∈ allT n) : l.length = n ∧ ∀ a, a ∈ l → a ≤ 6 := by
  have h := (seqs_mem n 1 l (Nat.le_refl _)).mp hl
  refine ⟨h.1, fun a ha => ?_⟩
  obtain ⟨i, hi, rfl⟩ := List.mem_iff_getElem.mp ha
  have := (h.2 i hi).1
  omega
def WT (v : Nat → Nat → Int) (l : List Nat) : Int := tot (vW v) 1 l
theorem WT_eq {v : Nat → Nat → Int} {l : List Nat} : WT v l = tot v 1 l * 117649 - (cod 1 l : Int) := tot_vW l 1
theorem WT_code {n : Nat} {l : List Nat} (hn : n ≤ 6) (hl : l ∈ allT n) : cod 1 l < 117649 := by
  obtain ⟨h1, h2⟩ := all6 hn hl
  exact cod_lt l 1 (Nat.le_refl _) (by omega) h2
theorem WT_inj {v : Nat → Nat → Int} {n : Nat} {l l' : List Nat} (hn : n ≤ 6) (hl : l ∈ allT n) (hl' : l' ∈ allT n) (e : WT v l = WT v l') : l = l' := by
  have c1 := WT_code hn hl
  have c2 := WT_code hn hl'
  rw [WT_eq, WT_eq] at e
  obtain ⟨h1, h2⟩ := all6 hn hl
  obtain ⟨h3, h4⟩ := all6 hn hl'
  exact cod_inj l l' 1 (Nat.le_refl _) (by omega) (by omega) h2 h4 (by omega)
def Top (k : Nat) (S : Int → Prop) (L : List Int) : Prop := L.length ≤ k ∧ L.Pairwise (· > ·) ∧ (∀ v, v ∈ L → S v) ∧ ∀ v, S v → v ∈ L ∨ (L.length = k ∧ ∀ u, u ∈ L → v < u)
theorem Top.congr {k : Nat} {S S' : Int → Prop} {L : List Int} (h : Top k S L) (e : ∀ v, S v ↔ S' v) : Top k S' L := ⟨h.1, h.2.1, fun v hv => (e v).mp (h.2.2.1 v hv), fun v hv => h.2.2.2 v ((e v).mpr hv)⟩
theorem Top.nil {k : Nat} {S : Int → Prop} (h : ∀ v, ¬ S v) : Top k S [] := ⟨Nat.zero_le _, List.Pairwise.nil, fun v hv => (by cases hv), fun v hv => absurd hv (h v)⟩
theorem Top.uniq : ∀ (k : Nat) (S : Int → Prop) (L L' : List Int), Top k S L → Top k S L' → L = L' := by
  intro k
  induction k with
  | zero => intro S L L' h h'; rw [List.eq_nil_of_length_eq_zero (Nat.le_zero.mp h.1), List.eq_nil_of_length_eq_zero (Nat.le_zero.mp h'.1)]
  | succ k ih =>
    intro S L L' h h'
    cases L with
    | nil =>
      cases L' with
      | nil => rfl
      | cons a' M' =>
        rcases h.2.2.2 a' (h'.2.2.1 a' List.mem_cons_self) with z | ⟨z, _⟩
        · cases z
        · cases z
    | cons a M =>
      have haS := h.2.2.1 a List.mem_cons_self
      obtain ⟨pw1, pw2⟩ := List.pairwise_cons.mp h.2.1
      have hmax : ∀ v, S v → v ≤ a := by
        intro v hv
        rcases h.2.2.2 v hv with z | ⟨_, z⟩
        · rcases List.mem_cons.mp z with z | z
          · omega
          · have := pw1 v z; omega
        · have := z a List.mem_cons_self; omega
      cases L' with
      | nil =>
        rcases h'.2.2.2 a haS with z | ⟨z, _⟩
        · cases z
        · cases z
      | cons a' M' =>
        obtain ⟨pw1', pw2'⟩ := List.pairwise_cons.mp h'.2.1
        have h1 := hmax a' (h'.2.2.1 a' List.mem_cons_self)
        have h2 : a ≤ a' := by
          rcases h'.2.2.2 a haS with z | ⟨_, z⟩
          · rcases List.mem_cons.mp z with z | z
            · omega
            · have := pw1' a z; omega
          · have := z a' List.mem_cons_self; omega
        have e : a = a' := by omega
        subst e
        rw [ih (fun v => S v ∧ v ≠ a) M M' ⟨by have := h.1; rw [List.length_cons] at this; omega, pw2, fun v hv => ⟨h.2.2.1 v (List.mem_cons_of_mem _ hv), by have := pw1 v hv; omega⟩, fun v hv => ?_⟩ ⟨by have := h'.1; rw [List.length_cons] at this; omega, pw2', fun v hv => ⟨h'.2.2.1 v (List.mem_cons_of_mem _ hv), by have := pw1' v hv; omega⟩, fun v hv => ?_⟩]
        · rcases h.2.2.2 v hv.1 with z | ⟨z1, z2⟩
          · rcases List.mem_cons.mp z with z | z
            · exact absurd z hv.2
            · exact Or.inl z
          · exact Or.inr ⟨by rw [List.length_cons] at z1; omega, fun u hu => z2 u (List.mem_cons_of_mem _ hu)⟩
        · rcases h'.2.2.2 v hv.1 with z | ⟨z1, z2⟩
          · rcases List.mem_cons.mp z with z | z
            · exact absurd z hv.2
            · exact Or.inl z
          · exact Or.inr ⟨by rw [List.length_cons] at z1; omega, fun u hu => z2 u (List.mem_cons_of_mem _ hu)⟩
theorem Top.take {k m : Nat} {S : Int → Prop} {L : List Int} (h : Top m S L) (hk : k ≤ m) : Top k S (L.take k) := by
  refine ⟨by rw [List.length_take]; omega, h.2.1.sublist (List.take_sublist _ _), fun v hv => h.2.2.1 v (List.mem_of_mem_take hv), fun v hv => ?_⟩
  rcases h.2.2.2 v hv with z | ⟨z1, z2⟩
  · rw [← List.take_append_drop k L] at z
    rcases List.mem_append.mp z with z | z
    · exact Or.inl z
    · refine Or.inr ⟨?_, fun u hu => ?_⟩
      · rw [List.length_take]
        have : 0 < (L.drop k).length := List.length_pos_of_mem z
        rw [List.length_drop] at this
        omega
      · have := h.2.1
        rw [← List.take_append_drop k L, List.pairwise_append] at this
        exact this.2.2 u hu v z
  · exact Or.inr ⟨by rw [List.length_take]; omega, fun u hu => z2 u (List.mem_of_mem_take hu)⟩
/-- more that is not above the last one -/
theorem Top.skip {k : Nat} {S S2 : Int → Prop} {L : List Int} {m : Int} (h : Top k S L) (hk : L.length = k) (hm : m ∈ L) (hle : ∀ u, u ∈ L → m ≤ u) (h2 : ∀ v, S2 v → v ≤ m) : Top k (fun v => S v ∨ S2 v) L := by
  refine ⟨h.1, h.2.1, fun v hv => Or.inl (h.2.2.1 v hv), fun v hv => ?_⟩
  rcases hv with hv | hv
  · exact h.2.2.2 v hv
  · have := h2 v hv
    by_cases e : v = m
    · rw [e]; exact Or.inl hm
    · exact Or.inr ⟨hk, fun u hu => by have := hle u hu; omega⟩
/-- one more -/
theorem Top.ins {k : Nat} {S : Int → Prop} {A B : List Int} {v : Int} (hk : 1 ≤ k) (h : Top k S (A ++ B)) (hA : ∀ a, a ∈ A → v < a) (hB : ∀ b, b ∈ B → b < v) (hf : (A ++ B).length = k → B ≠ []) : Top k (fun u => S u ∨ u = v) ((A ++ v :: B).take k) := by
  have hpw : (A ++ v :: B).Pairwise (· > ·) := by
    have := h.2.1
    rw [List.pairwise_append] at this ⊢
    refine ⟨this.1, List.pairwise_cons.mpr ⟨hB, this.2.1⟩, fun a ha b hb => ?_⟩
    rcases List.mem_cons.mp hb with z | z
    · rw [z]; exact hA a ha
    · exact this.2.2 a ha b z
  have hlen := h.1
  have h1 : Top (k + 1) (fun u => S u ∨ u = v) (A ++ v :: B) ∨ ∃ u, S u ∧ u ∉ A ++ B := by
    by_cases z : ∃ u, S u ∧ u ∉ A ++ B
    · exact Or.inr z
    · left
      refine ⟨by rw [List.length_append, List.length_cons]; rw [List.length_append] at hlen; omega, hpw, fun u hu => ?_, fun u hu => Or.inl ?_⟩
      · rcases List.mem_append.mp hu with y | y
        · exact Or.inl (h.2.2.1 u (List.mem_append_left _ y))
        · rcases List.mem_cons.mp y with y | y
          · exact Or.inr y
          · exact Or.inl (h.2.2.1 u (List.mem_append_right _ y))
      · rcases hu with hu | hu
        · have : u ∈ A ++ B := Classical.byContradiction (fun y => z ⟨u, hu, y⟩)
          rcases List.mem_append.mp this with y | y
          · exact List.mem_append_left _ y
          · exact List.mem_append_right _ (List.mem_cons_of_mem _ y)
        · rw [hu]; exact List.mem_append_right _ List.mem_cons_self
  rcases h1 with h1 | ⟨u0, hu0, hn0⟩
  · exact h1.take (by omega)
  · -- the list is full
    have hfull : (A ++ B).length = k := by
      rcases h.2.2.2 u0 hu0 with z | ⟨z, _⟩
      · exact absurd z hn0
      · exact z
    have hB0 := hf hfull
    refine ⟨by rw [List.length_take]; omega, hpw.sublist (List.take_sublist _ _), fun u hu => ?_, fun u hu => ?_⟩
    · rcases List.mem_append.mp (List.mem_of_mem_take hu) with y | y
      · exact Or.inl (h.2.2.1 u (List.mem_append_left _ y))
      · rcases List.mem_cons.mp y with y | y
        · exact Or.inr y
        · exact Or.inl (h.2.2.1 u (List.mem_append_right _ y))
    · have hlk : ((A ++ v :: B).take k).length = k := by
        rw [List.length_take, List.length_append, List.length_cons]
        rw [List.length_append] at hfull
        omega
      have hin : ∀ y, y ∈ A ++ v :: B → y ∈ (A ++ v :: B).take k ∨ ∀ z, z ∈ (A ++ v :: B).take k → y < z := by
        intro y hy
        rw [← List.take_append_drop k (A ++ v :: B)] at hy
        rcases List.mem_append.mp hy with z | z
        · exact Or.inl z
        · right
          intro x hx
          have := hpw
          rw [← List.take_append_drop k (A ++ v :: B), List.pairwise_append] at this
          exact this.2.2 x hx y z
      have hcase : u ∈ A ++ v :: B ∨ (u ∉ A ++ v :: B ∧ ∀ y, y ∈ A ++ B → u < y) := by
        rcases hu with hu | hu
        · rcases h.2.2.2 u hu with z | ⟨_, z⟩
          · left
            rcases List.mem_append.mp z with y | y
            · exact List.mem_append_left _ y
            · exact List.mem_append_right _ (List.mem_cons_of_mem _ y)
          · by_cases y : u ∈ A ++ v :: B
            · exact Or.inl y
            · exact Or.inr ⟨y, z⟩
        · left; rw [hu]; exact List.mem_append_right _ List.mem_cons_self
      rcases hcase with hc | ⟨hc1, hc2⟩
      · rcases hin u hc with z | z
        · exact Or.inl z
        · exact Or.inr ⟨hlk, z⟩
      · right
        refine ⟨hlk, fun y hy => ?_⟩
        rcases List.mem_append.mp (List.mem_of_mem_take hy) with z | z
        · exact hc2 y (List.mem_append_left _ z)
        · rcases List.mem_cons.mp z with z | z
          · obtain ⟨b, hb⟩ := List.exists_mem_of_ne_nil B hB0
            have h3 := hc2 b (List.mem_append_right _ hb)
            have h4 := hB b hb
            omega
          · exact hc2 y (List.mem_append_right _ z)
