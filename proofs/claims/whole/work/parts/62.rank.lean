/-! the ranking, and what the reference adds up -/
def totI (sc : Nat → Nat → Int32) : Nat → Int32 → List Nat → Int32
  | _, a, [] => a
  | w, a, h :: r => totI sc (w + 1) (a + sc h w) r
def scL (sc : Nat → Nat → Int32) (l : List Nat) : Int32 := totI sc 1 0 l
def totW (pt : Nat → Nat → Int32) : Nat → Int64 → List Nat → Int64
  | _, a, [] => a
  | w, a, h :: r => totW pt (w + 1) (a * Int32.toInt64 (pt h w)) r
def wtL (pt : Nat → Nat → Int32) (l : List Nat) : Int64 := totW pt 1 1 l
def insR (sc : Nat → Nat → Int32) (R : List (List Nat)) (l : List Nat) : List (List Nat) := (R.filter (fun r => decide ((scL sc l).toInt ≤ (scL sc r).toInt)) ++ l :: R.filter (fun r => !decide ((scL sc l).toInt ≤ (scL sc r).toInt))).take 6
def rkL (sc : Nat → Nat → Int32) (A : List (List Nat)) : List (List Nat) := A.foldl (insR sc) []
abbrev LOWV : Int32 := -100000000
def bstA (sc : Nat → Nat → Int32) (h w : Nat) (A : List (List Nat)) : Int32 := A.foldl (fun b l => if hL l w = h then (if scL sc l ≤ b then b else scL sc l) else b) LOWV
def wsA (pt : Nat → Nat → Int32) (h w : Nat) (A : List (List Nat)) : Int64 := A.foldl (fun b l => if hL l w = h then b + wtL pt l else b) 0
def wsL (pt : Nat → Nat → Int32) (A : List (List Nat)) : Int64 := A.foldl (fun b l => b + wtL pt l) 0
def othA (sc : Nat → Nat → Int32) (an : List Nat) (A : List (List Nat)) : Int32 := A.foldl (fun b l => if scL sc l ≤ b then b else if l = an then b else scL sc l) LOWV
theorem totI_toInt {sc : Nat → Nat → Int32} (hb : ∀ h w, -2100 ≤ (sc h w).toInt ∧ (sc h w).toInt ≤ 2100) : ∀ (l : List Nat) (w : Nat) (a : Int32), l.length ≤ 7 → -100000 ≤ a.toInt + 2100 * (l.length : Int) - 2 * 2100 * (l.length : Int) → a.toInt + 2100 * (l.length : Int) ≤ 100000 → (totI sc w a l).toInt = a.toInt + tot (fun h w => (sc h w).toInt) w l
  | [], w, a, _, _, _ => by rw [totI, tot]; omega
  | h :: r, w, a, h1, h2, h3 => by
    rw [List.length_cons, Int.natCast_add] at h2 h3
    rw [List.length_cons] at h1
    have hs := hb h w
    have ha : (a + sc h w).toInt = a.toInt + (sc h w).toInt := by
      rw [Int32.toInt_add]
      exact Int.bmod_eq_of_le (by omega) (by omega)
    rw [totI, totI_toInt hb r (w + 1) _ (by omega) (by rw [ha]; omega) (by rw [ha]; omega), ha, tot]
    omega
theorem scL_toInt {sc : Nat → Nat → Int32} (hb : ∀ h w, -2100 ≤ (sc h w).toInt ∧ (sc h w).toInt ≤ 2100) {l : List Nat} (hl : l.length ≤ 7) : (scL sc l).toInt = tot (fun h w => (sc h w).toInt) 1 l := by
  unfold scL
  have := totI_toInt hb l 1 0 hl (by rw [show (0 : Int32).toInt = 0 from rfl]; omega) (by rw [show (0 : Int32).toInt = 0 from rfl]; omega)
  rw [this, show (0 : Int32).toInt = 0 from rfl]; omega
theorem tot_small {v : Nat → Nat → Int} {B : Int} (hB : 0 ≤ B) (hb : ∀ h w, -B ≤ v h w ∧ v h w ≤ B) : ∀ (l : List Nat) (w : Nat), -(B * (l.length : Int)) ≤ tot v w l ∧ tot v w l ≤ B * (l.length : Int)
  | [], w => by simp [tot]
  | h :: r, w => by
    have h1 := tot_small hB hb r (w + 1)
    have h2 := hb h w
    rw [tot, List.length_cons, Int.natCast_add, Int.mul_add]
    have : B * ((1 : Nat) : Int) = B := by simp
    omega
/-! the order of the lists -/
theorem hsF_sorted {n w : Nat} : ∀ (f h : Nat), (hsF n w f h).Pairwise (· < ·) ∧ ∀ a, a ∈ hsF n w f h → h ≤ a
  | 0, h => ⟨by rw [hsF]; exact List.Pairwise.nil, fun a ha => by rw [hsF] at ha; cases ha⟩
  | f + 1, h => by
    rw [hsF]
    split
    · exact ⟨List.Pairwise.nil, fun a ha => by cases ha⟩
    · obtain ⟨h1, h2⟩ := hsF_sorted (n := n) (w := w) f (if h + 1 = w then h + 2 else h + 1)
      refine ⟨List.pairwise_cons.mpr ⟨fun a ha => ?_, h1⟩, fun a ha => ?_⟩
      · have := h2 a ha
        split at this <;> omega
      · rcases List.mem_cons.mp ha with z | z
        · omega
        · have := h2 a z
          split at this <;> omega
theorem seqs_sorted {n : Nat} (hn : n ≤ 6) : ∀ (m w : Nat), 1 ≤ w → w + m ≤ 7 → (seqs n m w).Pairwise (fun a b => cod w a < cod w b)
  | 0, w, _, _ => by rw [seqs]; exact List.pairwise_singleton _ _
  | m + 1, w, hw, hm => by
    have ih := seqs_sorted hn m (w + 1) (by omega) (by omega)
    rw [seqs, List.pairwise_flatMap]
    refine ⟨fun h hh => ?_, ?_⟩
    · rw [List.pairwise_map]
      refine ih.imp (fun hab => ?_)
      rw [cod, cod]; omega
    · refine (hsF_sorted (n := n) (w := w) (n + 1) 0).1.imp_of_mem (fun {a b} ha hb hab => ?_)
      intro x hx y hy
      obtain ⟨x', hx', rfl⟩ := List.mem_map.mp hx
      obtain ⟨y', hy', rfl⟩ := List.mem_map.mp hy
      have hx2 := (seqs_mem m (w + 1) x' (by omega)).mp hx'
      have hc := cod_lt x' (w + 1) (by omega) (by omega) (fun c hc => by
        obtain ⟨i, hi, rfl⟩ := List.mem_iff_getElem.mp hc
        have := (hx2.2 i hi).1; omega)
      rw [show 7 - (w + 1) = 6 - w by omega] at hc
      rw [cod, cod]
      have h3 : (a + 1) * 7 ^ (6 - w) ≤ b * 7 ^ (6 - w) := Nat.mul_le_mul_right _ hab
      rw [Nat.add_mul] at h3
      omega
theorem allT_sorted {n : Nat} (hn : n ≤ 6) : (allT n).Pairwise (fun a b => cod 1 a < cod 1 b) := seqs_sorted hn n 1 (Nat.le_refl _) (by omega)
/-! the ranking holds the greatest ones -/
theorem part_filter {α : Type} (p : α → Bool) : ∀ R : List α, R.Pairwise (fun a b => p b = true → p a = true) → R = R.filter p ++ R.filter (fun r => !p r)
  | [], _ => rfl
  | a :: R, h => by
    obtain ⟨h1, h2⟩ := List.pairwise_cons.mp h
    have ih := part_filter p R h2
    by_cases e : p a = true
    · rw [List.filter_cons, if_pos e, List.filter_cons, if_neg (by rw [e]; decide), List.cons_append, ← ih]
    · have hno : ∀ b, b ∈ R → p b = false := fun b hb => by
        cases hpb : p b
        · rfl
        · exact absurd (h1 b hb hpb) e
      have e1 : R.filter p = [] := List.filter_eq_nil_iff.mpr (fun b hb => by rw [hno b hb]; decide)
      have e' : p a = false := by cases hpa : p a; rfl; exact absurd hpa e
      rw [List.filter_cons, if_neg e, e1, List.filter_cons, if_pos (by rw [e']; rfl), List.nil_append]
      rw [e1, List.nil_append] at ih
      rw [← ih]
section RK
variable {sc : Nat → Nat → Int32}
theorem rk_top (hb : ∀ h w, -2100 ≤ (sc h w).toInt ∧ (sc h w).toInt ≤ 2100) {n : Nat} (hn : n ≤ 6) : ∀ (A D : List (List Nat)), (D ++ A).Pairwise (fun a b => cod 1 a < cod 1 b) → (∀ l, l ∈ D ++ A → l ∈ allT n) → ∀ R, Top 6 (fun x => ∃ l, l ∈ D ∧ x = WT (fun h w => (sc h w).toInt) l) (R.map (WT (fun h w => (sc h w).toInt))) → (∀ r, r ∈ R → r ∈ D) → Top 6 (fun x => ∃ l, l ∈ D ++ A ∧ x = WT (fun h w => (sc h w).toInt) l) ((A.foldl (insR sc) R).map (WT (fun h w => (sc h w).toInt))) ∧ ∀ r, r ∈ A.foldl (insR sc) R → r ∈ D ++ A := by
  intro A
  induction A with
  | nil => intro D h1 h2 R h3 h4; rw [List.append_nil]; exact ⟨h3, h4⟩
  | cons l A ih =>
    intro D h1 h2 R h3 h4
    have e : D ++ l :: A = (D ++ [l]) ++ A := by simp
    rw [List.foldl_cons, e]
    rw [e] at h1 h2
    have hl := h2 l (by simp)
    have hll := all6 hn hl
    have hsl := scL_toInt hb (l := l) (by omega)
    have hcl := WT_code hn hl
    have hcod : ∀ r, r ∈ D → cod 1 r < cod 1 l := fun r hr => by
      have := (List.pairwise_append.mp h1).1
      exact (List.pairwise_append.mp this).2.2 r hr l List.mem_cons_self
    -- compare by the score alone
    have hcmp : ∀ r, r ∈ R → ((scL sc l).toInt ≤ (scL sc r).toInt ↔ WT (fun h w => (sc h w).toInt) l < WT (fun h w => (sc h w).toInt) r) := by
      intro r hr
      have hr2 := h2 r (by have := h4 r hr; simp [this])
      have hrl := all6 hn hr2
      have hsr := scL_toInt hb (l := r) (by omega)
      have hcr := WT_code hn hr2
      have hc := hcod r (h4 r hr)
      rw [WT_eq, WT_eq, hsl, hsr]
      omega
    have hpw := h3.2.1
    rw [List.pairwise_map] at hpw
    have hpart := part_filter (fun r => decide ((scL sc l).toInt ≤ (scL sc r).toInt)) R (hpw.imp_of_mem (fun {a b} ha hb' hab hpb => by
      rw [decide_eq_true_iff] at hpb ⊢
      rw [hcmp b hb'] at hpb
      rw [hcmp a ha]
      omega))
    have h3' : Top 6 (fun x => ∃ l, l ∈ D ∧ x = WT (fun h w => (sc h w).toInt) l) ((R.filter (fun r => decide ((scL sc l).toInt ≤ (scL sc r).toInt))).map (WT (fun h w => (sc h w).toInt)) ++ (R.filter (fun r => !decide ((scL sc l).toInt ≤ (scL sc r).toInt))).map (WT (fun h w => (sc h w).toInt))) := by
      rw [← List.map_append, ← hpart]; exact h3
    have hA : ∀ a, a ∈ (R.filter (fun r => decide ((scL sc l).toInt ≤ (scL sc r).toInt))).map (WT (fun h w => (sc h w).toInt)) → WT (fun h w => (sc h w).toInt) l < a := by
      intro a ha
      obtain ⟨r, hr, rfl⟩ := List.mem_map.mp ha
      obtain ⟨q1, q2⟩ := List.mem_filter.mp hr
      exact (hcmp r q1).mp (by simpa using q2)
    have hB : ∀ a, a ∈ (R.filter (fun r => !decide ((scL sc l).toInt ≤ (scL sc r).toInt))).map (WT (fun h w => (sc h w).toInt)) → a < WT (fun h w => (sc h w).toInt) l := by
      intro a ha
      obtain ⟨r, hr, rfl⟩ := List.mem_map.mp ha
      obtain ⟨q1, q2⟩ := List.mem_filter.mp hr
      have hne : WT (fun h w => (sc h w).toInt) r ≠ WT (fun h w => (sc h w).toInt) l := fun ee => by
        have := WT_inj hn (h2 r (by have := h4 r q1; simp [this])) hl ee
        have hc := hcod r (h4 r q1)
        rw [this] at hc; omega
      have hno : ¬ (scL sc l).toInt ≤ (scL sc r).toInt := by simpa using q2
      rw [hcmp r q1] at hno
      omega
    have hstep : Top 6 (fun x => ∃ l', l' ∈ D ++ [l] ∧ x = WT (fun h w => (sc h w).toInt) l') ((insR sc R l).map (WT (fun h w => (sc h w).toInt))) := by
      have h6 : Top 7 (fun x => (∃ l, l ∈ D ∧ x = WT (fun h w => (sc h w).toInt) l) ∨ x = WT (fun h w => (sc h w).toInt) l) ((R.filter (fun r => decide ((scL sc l).toInt ≤ (scL sc r).toInt))).map (WT (fun h w => (sc h w).toInt)) ++ WT (fun h w => (sc h w).toInt) l :: (R.filter (fun r => !decide ((scL sc l).toInt ≤ (scL sc r).toInt))).map (WT (fun h w => (sc h w).toInt))) ∨ ((R.filter (fun r => decide ((scL sc l).toInt ≤ (scL sc r).toInt))).map (WT (fun h w => (sc h w).toInt)) ++ (R.filter (fun r => !decide ((scL sc l).toInt ≤ (scL sc r).toInt))).map (WT (fun h w => (sc h w).toInt))).length = 6 := by
        by_cases q : ((R.filter (fun r => decide ((scL sc l).toInt ≤ (scL sc r).toInt))).map (WT (fun h w => (sc h w).toInt)) ++ (R.filter (fun r => !decide ((scL sc l).toInt ≤ (scL sc r).toInt))).map (WT (fun h w => (sc h w).toInt))).length = 6
        · exact Or.inr q
        · left
          have hk := Top.ins (k := 6) (by decide) h3' hA hB (fun y => absurd y q)
          have hl6 := h3'.1
          rw [List.take_of_length_le (by rw [List.length_append, List.length_cons]; rw [List.length_append] at q hl6; omega)] at hk
          refine ⟨by have := hk.1; omega, hk.2.1, hk.2.2.1, fun u hu => ?_⟩
          rcases hk.2.2.2 u hu with y | ⟨y1, y2⟩
          · exact Or.inl y
          · -- full with the new one: all others were in already
            rcases hu with hu | hu
            · rcases h3'.2.2.2 u hu with z | ⟨z, _⟩
              · left
                rcases List.mem_append.mp z with z | z
                · exact List.mem_append_left _ z
                · exact List.mem_append_right _ (List.mem_cons_of_mem _ z)
              · exact absurd z q
            · left; rw [hu]; exact List.mem_append_right _ List.mem_cons_self
      have emap : (insR sc R l).map (WT (fun h w => (sc h w).toInt)) = ((R.filter (fun r => decide ((scL sc l).toInt ≤ (scL sc r).toInt))).map (WT (fun h w => (sc h w).toInt)) ++ WT (fun h w => (sc h w).toInt) l :: (R.filter (fun r => !decide ((scL sc l).toInt ≤ (scL sc r).toInt))).map (WT (fun h w => (sc h w).toInt))).take 6 := by
        unfold insR
        rw [List.map_take, List.map_append, List.map_cons]
      rw [emap]
      have hset : ∀ x, ((∃ l, l ∈ D ∧ x = WT (fun h w => (sc h w).toInt) l) ∨ x = WT (fun h w => (sc h w).toInt) l) ↔ ∃ l', l' ∈ D ++ [l] ∧ x = WT (fun h w => (sc h w).toInt) l' := by
        intro x
        constructor
        · rintro (⟨l', y1, y2⟩ | y)
          · exact ⟨l', List.mem_append_left _ y1, y2⟩
          · exact ⟨l, List.mem_append_right _ List.mem_cons_self, y⟩
        · rintro ⟨l', y1, y2⟩
          rcases List.mem_append.mp y1 with y1 | y1
          · exact Or.inl ⟨l', y1, y2⟩
          · rw [List.mem_singleton.mp y1] at y2; exact Or.inr y2
      rcases h6 with h6 | h6
      · exact (h6.take (by decide)).congr hset
      · by_cases q : (R.filter (fun r => !decide ((scL sc l).toInt ≤ (scL sc r).toInt))).map (WT (fun h w => (sc h w).toInt)) = []
        · -- the new one falls off the end
          rw [q, List.append_nil] at h6
          rw [q, List.take_append_of_le_length (by omega), List.take_of_length_le (by omega)]
          have h3'' := h3'
          rw [q, List.append_nil] at h3''
          obtain ⟨m, hm⟩ : ∃ m, m ∈ (R.filter (fun r => decide ((scL sc l).toInt ≤ (scL sc r).toInt))).map (WT (fun h w => (sc h w).toInt)) := List.exists_mem_of_length_pos (by omega)
          refine ⟨h3''.1, h3''.2.1, fun y hy => (hset y).mp (Or.inl (h3''.2.2.1 y hy)), fun y hy => ?_⟩
          rcases (hset y).mpr hy with z | z
          · exact h3''.2.2.2 y z
          · exact Or.inr ⟨h6, fun u hu => by rw [z]; exact hA u hu⟩
        · exact (Top.ins (k := 6) (by decide) h3' hA hB (fun _ => q)).congr hset
    refine ih (D ++ [l]) h1 h2 (insR sc R l) hstep (fun r hr => ?_)
    have := List.mem_of_mem_take hr
    rcases List.mem_append.mp this with z | z
    · exact List.mem_append_left _ (h4 r (List.mem_filter.mp z).1)
    · rcases List.mem_cons.mp z with z | z
      · rw [z]; simp
      · exact List.mem_append_left _ (h4 r (List.mem_filter.mp z).1)
end RK
