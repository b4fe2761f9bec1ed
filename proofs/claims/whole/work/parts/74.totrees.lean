/-! from the lists to the trees -/
def wdS (S : Nat) (m : Mon) : Prop := (m.map Prod.snd).Nodup ∧ ∀ w, w ∈ m.map Prod.snd ↔ inS S w
def okM (n : Nat) (t : Nat → Nat) (S h : Nat) (m : Mon) : Prop := wdS S m ∧ (∀ x, x ∈ m → x.1 ≤ n ∧ x.1 ≠ x.2) ∧ (qT t m = true → ∀ v, inS S v → anc t v h)
section MEM
variable {n : Nat} {t : Nat → Nat} {mb : Nat → Bool} {b f : Nat → Nat → List Mon}
theorem memB (hn : n ≤ 6) (E : EQS n mb b f) {S h : Nat} (h0 : S ≠ 0) (hS : S < 2 ^ n) (hh : ¬ inS S h) (hle : h ≤ n) (ih : ∀ S' h, S' < S → ¬ inS S' h → h ≤ n → ∀ m, m ∈ f h S' → okM n t S' h m) : ∀ m, m ∈ b h S → okM n t S h m := by
  intro m hm
  have hS64 := s64 hn hS
  rw [(E.2 h S h0 hS64).1, brL] at hm
  split at hm
  · obtain ⟨i, hi, hm⟩ := List.mem_flatMap.mp hm
    obtain ⟨m', hm', rfl⟩ := List.mem_map.mp hm
    obtain ⟨i1, i2⟩ := wsM_mem.mp hi
    obtain ⟨⟨a1, a2⟩, a3, a4⟩ := ih (S ^^^ 2 ^ i) (i + 1) (xor_lt S hS64 i (by omega) i2) (fun z => ((inS_bit i2).mp z).2 rfl) (by omega) m' hm'
    refine ⟨⟨List.nodup_cons.mpr ⟨fun z => ((inS_bit i2).mp ((a2 _).mp z)).2 rfl, a1⟩, fun w => ?_⟩, fun x hx => ?_, fun q v hv => ?_⟩
    · show w ∈ (i + 1) :: m'.map Prod.snd ↔ _
      rw [List.mem_cons, a2, inS_bit i2]
      constructor
      · rintro (z | z)
        · rw [z]; exact inS_i.mpr i2
        · exact z.1
      · intro z
        by_cases e : w = i + 1
        · exact Or.inl e
        · exact Or.inr ⟨z, e⟩
    · rcases List.mem_cons.mp hx with z | z
      · subst z
        exact ⟨hle, fun (y : h = i + 1) => hh (by rw [y]; exact inS_i.mpr i2)⟩
      · exact a3 x z
    · unfold qT at q
      rw [List.all_cons, Bool.and_eq_true] at q
      have q1 : t (i + 1) = h := by simpa using q.1
      have up : anc t (i + 1) h := q1 ▸ anc_up
      by_cases e : v = i + 1
      · rw [e]; exact up
      · exact anc_tr (a4 q.2 v ((inS_bit i2).mpr ⟨hv, e⟩)) up
  · cases hm
theorem memF (hn : n ≤ 6) (E : EQS n mb b f) {S h : Nat} (h0 : S ≠ 0) (hS : S < 2 ^ n) (hh : ¬ inS S h) (hle : h ≤ n) (ih : ∀ S' h, S' < S → ¬ inS S' h → h ≤ n → ∀ m, m ∈ f h S' → okM n t S' h m) (ihB : ∀ B, B ≠ 0 → B ≤ S → ¬ inS B h → ∀ m, m ∈ b h B → okM n t B h m) : ∀ m, m ∈ f h S → okM n t S h m := by
  intro m hm
  have hS64 := s64 hn hS
  rw [(E.2 h S h0 hS64).2, foL] at hm
  obtain ⟨B, hB, hm⟩ := List.mem_flatMap.mp hm
  obtain ⟨u, hu, hm⟩ := List.mem_flatMap.mp hm
  obtain ⟨v, hv, rfl⟩ := List.mem_map.mp hm
  obtain ⟨b1, b2, b3, b4⟩ := subs_lt S hS64 B hB
  obtain ⟨c1, c2⟩ := (subs_mem S hS64 h0 B b1).mp hB
  obtain ⟨⟨a1, a2⟩, a3, a4⟩ := ihB B b4 b2 (fun z => hh (inS_sub c1 z)) u hu
  obtain ⟨⟨d1, d2⟩, d3, d4⟩ := ih _ _ b3 (fun z => hh ((inS_xor c1).mp z).1) hle v hv
  refine ⟨⟨?_, fun w => ?_⟩, fun x hx => ?_, fun q y hy => ?_⟩
  · rw [List.map_append, List.nodup_append]
    refine ⟨a1, d1, fun x hx y hy e => ?_⟩
    subst e
    exact ((inS_xor c1).mp ((d2 _).mp hy)).2 ((a2 _).mp hx)
  · rw [List.map_append, List.mem_append, a2, d2, inS_xor c1]
    constructor
    · rintro (z | z)
      · exact inS_sub c1 z
      · exact z.1
    · intro z
      by_cases e : inS B w
      · exact Or.inl e
      · exact Or.inr ⟨z, e⟩
  · rcases List.mem_append.mp hx with z | z
    · exact a3 x z
    · exact d3 x z
  · rw [qT_app, Bool.and_eq_true] at q
    by_cases e : inS B y
    · exact a4 q.1 y e
    · exact d4 q.2 y ((inS_xor c1).mpr ⟨hy, e⟩)
theorem no0 (v : Nat) : ¬ inS 0 v := fun hv => by have := hv.2; rw [Nat.zero_testBit] at this; cases this
theorem mem_all (hn : n ≤ 6) (E : EQS n mb b f) : ∀ k S h, S ≤ k → S < 2 ^ n → ¬ inS S h → h ≤ n → (S ≠ 0 → ∀ m, m ∈ b h S → okM n t S h m) ∧ ∀ m, m ∈ f h S → okM n t S h m := by
  intro k
  induction k with
  | zero =>
    intro S h h1 h2 h3 h4
    have : S = 0 := by omega
    subst this
    refine ⟨fun z => absurd rfl z, fun m hm => ?_⟩
    rw [E.1 h] at hm
    rw [List.mem_singleton.mp hm]
    exact ⟨⟨List.nodup_nil, fun w => ⟨fun z => (by cases z), fun z => absurd z (no0 w)⟩⟩, fun x hx => (by cases hx), fun _ v hv => absurd hv (no0 v)⟩
  | succ k ih =>
    intro S h h1 h2 h3 h4
    by_cases e : S ≤ k
    · exact ih S h e h2 h3 h4
    · have h0 : S ≠ 0 := by omega
      have ihF : ∀ S' h, S' < S → ¬ inS S' h → h ≤ n → ∀ m, m ∈ f h S' → okM n t S' h m := fun S' h q q2 q3 => (ih S' h (by omega) (by omega) q2 q3).2
      have hB := memB hn E h0 h2 h3 h4 ihF
      refine ⟨fun _ => hB, memF hn E h0 h2 h3 h4 ihF (fun B b0 bS bh => ?_)⟩
      by_cases e2 : B = S
      · subst e2; exact hB
      · exact (ih B h (by omega) (by omega) bh h4).1 b0
end MEM
/-! one tree for each -/
def hdM : Mon → Nat → Nat
  | [], _ => 0
  | x :: m, w => if x.2 = w then x.1 else hdM m w
theorem hdM_mem : ∀ {m : Mon}, (m.map Prod.snd).Nodup → ∀ x, x ∈ m → hdM m x.2 = x.1
  | [], _, x, hx => by cases hx
  | y :: m, nd, x, hx => by
    rw [List.map_cons, List.nodup_cons] at nd
    rw [hdM]
    rcases List.mem_cons.mp hx with z | z
    · rw [z, if_pos rfl]
    · rw [if_neg (fun (e : y.2 = x.2) => nd.1 (by rw [e]; exact List.mem_map_of_mem z)), hdM_mem nd.2 x z]
theorem inS_full {n w : Nat} : inS (2 ^ n - 1) w ↔ 1 ≤ w ∧ w ≤ n := by
  unfold inS
  rw [Nat.testBit_two_pow_sub_one, decide_eq_true_iff]
  omega
theorem mon_tree {n : Nat} {m : Mon} (wd : wdS (2 ^ n - 1) m) (hd : ∀ x, x ∈ m → x.1 ≤ n ∧ x.1 ≠ x.2) : ∃ l0, l0 ∈ allT n ∧ ∀ l, l ∈ allT n → (qT (hL l) m = true ↔ l = l0) := by
  have hl0 : ∀ w, 1 ≤ w → w ≤ n → hL ((List.range n).map (fun i => hdM m (i + 1))) w = hdM m w := by
    intro w w1 w2
    rw [hL_get w1 (by rw [List.length_map, List.length_range]; exact w2), List.getElem_map, List.getElem_range, show w - 1 + 1 = w by omega]
  have hx : ∀ w, 1 ≤ w → w ≤ n → ∃ x, x ∈ m ∧ x.2 = w := by
    intro w w1 w2
    exact List.mem_map.mp ((wd.2 w).mpr (inS_full.mpr ⟨w1, w2⟩))
  have hw : ∀ x, x ∈ m → 1 ≤ x.2 ∧ x.2 ≤ n := fun x h => inS_full.mp ((wd.2 x.2).mp (List.mem_map_of_mem h))
  refine ⟨(List.range n).map (fun i => hdM m (i + 1)), allT_mem.mpr ⟨by rw [List.length_map, List.length_range], fun w w1 w2 => ?_⟩, fun l hl => ⟨fun q => ?_, fun q => ?_⟩⟩
  · obtain ⟨x, x1, x2⟩ := hx w w1 w2
    rw [hl0 w w1 w2, ← x2, hdM_mem wd.1 x x1]; exact hd x x1
  · refine hL_ext (by rw [(allT_mem.mp hl).1, List.length_map, List.length_range]) (fun w w1 w2 => ?_)
    rw [(allT_mem.mp hl).1] at w2
    obtain ⟨x, x1, x2⟩ := hx w w1 w2
    unfold qT at q
    rw [List.all_eq_true] at q
    have := q x x1
    rw [hl0 w w1 w2, ← x2, hdM_mem wd.1 x x1]
    simpa using this
  · unfold qT
    rw [List.all_eq_true]
    intro x x1
    rw [q, hl0 x.2 (hw x x1).1 (hw x x1).2, hdM_mem wd.1 x x1]
    simp
/-! sums over trees -/
section PICK
variable {α : Type}
theorem sm_pick {q : α → Bool} {c : Int64} : ∀ L : List α, (L.countP q = 0 → sm L (fun x => if q x = true then c else 0) = 0) ∧ (L.countP q = 1 → sm L (fun x => if q x = true then c else 0) = c)
  | [] => ⟨fun _ => rfl, fun h => (by rw [List.countP_nil] at h; cases h)⟩
  | a :: L => by
    have ih := sm_pick (q := q) (c := c) L
    rw [List.countP_cons, sm_cons]
    by_cases e : q a = true
    · rw [if_pos e, if_pos e]
      exact ⟨fun h => (by omega), fun h => by rw [ih.1 (by omega), Int64.add_zero]⟩
    · rw [if_neg e, if_neg e, Nat.add_zero, Int64.zero_add]; exact ih
theorem sm_one {g : List Nat → Int64} {l0 : List Nat} : ∀ {L : List (List Nat)}, L.Nodup → l0 ∈ L → sm L (fun l => if l = l0 then g l else 0) = g l0
  | [], _, h => by cases h
  | a :: L, nd, h => by
    rw [List.nodup_cons] at nd
    rw [sm_cons]
    by_cases e : a = l0
    · rw [if_pos e]
      have : sm L (fun l => if l = l0 then g l else 0) = sm L (fun _ => 0) := sm_cong (fun x hx => if_neg (fun z => nd.1 (by rw [e, ← z]; exact hx)))
      rw [this, sm_zero, Int64.add_zero, e]
    · rw [if_neg e, Int64.zero_add]
      rcases List.mem_cons.mp h with z | z
      · exact absurd z.symm e
      · exact sm_one nd.2 z
theorem sm_filter {Q : α → Bool} {g : α → Int64} : ∀ L : List α, sm (L.filter Q) g = sm L (fun l => if Q l = true then g l else 0)
  | [] => rfl
  | a :: L => by
    rw [sm_cons, List.filter_cons]
    by_cases e : Q a = true
    · rw [if_pos e, if_pos e, sm_cons, sm_filter L]
    · rw [if_neg e, if_neg e, Int64.zero_add, sm_filter L]
end PICK
theorem trees_sum {T : List Mon} {A : List (List Nat)} {Q : List Nat → Bool} {F : Mon → Int64} {G : List Nat → Int64} (nd : A.Nodup) (hm : ∀ m, m ∈ T → ∃ l0, l0 ∈ A ∧ ∀ l, l ∈ A → (qT (hL l) m = true ↔ l = l0)) (hc : ∀ l, l ∈ A → (Q l = true → T.countP (qT (hL l)) = 1) ∧ (¬ Q l = true → T.countP (qT (hL l)) = 0)) (fg : ∀ m, m ∈ T → ∀ l, l ∈ A → qT (hL l) m = true → F m = G l) : sm T F = sm (A.filter Q) G := by
  have e1 : sm T F = sm T (fun m => sm A (fun l => if qT (hL l) m = true then G l else 0)) := by
    refine sm_cong (fun m h => ?_)
    obtain ⟨l0, a1, a2⟩ := hm m h
    rw [sm_cong (g := fun l => if l = l0 then G l else 0) (fun l hl => by
      by_cases e : l = l0
      · rw [if_pos e, if_pos ((a2 l hl).mpr e)]
      · rw [if_neg e, if_neg (fun z => e ((a2 l hl).mp z))]), sm_one nd a1]
    exact fg m h l0 a1 ((a2 l0 a1).mpr rfl)
  rw [e1, sm_swap A T, sm_filter]
  refine sm_cong (fun l hl => ?_)
  by_cases e : Q l = true
  · rw [if_pos e]; exact (sm_pick T).2 ((hc l hl).1 e)
  · rw [if_neg e]; exact (sm_pick T).1 ((hc l hl).2 e)
/-! the weight of a tree -/
def prW (p : Nat → Nat → Int64) (t : Nat → Nat) : List Nat → Int64
  | [] => 1
  | w :: r => p (t w) w * prW p t r
section WGT
variable {p : Nat → Nat → Int64} {t : Nat → Nat}
theorem prW_perm {a b : List Nat} (h : a.Perm b) : prW p t a = prW p t b := by
  induction h with
  | nil => rfl
  | cons x _ ih => rw [prW, prW, ih]
  | swap x y l => rw [prW, prW, prW, prW, ← Int64.mul_assoc, ← Int64.mul_assoc, Int64.mul_comm (p (t y) y)]
  | trans _ _ h1 h2 => rw [h1, h2]
theorem prM_prW : ∀ {m : Mon}, qT t m = true → prM p m = prW p t (m.map Prod.snd)
  | [], _ => rfl
  | x :: m, q => by
    unfold qT at q
    rw [List.all_cons, Bool.and_eq_true] at q
    have q1 : t x.2 = x.1 := by simpa using q.1
    rw [prM, List.map_cons, prW, q1, prM_prW (show qT t m = true from q.2)]
theorem prM_tree {n : Nat} {m : Mon} (wd : wdS (2 ^ n - 1) m) (q : qT t m = true) : prM p m = prW p t (List.range' 1 n) := by
  rw [prM_prW q]
  refine prW_perm ((List.perm_ext_iff_of_nodup wd.1 (List.nodup_range' ..)).mpr (fun w => ?_))
  rw [wd.2, inS_full, List.mem_range'_1]
  omega
theorem dMo_in {a : Nat × Nat} : ∀ {m : Mon}, (m.map Prod.snd).Nodup → (a ∈ m → dMo p a m = prM p m) ∧ (a ∉ m → dMo p a m = 0)
  | [], _ => ⟨fun h => (by cases h), fun _ => rfl⟩
  | x :: m, nd => by
    rw [List.map_cons, List.nodup_cons] at nd
    have ih := dMo_in (a := a) nd.2
    rw [dMo, prM]
    by_cases e : x = a
    · have : a ∉ m := fun z => nd.1 (e ▸ List.mem_map_of_mem z)
      rw [if_pos e, ih.2 this, Int64.mul_zero, Int64.add_zero]
      exact ⟨fun _ => rfl, fun h => absurd (e ▸ List.mem_cons_self) h⟩
    · rw [if_neg e, Int64.zero_add]
      refine ⟨fun h => ?_, fun h => ?_⟩
      · rcases List.mem_cons.mp h with z | z
        · exact absurd z.symm e
        · rw [ih.1 z]
      · rw [ih.2 (fun z => h (List.mem_cons_of_mem _ z)), Int64.mul_zero]
theorem dMo_tree {n h w : Nat} {m : Mon} (w1 : 1 ≤ w) (w2 : w ≤ n) (wd : wdS (2 ^ n - 1) m) (q : qT t m = true) : dMo p (h, w) m = if t w = h then prW p t (List.range' 1 n) else 0 := by
  have hq : ∀ x, x ∈ m → t x.2 = x.1 := by
    intro x hx
    unfold qT at q
    rw [List.all_eq_true] at q
    simpa using q x hx
  by_cases e : t w = h
  · rw [if_pos e, ← prM_tree wd q]
    refine (dMo_in wd.1).1 ?_
    obtain ⟨x, x1, x2⟩ := List.mem_map.mp ((wd.2 w).mpr (inS_full.mpr ⟨w1, w2⟩))
    have := hq x x1
    rw [x2, e] at this
    have : x = (h, w) := Prod.ext this.symm x2
    exact this ▸ x1
  · rw [if_neg e]
    exact (dMo_in wd.1).2 (fun z => e (hq _ z))
end WGT
