/-! sums over forests, as lists -/
abbrev Mon := List (Nat × Nat)
def mulM (A B : List Mon) : List Mon := A.flatMap fun a => B.map fun b => a ++ b
def wsM (n S : Nat) : List Nat := (List.range n).filter (fun i => S.testBit i)
def sbF (S : Nat) : Nat → Nat → List Nat
  | 0, _ => []
  | f + 1, b => if b = 0 then [] else b :: sbF S f ((b - 1) &&& S)
def loB (S : Nat) : Nat := ((List.range 6).find? (fun i => S.testBit i)).getD 0
def subs (S : Nat) : List Nat := (sbF S 64 S).filter (fun b => b.testBit (loB S))
theorem subs_nd : ∀ S, S < 64 → S ≠ 0 → (subs S).Nodup ∧ S.testBit (loB S) = true ∧ loB S < 6 := by decide +kernel
theorem subs_mem : ∀ S, S < 64 → S ≠ 0 → ∀ B, B < 64 → (B ∈ subs S ↔ (B &&& S = B ∧ B.testBit (loB S) = true)) := by decide +kernel
theorem subs_lt : ∀ S, S < 64 → ∀ B, B ∈ subs S → B < 64 ∧ B ≤ S ∧ S ^^^ B < S ∧ B ≠ 0 := by decide +kernel
theorem xor_lt : ∀ S, S < 64 → ∀ i, i < 6 → S.testBit i = true → S ^^^ 2 ^ i < S := by decide +kernel
def brL (n : Nat) (mb : Nat → Bool) (f : Nat → Nat → List Mon) (h S : Nat) : List Mon := if mb S = true then (wsM n S).flatMap (fun i => (f (i + 1) (S ^^^ 2 ^ i)).map (fun m => (h, i + 1) :: m)) else []
def foL (b f : Nat → Nat → List Mon) (h S : Nat) : List Mon := (subs S).flatMap (fun B => mulM (b h B) (f h (S ^^^ B)))
def EQS (n : Nat) (mb : Nat → Bool) (b f : Nat → Nat → List Mon) : Prop := (∀ h, f h 0 = [[]]) ∧ ∀ h S, S ≠ 0 → S < 64 → b h S = brL n mb f h S ∧ f h S = foL b f h S
def tab (n : Nat) (mb : Nat → Bool) : Nat → (Nat → Nat → List Mon) × (Nat → Nat → List Mon)
  | 0 => (fun _ _ => [], fun _ _ => [[]])
  | k + 1 => (fun h S => if S = k + 1 then brL n mb (tab n mb k).2 h S else (tab n mb k).1 h S, fun h S => if S = k + 1 then foL (fun h S => if S = k + 1 then brL n mb (tab n mb k).2 h S else (tab n mb k).1 h S) (tab n mb k).2 h S else (tab n mb k).2 h S)
theorem tab_st (n : Nat) (mb : Nat → Bool) : ∀ k S h, S ≤ k → (tab n mb k).1 h S = (tab n mb S).1 h S ∧ (tab n mb k).2 h S = (tab n mb S).2 h S
  | 0, S, h, hS => by
    have : S = 0 := by omega
    subst this; exact ⟨rfl, rfl⟩
  | k + 1, S, h, hS => by
    by_cases e : S = k + 1
    · subst e; exact ⟨rfl, rfl⟩
    · have ih := tab_st n mb k S h (by omega)
      rw [tab]
      dsimp only
      rw [if_neg e, if_neg e]; exact ih
theorem flat_cong {α β : Type} {L : List α} {f g : α → List β} (h : ∀ x, x ∈ L → f x = g x) : L.flatMap f = L.flatMap g := by
  induction L with
  | nil => rfl
  | cons a L ih => rw [List.flatMap_cons, List.flatMap_cons, h a List.mem_cons_self, ih (fun x hx => h x (List.mem_cons_of_mem _ hx))]
theorem wsM_mem {n S i : Nat} : i ∈ wsM n S ↔ i < n ∧ S.testBit i = true := by
  unfold wsM; rw [List.mem_filter, List.mem_range]
theorem EQS_ex {n : Nat} (hn : n ≤ 6) (mb : Nat → Bool) : ∃ b f, EQS n mb b f := by
  refine ⟨(tab n mb 63).1, (tab n mb 63).2, fun h => by rw [(tab_st n mb 63 0 h (by omega)).2]; rfl, fun h S hS0 hS => ?_⟩
  obtain ⟨k, rfl⟩ : ∃ k, S = k + 1 := ⟨S - 1, by omega⟩
  have h2 : ∀ h S', S' ≤ k → (tab n mb k).2 h S' = (tab n mb 63).2 h S' := fun h S' hS' => by
    rw [(tab_st n mb k S' h hS').2, (tab_st n mb 63 S' h (by omega)).2]
  have hb : (tab n mb 63).1 h (k + 1) = brL n mb (tab n mb 63).2 h (k + 1) := by
    rw [(tab_st n mb 63 (k + 1) h (by omega)).1, tab]
    dsimp only
    rw [if_pos rfl]
    unfold brL
    split
    · refine flat_cong (fun i hi => ?_)
      obtain ⟨i1, i2⟩ := wsM_mem.mp hi
      have := xor_lt (k + 1) hS i (by omega) i2
      rw [h2 _ _ (by omega)]
    · rfl
  refine ⟨hb, ?_⟩
  rw [(tab_st n mb 63 (k + 1) h (by omega)).2, tab]
  dsimp only
  rw [if_pos rfl]
  unfold foL
  refine flat_cong (fun B hB => ?_)
  obtain ⟨_, b1, b2, _⟩ := subs_lt (k + 1) hS B hB
  have e1 : (if B = k + 1 then brL n mb (tab n mb k).2 h B else (tab n mb k).1 h B) = (tab n mb 63).1 h B := by
    rw [(tab_st n mb 63 B h (by omega)).1, ← (tab_st n mb (k + 1) B h b1).1]; rfl
  dsimp only
  rw [e1, h2 _ _ (by omega)]
/-! sums of longs -/
def sm {α : Type} (L : List α) (f : α → Int64) : Int64 := L.foldr (fun x r => f x + r) 0
section SM
variable {α β : Type}
theorem sm_cons {a : α} {L : List α} {f : α → Int64} : sm (a :: L) f = f a + sm L f := rfl
theorem sm_nil {f : α → Int64} : sm [] f = 0 := rfl
theorem sm_app {f : α → Int64} : ∀ (A B : List α), sm (A ++ B) f = sm A f + sm B f
  | [], B => by rw [List.nil_append, sm_nil, Int64.zero_add]
  | a :: A, B => by rw [List.cons_append, sm_cons, sm_cons, sm_app A B, Int64.add_assoc]
theorem sm_map {g : β → α} {f : α → Int64} : ∀ L : List β, sm (L.map g) f = sm L (fun x => f (g x))
  | [] => rfl
  | a :: L => by rw [List.map_cons, sm_cons, sm_cons, sm_map L]
theorem sm_flat {g : β → List α} {f : α → Int64} : ∀ L : List β, sm (L.flatMap g) f = sm L (fun x => sm (g x) f)
  | [] => rfl
  | a :: L => by rw [List.flatMap_cons, sm_app, sm_cons, sm_flat L]
theorem sm_cong {f g : α → Int64} : ∀ {L : List α}, (∀ x, x ∈ L → f x = g x) → sm L f = sm L g
  | [], _ => rfl
  | a :: L, h => by rw [sm_cons, sm_cons, h a List.mem_cons_self, sm_cong (fun x hx => h x (List.mem_cons_of_mem _ hx))]
theorem sm_zero : ∀ L : List α, sm L (fun _ => 0) = 0
  | [] => rfl
  | a :: L => by rw [sm_cons, sm_zero L, Int64.zero_add]
theorem sm_mulr {f : α → Int64} {c : Int64} : ∀ L : List α, sm L (fun x => f x * c) = sm L f * c
  | [] => by rw [sm_nil, sm_nil, Int64.zero_mul]
  | a :: L => by rw [sm_cons, sm_cons, sm_mulr L, Int64.add_mul]
theorem sm_mull {f : α → Int64} {c : Int64} : ∀ L : List α, sm L (fun x => c * f x) = c * sm L f
  | [] => by rw [sm_nil, sm_nil, Int64.mul_zero]
  | a :: L => by rw [sm_cons, sm_cons, sm_mull L, Int64.mul_add]
theorem add4 (a b c d : Int64) : a + b + (c + d) = a + c + (b + d) := by
  rw [Int64.add_assoc, Int64.add_assoc, ← Int64.add_assoc b c d, Int64.add_comm b c, Int64.add_assoc c b d]
theorem sm_add {f g : α → Int64} : ∀ L : List α, sm L (fun x => f x + g x) = sm L f + sm L g
  | [] => by rw [sm_nil, sm_nil, sm_nil, Int64.zero_add]
  | a :: L => by rw [sm_cons, sm_cons, sm_cons, sm_add L, add4]
theorem sm_swap {f : α → β → Int64} (M : List β) : ∀ L : List α, sm L (fun x => sm M (fun y => f x y)) = sm M (fun y => sm L (fun x => f x y))
  | [] => by rw [sm_nil]; exact (sm_zero M).symm
  | a :: L => by
    rw [sm_cons, sm_swap M L, ← sm_add]; rfl
end SM
/-! what a forest weighs -/
def prM (p : Nat → Nat → Int64) : Mon → Int64
  | [] => 1
  | x :: m => p x.1 x.2 * prM p m
def dMo (p : Nat → Nat → Int64) (a : Nat × Nat) : Mon → Int64
  | [] => 0
  | x :: m => (if x = a then p x.1 x.2 * prM p m else 0) + p x.1 x.2 * dMo p a m
section EV
variable {p : Nat → Nat → Int64} {a : Nat × Nat}
theorem prM_app : ∀ (u v : Mon), prM p (u ++ v) = prM p u * prM p v
  | [], v => by rw [List.nil_append, prM, Int64.one_mul]
  | x :: u, v => by rw [List.cons_append, prM, prM, prM_app u v, Int64.mul_assoc]
theorem dM_app : ∀ (u v : Mon), dMo p a (u ++ v) = dMo p a u * prM p v + prM p u * dMo p a v
  | [], v => by rw [List.nil_append, dMo, prM, Int64.zero_mul, Int64.one_mul, Int64.zero_add]
  | x :: u, v => by
    rw [List.cons_append, dMo, dMo, prM, prM_app u v, dM_app u v, Int64.add_mul, Int64.mul_add, Int64.mul_assoc, Int64.mul_assoc, ← Int64.add_assoc]
    split
    · rw [Int64.mul_assoc]
    · rw [Int64.zero_mul]
theorem ev_mul {A B : List Mon} : sm (mulM A B) (prM p) = sm A (prM p) * sm B (prM p) := by
  unfold mulM
  rw [sm_flat, ← sm_mulr]
  refine sm_cong (fun u _ => ?_)
  rw [sm_map, ← sm_mull]
  exact sm_cong (fun v _ => prM_app u v)
theorem de_mul {A B : List Mon} : sm (mulM A B) (dMo p a) = sm A (dMo p a) * sm B (prM p) + sm A (prM p) * sm B (dMo p a) := by
  unfold mulM
  rw [sm_flat, ← sm_mulr, ← sm_mulr, ← sm_add]
  refine sm_cong (fun u _ => ?_)
  rw [sm_map, ← sm_mull, ← sm_mull, ← sm_add]
  exact sm_cong (fun v _ => dM_app u v)
variable {n : Nat} {mb : Nat → Bool} {b f : Nat → Nat → List Mon}
theorem ef_0 (E : EQS n mb b f) (h : Nat) : sm (f h 0) (prM p) = 1 := by
  rw [E.1 h, sm_cons, sm_nil, prM, Int64.add_zero]
theorem df_0 (E : EQS n mb b f) (h : Nat) : sm (f h 0) (dMo p a) = 0 := by
  rw [E.1 h, sm_cons, sm_nil, dMo, Int64.add_zero]
theorem eb_eq (E : EQS n mb b f) {h S : Nat} (h0 : S ≠ 0) (hS : S < 64) : sm (b h S) (prM p) = if mb S = true then sm (wsM n S) (fun i => p h (i + 1) * sm (f (i + 1) (S ^^^ 2 ^ i)) (prM p)) else 0 := by
  rw [(E.2 h S h0 hS).1, brL]
  split
  · rw [sm_flat]
    refine sm_cong (fun i _ => ?_)
    rw [sm_map, ← sm_mull]; rfl
  · rfl
theorem db_eq (E : EQS n mb b f) {h S : Nat} (h0 : S ≠ 0) (hS : S < 64) : sm (b h S) (dMo p a) = if mb S = true then sm (wsM n S) (fun i => (if (h, i + 1) = a then p h (i + 1) * sm (f (i + 1) (S ^^^ 2 ^ i)) (prM p) else 0) + p h (i + 1) * sm (f (i + 1) (S ^^^ 2 ^ i)) (dMo p a)) else 0 := by
  rw [(E.2 h S h0 hS).1, brL]
  split
  · rw [sm_flat]
    refine sm_cong (fun i _ => ?_)
    rw [sm_map]
    by_cases e : (h, i + 1) = a
    · rw [if_pos e, ← sm_mull, ← sm_mull, ← sm_add]
      exact sm_cong (fun m _ => by rw [dMo, if_pos e])
    · rw [if_neg e, Int64.zero_add, ← sm_mull]
      exact sm_cong (fun m _ => by rw [dMo, if_neg e, Int64.zero_add])
  · rfl
theorem ef_eq (E : EQS n mb b f) {h S : Nat} (h0 : S ≠ 0) (hS : S < 64) : sm (f h S) (prM p) = sm (subs S) (fun B => sm (b h B) (prM p) * sm (f h (S ^^^ B)) (prM p)) := by
  rw [(E.2 h S h0 hS).2, foL, sm_flat]
  exact sm_cong (fun B _ => ev_mul)
theorem df_eq (E : EQS n mb b f) {h S : Nat} (h0 : S ≠ 0) (hS : S < 64) : sm (f h S) (dMo p a) = sm (subs S) (fun B => sm (b h B) (dMo p a) * sm (f h (S ^^^ B)) (prM p) + sm (b h B) (prM p) * sm (f h (S ^^^ B)) (dMo p a)) := by
  rw [(E.2 h S h0 hS).2, foL, sm_flat]
  exact sm_cong (fun B _ => de_mul)
end EV
