/-! THE FLAT STORE. Behind the constructors no cell is made: 230 cells, each with a number (its place in the order of making), a kind and a length; what they hold is three functions: ints by cell and place, longs by cell and place, and which sentences the places of the array "stored" hold. All other references stand still. -/
abbrev St : Type := (Nat → Nat → Int32) × (Nat → Nat → Int64) × (Nat → Nat)
def up2 {α : Type} (f : Nat → Nat → α) (a i : Nat) (v : α) : Nat → Nat → α := fun b j => if b = a ∧ j = i then v else f b j
def wI (σ : St) (a i : Nat) (v : Int32) : St := (up2 σ.1 a i v, σ.2)
def wL (σ : St) (a i : Nat) (v : Int64) : St := (σ.1, up2 σ.2.1 a i v, σ.2.2)
def wS (σ : St) (i v : Nat) : St := (σ.1, σ.2.1, fun j => if j = i then v else σ.2.2 j)
/-- an int array taken over from another, n places from place 0 on -/
def wC (σ : St) (a b n : Nat) : St := (fun c j => if c = a ∧ j < n then σ.1 b j else σ.1 c j, σ.2)
abbrev NC : Nat := 230
def shpL : List (Nat × Nat) := [(7, 10), (2, 3), (10, 100), (10, 7), (15, 4), (0, 5), (10, 7), (10, 7), (13, 7), (10, 7), (10, 7), (10, 7), (10, 7), (10, 7), (10, 7), (10, 7), (13, 7), (10, 7), (10, 7), (10, 7), (10, 7), (10, 7), (10, 7), (10, 7), (0, 5), (10, 7), (10, 7), (13, 7), (10, 7), (10, 7), (10, 7), (10, 7), (10, 7), (10, 7), (10, 7), (13, 7), (10, 7), (10, 7), (10, 7), (10, 7), (10, 7), (10, 7), (10, 7), (0, 5), (10, 7), (10, 7), (13, 7), (10, 7), (10, 7), (10, 7), (10, 7), (10, 7), (10, 7), (10, 7), (13, 7), (10, 7), (10, 7), (10, 7), (10, 7), (10, 7), (10, 7), (10, 7), (0, 5), (10, 7), (10, 7), (13, 7), (10, 7), (10, 7), (10, 7), (10, 7), (10, 7), (10, 7), (10, 7), (13, 7), (10, 7), (10, 7), (10, 7), (10, 7), (10, 7), (10, 7), (10, 7), (6, 2), (13, 9), (10, 8), (10, 8), (10, 8), (10, 8), (10, 8), (10, 8), (10, 8), (10, 8), (10, 8), (13, 2), (10, 7), (10, 7), (16, 2), (6, 2), (13, 9), (10, 8), (10, 8), (10, 8), (10, 8), (10, 8), (10, 8), (10, 8), (10, 8), (10, 8), (13, 2), (10, 7), (10, 7), (6, 2), (13, 9), (10, 8), (10, 8), (10, 8), (10, 8), (10, 8), (10, 8), (10, 8), (10, 8), (10, 8), (13, 2), (10, 7), (10, 7), (11, 2), (1, 3), (4, 10), (14, 7), (12, 7), (12, 7), (12, 7), (12, 7), (12, 7), (12, 7), (12, 7), (13, 7), (10, 7), (10, 7), (10, 7), (10, 7), (10, 7), (10, 7), (10, 7), (10, 7), (12, 8), (10, 7), (12, 6), (5, 8), (14, 7), (12, 7), (12, 7), (12, 7), (12, 7), (12, 7), (12, 7), (12, 7), (14, 7), (12, 64), (12, 64), (12, 64), (12, 64), (12, 64), (12, 64), (12, 64), (14, 7), (12, 64), (12, 64), (12, 64), (12, 64), (12, 64), (12, 64), (12, 64), (14, 7), (12, 64), (12, 64), (12, 64), (12, 64), (12, 64), (12, 64), (12, 64), (14, 7), (12, 64), (12, 64), (12, 64), (12, 64), (12, 64), (12, 64), (12, 64), (14, 7), (12, 7), (12, 7), (12, 7), (12, 7), (12, 7), (12, 7), (12, 7), (3, 12), (10, 7), (10, 7), (10, 7), (10, 64), (10, 7), (10, 7), (11, 7), (8, 40), (10, 100), (10, 4), (10, 28), (10, 28), (10, 196), (10, 196), (10, 84), (10, 168), (11, 2), (10, 50), (10, 50), (10, 7), (10, 49), (10, 49), (10, 7), (10, 7), (10, 49), (10, 49), (12, 49), (10, 7), (10, 7), (10, 7), (10, 200), (10, 8), (10, 8)]
def kd (k : Nat) : Nat := (shpL.getD k (99, 0)).1
def ln (k : Nat) : Nat := (shpL.getD k (99, 0)).2
def ftL : List (List Nat) := [[0, 2, 2, 2, 2], [0, 0, 0], [2, 0, 2], [0, 2, 2, 0, 2, 2, 0, 2, 0, 2, 0, 2], [2, 0, 2, 2, 2, 2, 2, 2, 0, 0], [2, 0, 2, 2, 2, 2, 2, 2], [2, 2], [2, 2, 0, 2, 2, 2, 2, 2, 2, 2], [2, 0, 0, 2, 2, 2, 2, 2, 2, 2, 2, 0, 0, 0, 0, 2, 2, 2, 2, 2, 2, 0, 2, 2, 0, 1, 2, 2, 0, 1, 2, 2, 2, 0, 2, 2, 0, 2, 0, 0]]
def ftk (ci j : Nat) : Nat := (ftL.getD ci []).getD j 0
def layT : List (List Nat) := [[1, 4, 0, 81, 95, 124, 125, 126, 147, 196], [2, 0, 3], [], [], [], [0, 6, 7, 8, 16], [], [], [9, 10, 11, 12, 13, 14, 15], [], [], [], [], [], [], [], [17, 18, 19, 20, 21, 22, 23], [], [], [], [], [], [], [], [0, 25, 26, 27, 35], [], [], [28, 29, 30, 31, 32, 33, 34], [], [], [], [], [], [], [], [36, 37, 38, 39, 40, 41, 42], [], [], [], [], [], [], [], [0, 44, 45, 46, 54], [], [], [47, 48, 49, 50, 51, 52, 53], [], [], [], [], [], [], [], [55, 56, 57, 58, 59, 60, 61], [], [], [], [], [], [], [], [0, 63, 64, 65, 73], [], [], [66, 67, 68, 69, 70, 71, 72], [], [], [], [], [], [], [], [74, 75, 76, 77, 78, 79, 80], [], [], [], [], [], [], [], [82, 92], [83, 84, 85, 86, 87, 88, 89, 90, 91], [], [], [], [], [], [], [], [], [], [93, 94], [], [], [96, 110], [97, 107], [98, 99, 100, 101, 102, 103, 104, 105, 106], [], [], [], [], [], [], [], [], [], [108, 109], [], [], [111, 121], [112, 113, 114, 115, 116, 117, 118, 119, 120], [], [], [], [], [], [], [], [], [], [122, 123], [], [], [], [], [125, 0, 127, 135, 143, 144, 145, 146], [128, 129, 130, 131, 132, 133, 134], [], [], [], [], [], [], [], [136, 137, 138, 139, 140, 141, 142], [], [], [], [], [], [], [], [], [], [], [], [125, 0, 148, 156, 164, 172, 180, 188], [149, 150, 151, 152, 153, 154, 155], [], [], [], [], [], [], [], [157, 158, 159, 160, 161, 162, 163], [], [], [], [], [], [], [], [165, 166, 167, 168, 169, 170, 171], [], [], [], [], [], [], [], [173, 174, 175, 176, 177, 178, 179], [], [], [], [], [], [], [], [181, 182, 183, 184, 185, 186, 187], [], [], [], [], [], [], [], [189, 190, 191, 192, 193, 194, 195], [], [], [], [], [], [], [], [0, 197, 198, 0, 199, 200, 0, 201, 0, 202, 0, 203], [], [], [], [], [], [], [], [205, 0, 0, 206, 207, 208, 209, 210, 211, 212, 213, 0, 0, 0, 0, 214, 215, 216, 217, 218, 219, 0, 220, 221, 0, 0, 222, 223, 0, 0, 224, 225, 226, 0, 227, 228, 0, 229], [], [], [], [], [], [], [], [], [], [], [], [], [], [], [], [], [], [], [], [], [], [], [], [], []]
def lay (k j : Nat) : Nat := (layT.getD k []).getD j 0
def mrN (sp : Nat → Nat) (k j : Nat) : Nat := if k = 4 then sp j else lay k j
def fv (ad : Nat → Nat) (ci : Nat) (f : Nat → Int32) (g : Nat → Int64) (r : Nat → Nat) (j : Nat) : Value := if ftk ci j = 0 then .int (f j) else if ftk ci j = 1 then .long (g j) else .ref (ad (r j))
def fvs (ad : Nat → Nat) (ci n : Nat) (f : Nat → Int32) (g : Nat → Int64) (r : Nat → Nat) : List Value := (List.range n).map (fv ad ci f g r)
def cellN (ad : Nat → Nat) (ca : Nat → ClassId) (σ : St) (k : Nat) : va_E :=
  if kd k < 10 then .inr (kd k, fvs ad (kd k) (ln k) (σ.1 k) (σ.2.1 k) (mrN σ.2.2 k))
  else if kd k = 10 then .inl (ca 0, ln k, .inl (σ.1 k))
  else if kd k = 11 then .inl (ca 1, ln k, .inl (σ.1 k))
  else if kd k = 12 then .inl (ca 2, ln k, .inr (.inl (σ.2.1 k)))
  else .inl (ca (kd k - 10), ln k, .inr (.inr (.inr (.inr (fun j => some (ad (mrN σ.2.2 k j)))))))
def wsN (ad : Nat → Nat) (ca : Nat → ClassId) (σ : St) : va_W := (List.range NC).map (fun k => (ad k, cellN ad ca σ k))
theorem wsN_at {ad : Nat → Nat} {ca : Nat → ClassId} {σ : St} {k : Nat} (h : k < NC) : (wsN ad ca σ)[k]? = some (ad k, cellN ad ca σ k) := by
  unfold wsN
  rw [List.getElem?_map, List.getElem?_range h]
  rfl
theorem wsN_len {ad : Nat → Nat} {ca : Nat → ClassId} {σ : St} : (wsN ad ca σ).length = NC := by simp [wsN]
theorem wsN_set {ad : Nat → Nat} {ca : Nat → ClassId} {σ σ' : St} {k : Nat} {e : va_E} (h : k < NC) (h1 : ∀ j, j ≠ k → cellN ad ca σ' j = cellN ad ca σ j) (h2 : cellN ad ca σ' k = e) : (wsN ad ca σ).set k (ad k, e) = wsN ad ca σ' := by
  apply List.ext_getElem?
  intro j
  by_cases hj : j < NC
  · rw [wsN_at (σ := σ') hj]
    by_cases hk : k = j
    · subst hk
      rw [List.getElem?_set_self (by rw [wsN_len]; exact hj), h2]
    · rw [List.getElem?_set_ne hk, wsN_at hj, h1 j (fun q => hk q.symm)]
  · rw [List.getElem?_eq_none (by rw [List.length_set, wsN_len]; omega), List.getElem?_eq_none (by rw [wsN_len]; omega)]
theorem up2_ne {α : Type} {f : Nat → Nat → α} {a i b : Nat} {v : α} (h : b ≠ a) : up2 f a i v b = f b := by
  funext j
  simp [up2, h]
theorem up2_self {α : Type} {f : Nat → Nat → α} {a i : Nat} {v : α} : up2 f a i v a = fun j => if j = i then v else f a j := by
  funext j
  simp [up2]
theorem cellN_wI_ne {ad : Nat → Nat} {ca : Nat → ClassId} {σ : St} {a i : Nat} {v : Int32} (j : Nat) (h : j ≠ a) : cellN ad ca (wI σ a i v) j = cellN ad ca σ j := by
  unfold cellN wI
  simp only [up2_ne h]
theorem cellN_wL_ne {ad : Nat → Nat} {ca : Nat → ClassId} {σ : St} {a i : Nat} {v : Int64} (j : Nat) (h : j ≠ a) : cellN ad ca (wL σ a i v) j = cellN ad ca σ j := by
  unfold cellN wL
  simp only [up2_ne h]
theorem cellN_wS_ne {ad : Nat → Nat} {ca : Nat → ClassId} {σ : St} {i v : Nat} (j : Nat) (h : j ≠ 4) : cellN ad ca (wS σ i v) j = cellN ad ca σ j := by
  have e : mrN (wS σ i v).2.2 j = mrN σ.2.2 j := by
    funext q
    simp [mrN, h]
  unfold cellN
  rw [e]
  rfl
theorem cellN_wC_ne {ad : Nat → Nat} {ca : Nat → ClassId} {σ : St} {a b n : Nat} (j : Nat) (h : j ≠ a) : cellN ad ca (wC σ a b n) j = cellN ad ca σ j := by
  have e : (wC σ a b n).1 j = σ.1 j := by
    funext q
    simp [wC, h]
  unfold cellN
  rw [e]
  rfl
theorem cellN_obj {ad : Nat → Nat} {ca : Nat → ClassId} {σ : St} {k ci : Nat} (h : kd k = ci) (hc : ci < 10) : cellN ad ca σ k = .inr (ci, fvs ad ci (ln k) (σ.1 k) (σ.2.1 k) (mrN σ.2.2 k)) := by
  subst h
  unfold cellN
  rw [if_pos hc]
theorem cellN_i {ad : Nat → Nat} {ca : Nat → ClassId} {σ : St} {k : Nat} (h : kd k = 10) : cellN ad ca σ k = .inl (ca 0, ln k, .inl (σ.1 k)) := by
  unfold cellN
  rw [h]
  rfl
theorem cellN_z {ad : Nat → Nat} {ca : Nat → ClassId} {σ : St} {k : Nat} (h : kd k = 11) : cellN ad ca σ k = .inl (ca 1, ln k, .inl (σ.1 k)) := by
  unfold cellN
  rw [h]
  rfl
theorem cellN_l {ad : Nat → Nat} {ca : Nat → ClassId} {σ : St} {k : Nat} (h : kd k = 12) : cellN ad ca σ k = .inl (ca 2, ln k, .inr (.inl (σ.2.1 k))) := by
  unfold cellN
  rw [h]
  rfl
theorem cellN_q {ad : Nat → Nat} {ca : Nat → ClassId} {σ : St} {k c : Nat} (h : kd k = c) (hc : 12 < c) : cellN ad ca σ k = .inl (ca (c - 10), ln k, .inr (.inr (.inr (.inr (fun j => some (ad (mrN σ.2.2 k j))))))) := by
  subst h
  unfold cellN
  rw [if_neg (by omega), if_neg (by omega), if_neg (by omega), if_neg (by omega)]
theorem fvs_at {ad : Nat → Nat} {ci n : Nat} {f : Nat → Int32} {g : Nat → Int64} {r : Nat → Nat} {j : Nat} (h : j < n) : (fvs ad ci n f g r)[j]? = some (fv ad ci f g r j) := by
  unfold fvs
  rw [List.getElem?_map, List.getElem?_range h]
  rfl
theorem fvs_len {ad : Nat → Nat} {ci n : Nat} {f : Nat → Int32} {g : Nat → Int64} {r : Nat → Nat} : (fvs ad ci n f g r).length = n := by simp [fvs]
theorem fvs_set {ad : Nat → Nat} {ci n : Nat} {f f' : Nat → Int32} {g g' : Nat → Int64} {r : Nat → Nat} {j : Nat} {v : Value} (h : j < n) (h1 : ∀ q, q ≠ j → fv ad ci f' g' r q = fv ad ci f g r q) (h2 : fv ad ci f' g' r j = v) : (fvs ad ci n f g r).set j v = fvs ad ci n f' g' r := by
  apply List.ext_getElem?
  intro q
  by_cases hq : q < n
  · rw [fvs_at (f := f') hq]
    by_cases hk : j = q
    · subst hk
      rw [List.getElem?_set_self (by rw [fvs_len]; exact hq), h2]
    · rw [List.getElem?_set_ne hk, fvs_at hq, h1 q (fun z => hk z.symm)]
  · rw [List.getElem?_eq_none (by rw [List.length_set, fvs_len]; omega), List.getElem?_eq_none (by rw [fvs_len]; omega)]
def adOk (ad : Nat → Nat) : Prop := ∀ i j, i < NC → j < NC → ad i = ad j → i = j
theorem D_wsN {ad : Nat → Nat} {ca : Nat → ClassId} {σ : St} {A : Nat → Prop} (h : adOk ad) (hA : ∀ k, k < NC → A (ad k)) : va_D A (wsN ad ca σ) := by
  have key : ∀ (i : Nat) (x : Nat × va_E), (wsN ad ca σ)[i]? = some x → i < NC ∧ x.1 = ad i := by
    intro i x hx
    have hl : i < NC := by
      have := (List.getElem?_eq_some_iff.mp hx).1
      rwa [wsN_len] at this
    rw [wsN_at hl] at hx
    cases hx
    exact ⟨hl, rfl⟩
  refine ⟨fun i j x y hx hy e => ?_, fun k x hx => ?_⟩
  · obtain ⟨h1, h2⟩ := key i x hx
    obtain ⟨h3, h4⟩ := key j y hy
    exact h i j h1 h3 (by rw [← h2, ← h4, e])
  · obtain ⟨h1, h2⟩ := key k x hx
    rw [h2]
    exact hA k h1
abbrev tysL (ca : Nat → ClassId) : List (ClassId × FieldType) := [(ca 0, .int), (ca 1, .boolean), (ca 2, .long), (ca 3, .array .int), (ca 4, .array .long), (ca 5, .object RX0), (ca 6, .object RX6)]
/-- the table PLACES -/
def plv (j : Nat) : Int32 := ([0, 16807, 2401, 343, 49, 7, 1] : List Int32).getD j 0
/-- what the tables say of every state on the way: classes, array classes, nest mates' links, the static table -/
def Kn (D : va_G) (ca : Nat → ClassId) (A : Nat → Prop) (U : State) : Prop := va_K D vwCl (tysL ca) U ∧ (va_Nw (.methodLinkNest RX2 26 yX7_formTree RX7) U ∧ va_Nw (.methodLinkNest RX4 87 yX7_cross RX7) U ∧ va_Nw (.methodLinkNest RX6 50 yX7_mix RX7) U) ∧ ∃ t : Nat, va_Z RX4 "PLACES" "[I" (.ref t) A U U.heap ∧ va_T .int t 7 (fun j => .int (plv j)) A U U.heap
abbrev Kap : Type := (Program × Launch × Env × Room × State × MethodId) × (Array Value × List Frame × Method × Code × (State → Prop)) × (Nat × Nat × Nat × (Nat → Prop)) × ((Nat → Nat) × va_G × (Nat → ClassId))
abbrev kP (κ : Kap) : Program := κ.1.1
abbrev kL (κ : Kap) : Launch := κ.1.2.1
abbrev kE (κ : Kap) : Env := κ.1.2.2.1
abbrev kR (κ : Kap) : Room := κ.1.2.2.2.1
abbrev kS (κ : Kap) : State := κ.1.2.2.2.2.1
abbrev kM (κ : Kap) : MethodId := κ.1.2.2.2.2.2
abbrev kArgs (κ : Kap) : Array Value := κ.2.1.1
abbrev kBelow (κ : Kap) : List Frame := κ.2.1.2.1
abbrev kMeth (κ : Kap) : Method := κ.2.1.2.2.1
abbrev kC (κ : Kap) : Code := κ.2.1.2.2.2.1
abbrev kQ (κ : Kap) : State → Prop := κ.2.1.2.2.2.2
abbrev knL (κ : Kap) : Nat := κ.2.2.1.1
abbrev kcells (κ : Kap) : Nat := κ.2.2.1.2.1
abbrev kslots (κ : Kap) : Nat := κ.2.2.1.2.2.1
abbrev kA (κ : Kap) : Nat → Prop := κ.2.2.1.2.2.2
abbrev kad (κ : Kap) : Nat → Nat := κ.2.2.2.1
abbrev kD (κ : Kap) : va_G := κ.2.2.2.2.1
abbrev kca (κ : Kap) : Nat → ClassId := κ.2.2.2.2.2
/-- the machine at pc, with these locals, this stack and this store, comes to the method's goal -/
def GG (κ : Kap) (pc : Nat) (loc : List (Nat × Value)) (stk : List Value) (σ : St) : Prop :=
  ∀ (ls : Array Slot) (H : Heap) (locs : List Loc), lv_has ls (knL κ) loc → va_P (kD κ) vwCl (wsN (kad κ) (kca κ) σ) H → va_S (kA κ) (kS κ).heap H locs →
    W (kP κ) (kL κ) (kE κ) (kR κ) (kS κ) (kM κ) (kArgs κ) (kBelow κ) (kMeth κ) (kC κ) H locs (kcells κ) (kslots κ) (kQ κ) (F0 (kM κ) pc ls stk)
/-- the room of a method above which d calls may be under way -/
def rmD (d : Nat) : Room := { frames := d, cells := 0, slots := 0, locals := 64 * d }
/-- what holds all through a method of the class own with the code cc -/
def Ok (κ : Kap) (own : String) (cc : ByteArray) (nL d : Nat) : Prop :=
  (kP κ).tables.exec = Jvm.exec ∧ (kC κ).code = cc ∧ ((kC κ).maxLocals = nL ∧ knL κ = nL) ∧ (kS κ).vm.findClass own = some (kM κ).cls ∧ (∀ w ∈ gtbl, w.before (kArgs κ) (kS κ) = true) ∧ Kn (kD κ) (kca κ) (kA κ) (kS κ) ∧ adOk (kad κ) ∧ (∀ k, k < NC → kA κ (kad κ k)) ∧ (d ≤ (kR κ).frames ∧ 64 * d ≤ (kR κ).locals) ∧ kcells κ ≤ (kR κ).cells ∧ kslots κ ≤ (kR κ).slots
section XR
variable {κ : Kap} {own : String} {cc : ByteArray} {nL d pc : Nat} {loc loc' : List (Nat × Value)} {st : List Value} {σ : St}
theorem Ok.hx (C : Ok κ own cc nL d) : (kP κ).tables.exec = Jvm.exec := C.1
theorem Ok.hb (C : Ok κ own cc nL d) : (kC κ).code = cc := C.2.1
theorem Ok.ml (C : Ok κ own cc nL d) : (kC κ).maxLocals = nL := C.2.2.1.1
theorem Ok.nl (C : Ok κ own cc nL d) : knL κ = nL := C.2.2.1.2
theorem Ok.hown (C : Ok κ own cc nL d) : (kS κ).vm.findClass own = some (kM κ).cls := C.2.2.2.1
theorem Ok.hts (C : Ok κ own cc nL d) : ∀ w ∈ gtbl, w.before (kArgs κ) (kS κ) = true := C.2.2.2.2.1
theorem Ok.kn (C : Ok κ own cc nL d) : Kn (kD κ) (kca κ) (kA κ) (kS κ) := C.2.2.2.2.2.1
theorem Ok.hK (C : Ok κ own cc nL d) : va_K (kD κ) vwCl (tysL (kca κ)) (kS κ) := C.2.2.2.2.2.1.1
theorem Ok.ado (C : Ok κ own cc nL d) : adOk (kad κ) := C.2.2.2.2.2.2.1
theorem Ok.hA (C : Ok κ own cc nL d) : ∀ k, k < NC → kA κ (kad κ k) := C.2.2.2.2.2.2.2.1
theorem Ok.room (C : Ok κ own cc nL d) : d ≤ (kR κ).frames ∧ 64 * d ≤ (kR κ).locals := C.2.2.2.2.2.2.2.2.1
theorem Ok.rc (C : Ok κ own cc nL d) : kcells κ ≤ (kR κ).cells := C.2.2.2.2.2.2.2.2.2.1
theorem Ok.rs (C : Ok κ own cc nL d) : kslots κ ≤ (kR κ).slots := C.2.2.2.2.2.2.2.2.2.2
theorem Ok.hD (C : Ok κ own cc nL d) : va_D (kA κ) (wsN (kad κ) (kca κ) σ) := D_wsN C.ado C.hA
theorem x_loc (ks : List Nat) (hl : lv_pick loc ks = loc') (k : GG κ pc loc' st σ) : GG κ pc loc st σ := fun ls H locs h hP hS => k ls H locs (lv_sub h ks hl) hP hS

theorem x_iconst {n : Int} {v : Int32} (C : Ok κ own cc nL d) (hv : Int32.ofInt n = v) (hd : decode cc pc = .ok (.iconst n, 1)) (k : GG κ (pc + 1) loc (.int v :: st) σ) : GG κ pc loc (st) σ := fun ls H locs hl hP hS => lv_iconst C.hx C.hb hd hv (k ls H locs hl hP hS)
theorem x_bipush {n : Int} {v : Int32} (C : Ok κ own cc nL d) (hv : (Int8.ofInt n).toInt32 = v) (hd : decode cc pc = .ok (.bipush n, 2)) (k : GG κ (pc + 2) loc (.int v :: st) σ) : GG κ pc loc (st) σ := fun ls H locs hl hP hS => lv_bipush C.hx C.hb hd hv (k ls H locs hl hP hS)
theorem x_sipush {n : Int} {v : Int32} (C : Ok κ own cc nL d) (hv : (Int16.ofInt n).toInt32 = v) (hd : decode cc pc = .ok (.sipush n, 3)) (k : GG κ (pc + 3) loc (.int v :: st) σ) : GG κ pc loc (st) σ := fun ls H locs hl hP hS => lv_sipush C.hx C.hb hd hv (k ls H locs hl hP hS)
theorem x_lconst {n : Fin 2} {v : Int64} (C : Ok κ own cc nL d) (hv : Int64.ofNat (n : Nat) = v) (hd : decode cc pc = .ok (.lconst n, 1)) (k : GG κ (pc + 1) loc (.long v :: st) σ) : GG κ pc loc (st) σ := fun ls H locs hl hP hS => lv_lconst C.hx C.hb hd hv (k ls H locs hl hP hS)
theorem x_null  (C : Ok κ own cc nL d) (hd : decode cc pc = .ok (.aconst_null, 1)) (k : GG κ (pc + 1) loc (.null :: st) σ) : GG κ pc loc (st) σ := fun ls H locs hl hP hS => lv_null C.hx C.hb hd (k ls H locs hl hP hS)
theorem x_ldc {i : Nat} {v : Int32} (C : Ok κ own cc nL d) (hw : Cond.constant own i v ∈ gtbl) (hd : decode cc pc = .ok (.ldc i, 2)) (k : GG κ (pc + 2) loc (.int v :: st) σ) : GG κ pc loc (st) σ := fun ls H locs hl hP hS => lv_ldc C.hx C.hb C.hown (C.hts _ hw) hd (k ls H locs hl hP hS)
theorem x_ldc2 {i : Nat} {v : Int64} (C : Ok κ own cc nL d) (hw : Cond.constantLong own i v ∈ gtbl) (hd : decode cc pc = .ok (.ldc2_w i, 3)) (k : GG κ (pc + 3) loc (.long v :: st) σ) : GG κ pc loc (st) σ := fun ls H locs hl hP hS => lv_ldc2 C.hx C.hb C.hown (C.hts _ hw) hd (k ls H locs hl hP hS)
theorem x_ldcw {i : Nat} {v : Int32} (C : Ok κ own cc nL d) (hw : Cond.constant own i v ∈ gtbl) (hd : decode cc pc = .ok (.ldc_w i, 3)) (k : GG κ (pc + 3) loc (.int v :: st) σ) : GG κ pc loc (st) σ := fun ls H locs hl hP hS => lv_ldcw C.hx C.hb C.hown (C.hts _ hw) hd (k ls H locs hl hP hS)
theorem x_iload_n {k0 : Fin 4} {x : Int32} (q : Nat) (C : Ok κ own cc nL d) (hq : loc[q]? = some ((k0 : Nat), .int x)) (hd : decode cc pc = .ok (.iload_n k0, 1)) (k : GG κ (pc + 1) loc (.int x :: st) σ) : GG κ pc loc st σ := fun ls H locs hl hP hS => lv_iload_n C.hx C.hb hd rfl (lv_at hl q hq) (k ls H locs hl hP hS)
theorem x_iload {i : Nat} {x : Int32} (q : Nat) (C : Ok κ own cc nL d) (hq : loc[q]? = some (i, .int x)) (hd : decode cc pc = .ok (.iload i, 2)) (k : GG κ (pc + 2) loc (.int x :: st) σ) : GG κ pc loc st σ := fun ls H locs hl hP hS => lv_iload C.hx C.hb hd (lv_at hl q hq) (k ls H locs hl hP hS)
theorem x_istore_n {k0 : Fin 4} {i : Nat} {x : Int32} (C : Ok κ own cc nL d) (hi : (k0 : Nat) = i) (hn : i < nL) (hl : (i, Value.int x) :: loc.filter (fun q => !(q.1 == i) && !(q.1 + 1 == i && q.2.category == 2)) = loc') (hd : decode cc pc = .ok (.istore_n k0, 1)) (k : GG κ (pc + 1) loc' st σ) : GG κ pc loc (.int x :: st) σ := fun ls H locs hls hP hS => lv_istore_n C.hx C.hb hd hi hls (by rw [C.nl]; exact hn) hl (fun ls' h' => k ls' H locs h' hP hS)
theorem x_istore {i : Nat} {x : Int32} (C : Ok κ own cc nL d) (hn : i < nL) (hl : (i, Value.int x) :: loc.filter (fun q => !(q.1 == i) && !(q.1 + 1 == i && q.2.category == 2)) = loc') (hd : decode cc pc = .ok (.istore i, 2)) (k : GG κ (pc + 2) loc' st σ) : GG κ pc loc (.int x :: st) σ := fun ls H locs hls hP hS => lv_istore C.hx C.hb hd hls (by rw [C.nl]; exact hn) hl (fun ls' h' => k ls' H locs h' hP hS)
theorem x_lload_n {k0 : Fin 4} {x : Int64} (q : Nat) (C : Ok κ own cc nL d) (hq : loc[q]? = some ((k0 : Nat), .long x)) (hd : decode cc pc = .ok (.lload_n k0, 1)) (k : GG κ (pc + 1) loc (.long x :: st) σ) : GG κ pc loc st σ := fun ls H locs hl hP hS => lv_lload_n C.hx C.hb hd rfl (lv_at hl q hq) (k ls H locs hl hP hS)
theorem x_lload {i : Nat} {x : Int64} (q : Nat) (C : Ok κ own cc nL d) (hq : loc[q]? = some (i, .long x)) (hd : decode cc pc = .ok (.lload i, 2)) (k : GG κ (pc + 2) loc (.long x :: st) σ) : GG κ pc loc st σ := fun ls H locs hl hP hS => lv_lload C.hx C.hb hd (lv_at hl q hq) (k ls H locs hl hP hS)
theorem x_lstore_n {k0 : Fin 4} {i : Nat} {x : Int64} (C : Ok κ own cc nL d) (hi : (k0 : Nat) = i) (hn : i + 1 < nL) (hl : (i, Value.long x) :: loc.filter (fun q => !(q.1 == i) && (!(q.1 == i + 1) && !(q.1 + 1 == i && q.2.category == 2))) = loc') (hd : decode cc pc = .ok (.lstore_n k0, 1)) (k : GG κ (pc + 1) loc' st σ) : GG κ pc loc (.long x :: st) σ := fun ls H locs hls hP hS => lv_lstore_n C.hx C.hb hd hi hls (by rw [C.nl]; exact hn) hl (fun ls' h' => k ls' H locs h' hP hS)
theorem x_lstore {i : Nat} {x : Int64} (C : Ok κ own cc nL d) (hn : i + 1 < nL) (hl : (i, Value.long x) :: loc.filter (fun q => !(q.1 == i) && (!(q.1 == i + 1) && !(q.1 + 1 == i && q.2.category == 2))) = loc') (hd : decode cc pc = .ok (.lstore i, 2)) (k : GG κ (pc + 2) loc' st σ) : GG κ pc loc (.long x :: st) σ := fun ls H locs hls hP hS => lv_lstore C.hx C.hb hd hls (by rw [C.nl]; exact hn) hl (fun ls' h' => k ls' H locs h' hP hS)
theorem x_aload_n {k0 : Fin 4} {x : Nat} (q : Nat) (C : Ok κ own cc nL d) (hq : loc[q]? = some ((k0 : Nat), .ref x)) (hd : decode cc pc = .ok (.aload_n k0, 1)) (k : GG κ (pc + 1) loc (.ref x :: st) σ) : GG κ pc loc st σ := fun ls H locs hl hP hS => lv_aload_n C.hx C.hb hd rfl (lv_at hl q hq) (k ls H locs hl hP hS)
theorem x_aload {i : Nat} {x : Nat} (q : Nat) (C : Ok κ own cc nL d) (hq : loc[q]? = some (i, .ref x)) (hd : decode cc pc = .ok (.aload i, 2)) (k : GG κ (pc + 2) loc (.ref x :: st) σ) : GG κ pc loc st σ := fun ls H locs hl hP hS => lv_aload C.hx C.hb hd (lv_at hl q hq) (k ls H locs hl hP hS)
theorem x_astore_n {k0 : Fin 4} {i : Nat} {x : Nat} (C : Ok κ own cc nL d) (hi : (k0 : Nat) = i) (hn : i < nL) (hl : (i, Value.ref x) :: loc.filter (fun q => !(q.1 == i) && !(q.1 + 1 == i && q.2.category == 2)) = loc') (hd : decode cc pc = .ok (.astore_n k0, 1)) (k : GG κ (pc + 1) loc' st σ) : GG κ pc loc (.ref x :: st) σ := fun ls H locs hls hP hS => lv_astore_n C.hx C.hb hd hi hls (by rw [C.nl]; exact hn) hl (fun ls' h' => k ls' H locs h' hP hS)
theorem x_astore {i : Nat} {x : Nat} (C : Ok κ own cc nL d) (hn : i < nL) (hl : (i, Value.ref x) :: loc.filter (fun q => !(q.1 == i) && !(q.1 + 1 == i && q.2.category == 2)) = loc') (hd : decode cc pc = .ok (.astore i, 2)) (k : GG κ (pc + 2) loc' st σ) : GG κ pc loc (.ref x :: st) σ := fun ls H locs hls hP hS => lv_astore C.hx C.hb hd hls (by rw [C.nl]; exact hn) hl (fun ls' h' => k ls' H locs h' hP hS)
theorem x_aload_nN {k0 : Fin 4} (q : Nat) (C : Ok κ own cc nL d) (hq : loc[q]? = some ((k0 : Nat), .null)) (hd : decode cc pc = .ok (.aload_n k0, 1)) (k : GG κ (pc + 1) loc (.null :: st) σ) : GG κ pc loc st σ := fun ls H locs hl hP hS => lv_aload_nN C.hx C.hb hd rfl (lv_at hl q hq) (k ls H locs hl hP hS)
theorem x_aloadN {i : Nat} (q : Nat) (C : Ok κ own cc nL d) (hq : loc[q]? = some (i, .null)) (hd : decode cc pc = .ok (.aload i, 2)) (k : GG κ (pc + 2) loc (.null :: st) σ) : GG κ pc loc st σ := fun ls H locs hl hP hS => lv_aloadN C.hx C.hb hd (lv_at hl q hq) (k ls H locs hl hP hS)
theorem x_astore_nN {k0 : Fin 4} {i : Nat} (C : Ok κ own cc nL d) (hi : (k0 : Nat) = i) (hn : i < nL) (hl : (i, Value.null) :: loc.filter (fun q => !(q.1 == i) && !(q.1 + 1 == i && q.2.category == 2)) = loc') (hd : decode cc pc = .ok (.astore_n k0, 1)) (k : GG κ (pc + 1) loc' st σ) : GG κ pc loc (.null :: st) σ := fun ls H locs hls hP hS => lv_astore_nN C.hx C.hb hd hi hls (by rw [C.nl]; exact hn) hl (fun ls' h' => k ls' H locs h' hP hS)
theorem x_astoreN {i : Nat} (C : Ok κ own cc nL d) (hn : i < nL) (hl : (i, Value.null) :: loc.filter (fun q => !(q.1 == i) && !(q.1 + 1 == i && q.2.category == 2)) = loc') (hd : decode cc pc = .ok (.astore i, 2)) (k : GG κ (pc + 2) loc' st σ) : GG κ pc loc (.null :: st) σ := fun ls H locs hls hP hS => lv_astoreN C.hx C.hb hd hls (by rw [C.nl]; exact hn) hl (fun ls' h' => k ls' H locs h' hP hS)
theorem x_iinc {i : Nat} {n : Int} {x v : Int32} (q : Nat) (C : Ok κ own cc nL d) (hq : loc[q]? = some (i, .int x)) (hv : x + Int32.ofInt n = v) (hn : i < nL) (hl : (i, Value.int v) :: loc.filter (fun q => !(q.1 == i) && !(q.1 + 1 == i && q.2.category == 2)) = loc') (hd : decode cc pc = .ok (.iinc i n, 3)) (k : GG κ (pc + 3) loc' st σ) : GG κ pc loc st σ := fun ls H locs hls hP hS => lv_iinc C.hx C.hb hd hls hq hv (by rw [C.nl]; exact hn) hl (fun ls' h' => k ls' H locs h' hP hS)
theorem x_iadd {x y : Int32} (C : Ok κ own cc nL d) (hd : decode cc pc = .ok (.iadd, 1)) (k : GG κ (pc + 1) loc (.int (x + y) :: st) σ) : GG κ pc loc (.int y :: .int x :: st) σ := fun ls H locs hl hP hS => lv_iadd C.hx C.hb hd (k ls H locs hl hP hS)
theorem x_isub {x y : Int32} (C : Ok κ own cc nL d) (hd : decode cc pc = .ok (.isub, 1)) (k : GG κ (pc + 1) loc (.int (x - y) :: st) σ) : GG κ pc loc (.int y :: .int x :: st) σ := fun ls H locs hl hP hS => lv_isub C.hx C.hb hd (k ls H locs hl hP hS)
theorem x_imul {x y : Int32} (C : Ok κ own cc nL d) (hd : decode cc pc = .ok (.imul, 1)) (k : GG κ (pc + 1) loc (.int (x * y) :: st) σ) : GG κ pc loc (.int y :: .int x :: st) σ := fun ls H locs hl hP hS => lv_imul C.hx C.hb hd (k ls H locs hl hP hS)
theorem x_iand {x y : Int32} (C : Ok κ own cc nL d) (hd : decode cc pc = .ok (.iand, 1)) (k : GG κ (pc + 1) loc (.int (x &&& y) :: st) σ) : GG κ pc loc (.int y :: .int x :: st) σ := fun ls H locs hl hP hS => lv_iand C.hx C.hb hd (k ls H locs hl hP hS)
theorem x_ior {x y : Int32} (C : Ok κ own cc nL d) (hd : decode cc pc = .ok (.ior, 1)) (k : GG κ (pc + 1) loc (.int (x ||| y) :: st) σ) : GG κ pc loc (.int y :: .int x :: st) σ := fun ls H locs hl hP hS => lv_ior C.hx C.hb hd (k ls H locs hl hP hS)
theorem x_ixor {x y : Int32} (C : Ok κ own cc nL d) (hd : decode cc pc = .ok (.ixor, 1)) (k : GG κ (pc + 1) loc (.int (x ^^^ y) :: st) σ) : GG κ pc loc (.int y :: .int x :: st) σ := fun ls H locs hl hP hS => lv_ixor C.hx C.hb hd (k ls H locs hl hP hS)
theorem x_ishl {x y : Int32} (C : Ok κ own cc nL d) (hd : decode cc pc = .ok (.ishl, 1)) (k : GG κ (pc + 1) loc (.int (x <<< (y &&& 31)) :: st) σ) : GG κ pc loc (.int y :: .int x :: st) σ := fun ls H locs hl hP hS => lv_ishl C.hx C.hb hd (k ls H locs hl hP hS)
theorem x_ishr {x y : Int32} (C : Ok κ own cc nL d) (hd : decode cc pc = .ok (.ishr, 1)) (k : GG κ (pc + 1) loc (.int (x >>> (y &&& 31)) :: st) σ) : GG κ pc loc (.int y :: .int x :: st) σ := fun ls H locs hl hP hS => lv_ishr C.hx C.hb hd (k ls H locs hl hP hS)
theorem x_idiv {x y : Int32} (C : Ok κ own cc nL d) (hne : ¬ y = 0) (hd : decode cc pc = .ok (.idiv, 1)) (k : GG κ (pc + 1) loc (.int (x / y) :: st) σ) : GG κ pc loc (.int y :: .int x :: st) σ := fun ls H locs hl hP hS => lv_idiv C.hx C.hb hd hne (k ls H locs hl hP hS)
theorem x_irem {x y : Int32} (C : Ok κ own cc nL d) (hne : ¬ y = 0) (hd : decode cc pc = .ok (.irem, 1)) (k : GG κ (pc + 1) loc (.int (x - x / y * y) :: st) σ) : GG κ pc loc (.int y :: .int x :: st) σ := fun ls H locs hl hP hS => lv_irem C.hx C.hb hd hne (k ls H locs hl hP hS)
theorem x_ladd {x y : Int64} (C : Ok κ own cc nL d) (hd : decode cc pc = .ok (.ladd, 1)) (k : GG κ (pc + 1) loc (.long (x + y) :: st) σ) : GG κ pc loc (.long y :: .long x :: st) σ := fun ls H locs hl hP hS => lv_ladd C.hx C.hb hd (k ls H locs hl hP hS)
theorem x_lsub {x y : Int64} (C : Ok κ own cc nL d) (hd : decode cc pc = .ok (.lsub, 1)) (k : GG κ (pc + 1) loc (.long (x - y) :: st) σ) : GG κ pc loc (.long y :: .long x :: st) σ := fun ls H locs hl hP hS => lv_lsub C.hx C.hb hd (k ls H locs hl hP hS)
theorem x_lmul {x y : Int64} (C : Ok κ own cc nL d) (hd : decode cc pc = .ok (.lmul, 1)) (k : GG κ (pc + 1) loc (.long (x * y) :: st) σ) : GG κ pc loc (.long y :: .long x :: st) σ := fun ls H locs hl hP hS => lv_lmul C.hx C.hb hd (k ls H locs hl hP hS)
theorem x_lxor {x y : Int64} (C : Ok κ own cc nL d) (hd : decode cc pc = .ok (.lxor, 1)) (k : GG κ (pc + 1) loc (.long (x ^^^ y) :: st) σ) : GG κ pc loc (.long y :: .long x :: st) σ := fun ls H locs hl hP hS => lv_lxor C.hx C.hb hd (k ls H locs hl hP hS)
theorem x_ldiv {x y : Int64} (C : Ok κ own cc nL d) (hne : ¬ y = 0) (hd : decode cc pc = .ok (.ldiv, 1)) (k : GG κ (pc + 1) loc (.long (x / y) :: st) σ) : GG κ pc loc (.long y :: .long x :: st) σ := fun ls H locs hl hP hS => lv_ldiv C.hx C.hb hd hne (k ls H locs hl hP hS)
theorem x_lrem {x y : Int64} (C : Ok κ own cc nL d) (hne : ¬ y = 0) (hd : decode cc pc = .ok (.lrem, 1)) (k : GG κ (pc + 1) loc (.long (x - x / y * y) :: st) σ) : GG κ pc loc (.long y :: .long x :: st) σ := fun ls H locs hl hP hS => lv_lrem C.hx C.hb hd hne (k ls H locs hl hP hS)
theorem x_ineg {x : Int32} (C : Ok κ own cc nL d) (hd : decode cc pc = .ok (.ineg, 1)) (k : GG κ (pc + 1) loc (.int (-x) :: st) σ) : GG κ pc loc (.int x :: st) σ := fun ls H locs hl hP hS => lv_ineg C.hx C.hb hd (k ls H locs hl hP hS)
theorem x_lneg {x : Int64} (C : Ok κ own cc nL d) (hd : decode cc pc = .ok (.lneg, 1)) (k : GG κ (pc + 1) loc (.long (-x) :: st) σ) : GG κ pc loc (.long x :: st) σ := fun ls H locs hl hP hS => lv_lneg C.hx C.hb hd (k ls H locs hl hP hS)
theorem x_i2l {x : Int32} (C : Ok κ own cc nL d) (hd : decode cc pc = .ok (.i2l, 1)) (k : GG κ (pc + 1) loc (.long x.toInt64 :: st) σ) : GG κ pc loc (.int x :: st) σ := fun ls H locs hl hP hS => lv_i2l C.hx C.hb hd rfl (k ls H locs hl hP hS)
theorem x_l2i {x : Int64} (C : Ok κ own cc nL d) (hd : decode cc pc = .ok (.l2i, 1)) (k : GG κ (pc + 1) loc (.int x.toInt32 :: st) σ) : GG κ pc loc (.long x :: st) σ := fun ls H locs hl hP hS => lv_l2i C.hx C.hb hd rfl (k ls H locs hl hP hS)
def ushr (x y : Int32) : Int32 := (x.toUInt32 >>> (y.toUInt32 &&& Int32.toUInt32 31)).toInt32
theorem x_iushr {x y : Int32} (C : Ok κ own cc nL d) (hd : decode cc pc = .ok (.iushr, 1)) (k : GG κ (pc + 1) loc (.int (ushr x y) :: st) σ) : GG κ pc loc (.int y :: .int x :: st) σ := fun ls H locs hl hP hS => lv_iushr C.hx C.hb hd rfl (k ls H locs hl hP hS)
theorem x_lcmp {x y : Int64} (C : Ok κ own cc nL d) (hd : decode cc pc = .ok (.lcmp, 1)) (k : GG κ (pc + 1) loc (.int (lg_cmp x y) :: st) σ) : GG κ pc loc (.long y :: .long x :: st) σ := fun ls H locs hl hP hS => W.lcmp C.hx C.hb hd (k ls H locs hl hP hS)
theorem x_dup {v : Value} (C : Ok κ own cc nL d) (hv : v.category = 1) (hd : decode cc pc = .ok (.dup, 1)) (k : GG κ (pc + 1) loc (v :: v :: st) σ) : GG κ pc loc (v :: st) σ := fun ls H locs hl hP hS => lv_dup C.hx C.hb hd hv (k ls H locs hl hP hS)
theorem x_dup2 {v w : Value} (C : Ok κ own cc nL d) (hv : v.category = 1) (hw : w.category = 1) (hd : decode cc pc = .ok (.dup2, 1)) (k : GG κ (pc + 1) loc (v :: w :: v :: w :: st) σ) : GG κ pc loc (v :: w :: st) σ := fun ls H locs hl hP hS => lv_dup2_11 C.hx C.hb hd hv hw (k ls H locs hl hP hS)
theorem x_dup2l {x : Int64} (C : Ok κ own cc nL d) (hd : decode cc pc = .ok (.dup2, 1)) (k : GG κ (pc + 1) loc (.long x :: .long x :: st) σ) : GG κ pc loc (.long x :: st) σ := fun ls H locs hl hP hS => lv_dup2_2 C.hx C.hb hd rfl (k ls H locs hl hP hS)
theorem x_if_eq {x : Int32} {off : Int} {tgt : Nat} (C : Ok κ own cc nL d) (hd : decode cc pc = .ok (.ifCond .eq off, 3)) (ht : (pc : Int) + off = (tgt : Int)) (kt : x = 0 → GG κ tgt loc st σ) (kf : ¬ (x = 0) → GG κ (pc + 3) loc st σ) : GG κ pc loc (.int x :: st) σ := fun ls H locs hl hP hS => lv_if_eq C.hx C.hb hd ht (fun h => kt h ls H locs hl hP hS) (fun h => kf h ls H locs hl hP hS)
theorem x_icmp_eq {x y : Int32} {off : Int} {tgt : Nat} (C : Ok κ own cc nL d) (hd : decode cc pc = .ok (.if_icmp .eq off, 3)) (ht : (pc : Int) + off = (tgt : Int)) (kt : x = y → GG κ tgt loc st σ) (kf : ¬ (x = y) → GG κ (pc + 3) loc st σ) : GG κ pc loc (.int y :: .int x :: st) σ := fun ls H locs hl hP hS => lv_icmp_eq C.hx C.hb hd ht (fun h => kt h ls H locs hl hP hS) (fun h => kf h ls H locs hl hP hS)
theorem x_if_ne {x : Int32} {off : Int} {tgt : Nat} (C : Ok κ own cc nL d) (hd : decode cc pc = .ok (.ifCond .ne off, 3)) (ht : (pc : Int) + off = (tgt : Int)) (kt : ¬ x = 0 → GG κ tgt loc st σ) (kf : x = 0 → GG κ (pc + 3) loc st σ) : GG κ pc loc (.int x :: st) σ := fun ls H locs hl hP hS => lv_if_ne C.hx C.hb hd ht (fun h => kt h ls H locs hl hP hS) (fun h => kf h ls H locs hl hP hS)
theorem x_icmp_ne {x y : Int32} {off : Int} {tgt : Nat} (C : Ok κ own cc nL d) (hd : decode cc pc = .ok (.if_icmp .ne off, 3)) (ht : (pc : Int) + off = (tgt : Int)) (kt : ¬ x = y → GG κ tgt loc st σ) (kf : x = y → GG κ (pc + 3) loc st σ) : GG κ pc loc (.int y :: .int x :: st) σ := fun ls H locs hl hP hS => lv_icmp_ne C.hx C.hb hd ht (fun h => kt h ls H locs hl hP hS) (fun h => kf h ls H locs hl hP hS)
theorem x_if_lt {x : Int32} {off : Int} {tgt : Nat} (C : Ok κ own cc nL d) (hd : decode cc pc = .ok (.ifCond .lt off, 3)) (ht : (pc : Int) + off = (tgt : Int)) (kt : x < 0 → GG κ tgt loc st σ) (kf : ¬ (x < 0) → GG κ (pc + 3) loc st σ) : GG κ pc loc (.int x :: st) σ := fun ls H locs hl hP hS => lv_if_lt C.hx C.hb hd ht (fun h => kt h ls H locs hl hP hS) (fun h => kf h ls H locs hl hP hS)
theorem x_icmp_lt {x y : Int32} {off : Int} {tgt : Nat} (C : Ok κ own cc nL d) (hd : decode cc pc = .ok (.if_icmp .lt off, 3)) (ht : (pc : Int) + off = (tgt : Int)) (kt : x < y → GG κ tgt loc st σ) (kf : ¬ (x < y) → GG κ (pc + 3) loc st σ) : GG κ pc loc (.int y :: .int x :: st) σ := fun ls H locs hl hP hS => lv_icmp_lt C.hx C.hb hd ht (fun h => kt h ls H locs hl hP hS) (fun h => kf h ls H locs hl hP hS)
theorem x_if_ge {x : Int32} {off : Int} {tgt : Nat} (C : Ok κ own cc nL d) (hd : decode cc pc = .ok (.ifCond .ge off, 3)) (ht : (pc : Int) + off = (tgt : Int)) (kt : 0 ≤ x → GG κ tgt loc st σ) (kf : ¬ (0 ≤ x) → GG κ (pc + 3) loc st σ) : GG κ pc loc (.int x :: st) σ := fun ls H locs hl hP hS => lv_if_ge C.hx C.hb hd ht (fun h => kt h ls H locs hl hP hS) (fun h => kf h ls H locs hl hP hS)
theorem x_icmp_ge {x y : Int32} {off : Int} {tgt : Nat} (C : Ok κ own cc nL d) (hd : decode cc pc = .ok (.if_icmp .ge off, 3)) (ht : (pc : Int) + off = (tgt : Int)) (kt : y ≤ x → GG κ tgt loc st σ) (kf : ¬ (y ≤ x) → GG κ (pc + 3) loc st σ) : GG κ pc loc (.int y :: .int x :: st) σ := fun ls H locs hl hP hS => lv_icmp_ge C.hx C.hb hd ht (fun h => kt h ls H locs hl hP hS) (fun h => kf h ls H locs hl hP hS)
theorem x_if_gt {x : Int32} {off : Int} {tgt : Nat} (C : Ok κ own cc nL d) (hd : decode cc pc = .ok (.ifCond .gt off, 3)) (ht : (pc : Int) + off = (tgt : Int)) (kt : 0 < x → GG κ tgt loc st σ) (kf : ¬ (0 < x) → GG κ (pc + 3) loc st σ) : GG κ pc loc (.int x :: st) σ := fun ls H locs hl hP hS => lv_if_gt C.hx C.hb hd ht (fun h => kt h ls H locs hl hP hS) (fun h => kf h ls H locs hl hP hS)
theorem x_icmp_gt {x y : Int32} {off : Int} {tgt : Nat} (C : Ok κ own cc nL d) (hd : decode cc pc = .ok (.if_icmp .gt off, 3)) (ht : (pc : Int) + off = (tgt : Int)) (kt : y < x → GG κ tgt loc st σ) (kf : ¬ (y < x) → GG κ (pc + 3) loc st σ) : GG κ pc loc (.int y :: .int x :: st) σ := fun ls H locs hl hP hS => lv_icmp_gt C.hx C.hb hd ht (fun h => kt h ls H locs hl hP hS) (fun h => kf h ls H locs hl hP hS)
theorem x_if_le {x : Int32} {off : Int} {tgt : Nat} (C : Ok κ own cc nL d) (hd : decode cc pc = .ok (.ifCond .le off, 3)) (ht : (pc : Int) + off = (tgt : Int)) (kt : x ≤ 0 → GG κ tgt loc st σ) (kf : ¬ (x ≤ 0) → GG κ (pc + 3) loc st σ) : GG κ pc loc (.int x :: st) σ := fun ls H locs hl hP hS => lv_if_le C.hx C.hb hd ht (fun h => kt h ls H locs hl hP hS) (fun h => kf h ls H locs hl hP hS)
theorem x_icmp_le {x y : Int32} {off : Int} {tgt : Nat} (C : Ok κ own cc nL d) (hd : decode cc pc = .ok (.if_icmp .le off, 3)) (ht : (pc : Int) + off = (tgt : Int)) (kt : x ≤ y → GG κ tgt loc st σ) (kf : ¬ (x ≤ y) → GG κ (pc + 3) loc st σ) : GG κ pc loc (.int y :: .int x :: st) σ := fun ls H locs hl hP hS => lv_icmp_le C.hx C.hb hd ht (fun h => kt h ls H locs hl hP hS) (fun h => kf h ls H locs hl hP hS)
theorem x_goto {off : Int} {tgt : Nat} (C : Ok κ own cc nL d) (hd : decode cc pc = .ok (.goto off, 3)) (ht : (pc : Int) + off = (tgt : Int)) (k : GG κ tgt loc st σ) : GG κ pc loc st σ := fun ls H locs hl hP hS => lv_goto C.hx C.hb hd ht (k ls H locs hl hP hS)
theorem x_ifnonnull {x : Nat} {off : Int} {tgt : Nat} (C : Ok κ own cc nL d) (hd : decode cc pc = .ok (.ifnonnull off, 3)) (ht : (pc : Int) + off = (tgt : Int)) (k : GG κ tgt loc st σ) : GG κ pc loc (.ref x :: st) σ := fun ls H locs hl hP hS => lv_ifnonnull C.hx C.hb hd ht (k ls H locs hl hP hS)
theorem x_ifnull {x : Nat} {off : Int} (C : Ok κ own cc nL d) (hd : decode cc pc = .ok (.ifnull off, 3)) (k : GG κ (pc + 3) loc st σ) : GG κ pc loc (.ref x :: st) σ := fun ls H locs hl hP hS => lv_ifnull C.hx C.hb hd (k ls H locs hl hP hS)
theorem x_ifnullN {off : Int} {tgt : Nat} (C : Ok κ own cc nL d) (hd : decode cc pc = .ok (.ifnull off, 3)) (ht : (pc : Int) + off = (tgt : Int)) (k : GG κ tgt loc st σ) : GG κ pc loc (.null :: st) σ := fun ls H locs hl hP hS => lv_ifnullN C.hx C.hb hd ht (k ls H locs hl hP hS)
theorem x_ifnonnullN {off : Int} (C : Ok κ own cc nL d) (hd : decode cc pc = .ok (.ifnonnull off, 3)) (k : GG κ (pc + 3) loc st σ) : GG κ pc loc (.null :: st) σ := fun ls H locs hl hP hS => lv_ifnonnullN C.hx C.hb hd (k ls H locs hl hP hS)
/-- fields -/
theorem x_get {a ci j idx N : Nat} {R : String} {T : u_T} {v : Value} (C : Ok κ own cc nL d) (hc : vwCl[ci]? = some (R, T, N)) (hin : ∀ w ∈ u_ws R T N, w ∈ gtbl) (hk : kd a = ci) (hci : ci < 10) (ha : a < NC) (hj : j < N) (hln : ln a = N) (hw : Cond.fieldLink own idx (T j).1 (T j).2.1 (T j).2.2.1 ∈ gtbl) (hv : fv (kad κ) ci (σ.1 a) (σ.2.1 a) (mrN σ.2.2 a) j = v) (hd : decode cc pc = .ok (.getfield idx, 3)) (k : GG κ (pc + 3) loc (v :: st) σ) : GG κ pc loc (.ref (kad κ a) :: st) σ := fun ls H locs hl hP hS =>
  va_get (ci := ci) C.hx C.hb C.hts hin C.hown C.hK hP a ((wsN_at ha).trans (by rw [cellN_obj hk hci])) hc j hj (C.hts _ hw) (fun _ h => h) (by rw [fvs_at (by rw [hln]; exact hj), hv]) hd (k ls H locs hl hP hS)
theorem fv_i {ad : Nat → Nat} {ci : Nat} {f : Nat → Int32} {g : Nat → Int64} {r : Nat → Nat} {j : Nat} (h : ftk ci j = 0) : fv ad ci f g r j = .int (f j) := by simp [fv, h]
theorem fv_l {ad : Nat → Nat} {ci : Nat} {f : Nat → Int32} {g : Nat → Int64} {r : Nat → Nat} {j : Nat} (h : ftk ci j = 1) : fv ad ci f g r j = .long (g j) := by simp [fv, h]
theorem fv_r {ad : Nat → Nat} {ci : Nat} {f : Nat → Int32} {g : Nat → Int64} {r : Nat → Nat} {j b : Nat} (h : ftk ci j = 2) (hr : r j = b) : fv ad ci f g r j = .ref (ad b) := by simp [fv, h, hr]
theorem x_putI {a ci j idx N : Nat} {R : String} {T : u_T} {ty0 : Nat → FieldType} {v : Int32} (C : Ok κ own cc nL d) (hc : vwCl[ci]? = some (R, T, N)) (hin : ∀ w ∈ u_ws R T N, w ∈ gtbl) (hty : ∀ k, k < N → parseFieldDescriptor (T k).2.2.1 = some (ty0 k)) (hnm : ∀ a, a < N → ∀ b, b < N → a ≠ b → (T a).2.1 ≠ (T b).2.1) (hk : kd a = ci) (hci : ci < 10) (ha : a < NC) (hj : j < N) (hln : ln a = N) (hft : ftk ci j = 0) (hfin : (T j).2.2.2 = false) (hn : narrow (ty0 j) (.int v) = .int v) (hfit : fits (ty0 j) (.int v) = true) (hw : Cond.fieldLink own idx (T j).1 (T j).2.1 (T j).2.2.1 ∈ gtbl) (hd : decode cc pc = .ok (.putfield idx, 3)) (k : GG κ (pc + 3) loc st (wI σ a j v)) : GG κ pc loc (.int v :: .ref (kad κ a) :: st) σ := fun ls H locs hl hP hS => by
  refine va_put (ci := ci) C.hx C.hb C.hts hin ty0 hty hnm C.hown C.hK hP C.hD hS a ((wsN_at ha).trans (by rw [cellN_obj hk hci])) hc j hj (C.hts _ hw) (fun _ h => h) hfin (hty j hj) hn hfit (by rw [fvs_len, hln]; exact hj) hd (fun H1 locs1 hP1 hD1 hS1 => k ls H1 locs1 hl ?_ hS1)
  rw [wsN_set (σ' := wI σ a j v) ha (fun q hq => cellN_wI_ne q hq) ?_] at hP1
  · exact hP1
  · rw [cellN_obj hk hci]
    congr 2
    refine (fvs_set (by rw [hln]; exact hj) (fun q hq => ?_) ?_).symm
    · show fv _ _ (up2 σ.1 a j v a) _ _ _ = _
      rw [up2_self]
      simp [fv, hq] <;> rfl
    · show fv _ _ (up2 σ.1 a j v a) _ _ _ = _
      rw [up2_self, fv_i hft]
      simp
theorem x_putL {a ci j idx N : Nat} {R : String} {T : u_T} {ty0 : Nat → FieldType} {v : Int64} (C : Ok κ own cc nL d) (hc : vwCl[ci]? = some (R, T, N)) (hin : ∀ w ∈ u_ws R T N, w ∈ gtbl) (hty : ∀ k, k < N → parseFieldDescriptor (T k).2.2.1 = some (ty0 k)) (hnm : ∀ a, a < N → ∀ b, b < N → a ≠ b → (T a).2.1 ≠ (T b).2.1) (hk : kd a = ci) (hci : ci < 10) (ha : a < NC) (hj : j < N) (hln : ln a = N) (hft : ftk ci j = 1) (hfin : (T j).2.2.2 = false) (hn : narrow (ty0 j) (.long v) = .long v) (hfit : fits (ty0 j) (.long v) = true) (hw : Cond.fieldLink own idx (T j).1 (T j).2.1 (T j).2.2.1 ∈ gtbl) (hd : decode cc pc = .ok (.putfield idx, 3)) (k : GG κ (pc + 3) loc st (wL σ a j v)) : GG κ pc loc (.long v :: .ref (kad κ a) :: st) σ := fun ls H locs hl hP hS => by
  refine va_put (ci := ci) C.hx C.hb C.hts hin ty0 hty hnm C.hown C.hK hP C.hD hS a ((wsN_at ha).trans (by rw [cellN_obj hk hci])) hc j hj (C.hts _ hw) (fun _ h => h) hfin (hty j hj) hn hfit (by rw [fvs_len, hln]; exact hj) hd (fun H1 locs1 hP1 hD1 hS1 => k ls H1 locs1 hl ?_ hS1)
  rw [wsN_set (σ' := wL σ a j v) ha (fun q hq => cellN_wL_ne q hq) ?_] at hP1
  · exact hP1
  · rw [cellN_obj hk hci]
    congr 2
    refine (fvs_set (by rw [hln]; exact hj) (fun q hq => ?_) ?_).symm
    · show fv _ _ _ (up2 σ.2.1 a j v a) _ _ = _
      rw [up2_self]
      simp [fv, hq] <;> rfl
    · show fv _ _ _ (up2 σ.2.1 a j v a) _ _ = _
      rw [up2_self, fv_l hft]
      simp
/-- arrays -/
theorem x_iald {a : Nat} {i : Int32} (C : Ok κ own cc nL d) (hk : kd a = 10) (ha : a < NC) (hi : vp_in i (ln a)) (hd : decode cc pc = .ok (.iaload, 1)) (k : GG κ (pc + 1) loc (.int (σ.1 a i.toNatClampNeg) :: st) σ) : GG κ pc loc (.int i :: .ref (kad κ a) :: st) σ := fun ls H locs hl hP hS =>
  va_iald C.hx C.hb C.hK hP a 0 ((wsN_at ha).trans (by rw [cellN_i hk])) rfl hi hd (k ls H locs hl hP hS)
theorem x_zald {a : Nat} {i : Int32} (C : Ok κ own cc nL d) (hk : kd a = 11) (ha : a < NC) (hi : vp_in i (ln a)) (hd : decode cc pc = .ok (.baload, 1)) (k : GG κ (pc + 1) loc (.int (σ.1 a i.toNatClampNeg) :: st) σ) : GG κ pc loc (.int i :: .ref (kad κ a) :: st) σ := fun ls H locs hl hP hS =>
  va_zald C.hx C.hb C.hK hP a 1 ((wsN_at ha).trans (by rw [cellN_z hk])) rfl hi hd (k ls H locs hl hP hS)
theorem x_lald {a : Nat} {i : Int32} (C : Ok κ own cc nL d) (hk : kd a = 12) (ha : a < NC) (hi : vp_in i (ln a)) (hd : decode cc pc = .ok (.laload, 1)) (k : GG κ (pc + 1) loc (.long (σ.2.1 a i.toNatClampNeg) :: st) σ) : GG κ pc loc (.int i :: .ref (kad κ a) :: st) σ := fun ls H locs hl hP hS =>
  va_lald C.hx C.hb C.hK hP a 2 ((wsN_at ha).trans (by rw [cellN_l hk])) rfl hi hd (k ls H locs hl hP hS)
theorem x_aald {a b c : Nat} {i : Int32} {ty : FieldType} (C : Ok κ own cc nL d) (hk : kd a = c) (hc : 12 < c) (hty : (tysL (kca κ))[c - 10]? = some (kca κ (c - 10), ty)) (href : ty.isReference = true) (ha : a < NC) (hi : vp_in i (ln a)) (hb : mrN σ.2.2 a i.toNatClampNeg = b) (hd : decode cc pc = .ok (.aaload, 1)) (k : GG κ (pc + 1) loc (.ref (kad κ b) :: st) σ) : GG κ pc loc (.int i :: .ref (kad κ a) :: st) σ := fun ls H locs hl hP hS => by
  have hlt : i.toNatClampNeg < ln a := Nat.not_le.mp fun q => hi (Or.inr q)
  have hcell := hP a _ ((wsN_at ha).trans (by rw [cellN_q hk hc]))
  have h1 : H[kad κ a]? = some (vp_cell (kca κ (c - 10)) (ln a, .inr (.inr (.inr (.inr (fun j => some (kad κ (mrN σ.2.2 a j)))))))) := hcell
  refine W.aald (v := .ref (kad κ b)) (ty := ty) C.hx C.hb h1 ((C.hK.2 (c - 10) _ hty).1 (ln a) (fun j => va_rf (some (kad κ (mrN σ.2.2 a j))))) href (fun q => by cases q) (by show ¬ (i < 0 ∨ (arrV _ _ _).slots.size ≤ _); rw [arrV_size]; exact hi) (by show (arrV _ _ _).slots[_]? = _; rw [arrV_read _ _ hlt]; show some (va_rf (some (kad κ (mrN σ.2.2 a i.toNatClampNeg)))) = _; rw [hb]; rfl) rfl rfl hd (k ls H locs hl hP hS)
theorem x_iast {a : Nat} {i v : Int32} (C : Ok κ own cc nL d) (hk : kd a = 10) (ha : a < NC) (hi : vp_in i (ln a)) (hd : decode cc pc = .ok (.iastore, 1)) (k : GG κ (pc + 1) loc st (wI σ a i.toNatClampNeg v)) : GG κ pc loc (.int v :: .int i :: .ref (kad κ a) :: st) σ := fun ls H locs hl hP hS => by
  refine va_iast C.hx C.hb C.hK hP C.hD hS a 0 ((wsN_at ha).trans (by rw [cellN_i hk])) rfl hi hd (fun H1 locs1 hP1 hD1 hS1 => k ls H1 locs1 hl ?_ hS1)
  rw [wsN_set (σ' := wI σ a i.toNatClampNeg v) ha (fun q hq => cellN_wI_ne q hq) ?_] at hP1
  · exact hP1
  · rw [cellN_i hk]
    show _ = (Sum.inl (_, _, Sum.inl (upd _ _ _)) : va_E)
    congr 4
    exact up2_self
theorem x_zast {a : Nat} {i v : Int32} (C : Ok κ own cc nL d) (hk : kd a = 11) (ha : a < NC) (hi : vp_in i (ln a)) (hv : v = 0 ∨ v = 1) (hd : decode cc pc = .ok (.bastore, 1)) (k : GG κ (pc + 1) loc st (wI σ a i.toNatClampNeg v)) : GG κ pc loc (.int v :: .int i :: .ref (kad κ a) :: st) σ := fun ls H locs hl hP hS => by
  refine va_zast C.hx C.hb C.hK hP C.hD hS a 1 ((wsN_at ha).trans (by rw [cellN_z hk])) rfl hi hd (fun H1 locs1 hP1 hD1 hS1 => k ls H1 locs1 hl ?_ hS1)
  have hnar : vp_nar .boolean v = v := by rcases hv with rfl | rfl <;> decide
  rw [hnar, wsN_set (σ' := wI σ a i.toNatClampNeg v) ha (fun q hq => cellN_wI_ne q hq) ?_] at hP1
  · exact hP1
  · rw [cellN_z hk]
    show _ = (Sum.inl (_, _, Sum.inl (upd _ _ _)) : va_E)
    congr 4
    exact up2_self
theorem x_last {a : Nat} {i : Int32} {v : Int64} (C : Ok κ own cc nL d) (hk : kd a = 12) (ha : a < NC) (hi : vp_in i (ln a)) (hd : decode cc pc = .ok (.lastore, 1)) (k : GG κ (pc + 1) loc st (wL σ a i.toNatClampNeg v)) : GG κ pc loc (.long v :: .int i :: .ref (kad κ a) :: st) σ := fun ls H locs hl hP hS => by
  refine va_last C.hx C.hb C.hK hP C.hD hS a 2 ((wsN_at ha).trans (by rw [cellN_l hk])) rfl hi hd (fun H1 locs1 hP1 hD1 hS1 => k ls H1 locs1 hl ?_ hS1)
  rw [wsN_set (σ' := wL σ a i.toNatClampNeg v) ha (fun q hq => cellN_wL_ne q hq) ?_] at hP1
  · exact hP1
  · rw [cellN_l hk]
    show _ = (Sum.inl (_, _, Sum.inr (Sum.inl (vp_updL _ _ _))) : va_E)
    congr 5
    exact up2_self
/-- the array "stored": a sentence comes to a place -/
theorem x_sast {b : Nat} {i : Int32} (C : Ok κ own cc nL d) (hkb : kd b = 0) (hb : b < NC) (hi : vp_in i 4) (hd : decode cc pc = .ok (.aastore, 1)) (k : GG κ (pc + 1) loc st (wS σ i.toNatClampNeg b)) : GG κ pc loc (.ref (kad κ b) :: .int i :: .ref (kad κ 4) :: st) σ := fun ls H locs hl hP hS => by
  refine va_astq C.hx C.hb C.hK hP C.hD hS 4 5 b 0 (r := (RX0, TX0, 5)) (n := 4) ((wsN_at (k := 4) (by decide)).trans (by rw [cellN_q (c := 15) rfl (by decide)]; rfl)) rfl ((wsN_at hb).trans (by rw [cellN_obj hkb (by decide)])) rfl hi hd (fun H1 locs1 hP1 hD1 hS1 => k ls H1 locs1 hl ?_ hS1)
  rw [wsN_set (σ' := wS σ i.toNatClampNeg b) (k := 4) (by decide) (fun q hq => cellN_wS_ne q hq) ?_] at hP1
  · exact hP1
  · rw [cellN_q (c := 15) rfl (by decide)]
    show _ = (Sum.inl (_, _, Sum.inr (Sum.inr (Sum.inr (Sum.inr (va_up _ _ _))))) : va_E)
    congr 7
    funext q
    by_cases hq : q = i.toNatClampNeg
    · simp [mrN, wS, va_up, hq]
    · simp [mrN, wS, va_up, hq]
/-- the table PLACES -/
theorem x_plc {i : Int32} (C : Ok κ own cc nL d) (hw : Cond.fieldLink own 51 RX4 "PLACES" "[I" ∈ gtbl) (hd : decode cc pc = .ok (.getstatic 51, 3)) (k : ∀ t : Nat, va_T .int t 7 (fun j => .int (plv j)) (kA κ) (kS κ) (kS κ).heap → GG κ (pc + 3) loc (.ref t :: st) σ) : GG κ pc loc st σ := fun ls H locs hl hP hS => by
  obtain ⟨-, -, t, hZ, hT⟩ := C.kn
  exact va_gets C.hx C.hb hZ hS C.hown (C.hts _ hw) (fun _ h => h) hd (k t hT ls H locs hl hP hS)
theorem x_pli {i : Int32} {t : Nat} (C : Ok κ own cc nL d) (hT : va_T .int t 7 (fun j => .int (plv j)) (kA κ) (kS κ) (kS κ).heap) (hi : vp_in i 7) (hd : decode cc pc = .ok (.iaload, 1)) (k : GG κ (pc + 1) loc (.int (plv i.toNatClampNeg) :: st) σ) : GG κ pc loc (.int i :: .ref t :: st) σ := fun ls H locs hl hP hS =>
  va_ti C.hx C.hb hT hS hi rfl hd (k ls H locs hl hP hS)
end XR

