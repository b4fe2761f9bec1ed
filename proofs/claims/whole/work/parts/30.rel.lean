/-! THE ABSTRACT STATE of a parser: text, sentences, weights (84, the tag weights 8 h + w, then the distance weights 71 + 6 d + k), slots, settings -/
abbrev SentT : Type := Nat × (Nat → Int32) × (Nat → Int32) × (Nat → Nat → Int32) × (Nat → Nat → Int32)
abbrev AS : Type := (Nat × (Nat → Int32)) × (Nat × (Nat → SentT)) × (Nat → Int32) × (Nat → Int32 × (Nat → Int32)) × (Int32 × Int32 × Int32)
abbrev aN (s : AS) : Nat := s.1.1
abbrev aT (s : AS) : Nat → Int32 := s.1.2
abbrev aM (s : AS) : Nat := s.2.1.1
abbrev aS (s : AS) : Nat → SentT := s.2.1.2
abbrev aW (s : AS) : Nat → Int32 := s.2.2.1
abbrev aK (s : AS) : Nat → Int32 × (Nat → Int32) := s.2.2.2.1
abbrev aG (s : AS) : Int32 × Int32 × Int32 := s.2.2.2.2
abbrev sZ (x : SentT) : Nat := x.1
abbrev sTg (x : SentT) : Nat → Int32 := x.2.1
abbrev sHd (x : SentT) : Nat → Int32 := x.2.2.1
abbrev sBi (x : SentT) : Nat → Nat → Int32 := x.2.2.2.1
abbrev sCo (x : SentT) : Nat → Nat → Int32 := x.2.2.2.2
abbrev BADI : Int32 := -1000001
abbrev BADV : Int32 := -1000002
abbrev FULLV : Int32 := -1000003
abbrev NONEV : Int32 := -1000004
abbrev FAULTV : Int32 := -1000005
def u1 {α : Type} (f : Nat → α) (i : Nat) (v : α) : Nat → α := fun j => if j = i then v else f j
def u2 {α : Type} (f : Nat → Nat → α) (i j : Nat) (v : α) : Nat → Nat → α := fun a b => if a = i ∧ b = j then v else f a b
/-- the heads as numbers; 0 for the root -/
def hdN (x : SentT) (w : Nat) : Nat := if w = 0 then 0 else ix (sHd x w)
/-- k steps towards the root -/
def itN (t : Nat → Nat) : Nat → Nat → Nat
  | 0, w => w
  | k + 1, w => itN t k (t w)
/-- every word comes to the root -/
def isT (n : Nat) (t : Nat → Nat) : Prop := ∀ w, 1 ≤ w → w ≤ n → itN t n w = 0
def wfS (x : SentT) : Prop := (1 ≤ sZ x ∧ sZ x ≤ 6) ∧ (∀ w, 1 ≤ w → w ≤ sZ x → (∃ t, t < 8 ∧ sTg x w = nI t) ∧ ∃ h, h ≤ sZ x ∧ h ≠ w ∧ sHd x w = nI h) ∧ isT (sZ x) (hdN x) ∧ (∀ h w, (-99 ≤ (sBi x h w).toInt ∧ (sBi x h w).toInt ≤ 99) ∧ (sCo x h w = 0 ∨ sCo x h w = 1 ∨ sCo x h w = 2))
def wfW (W : Nat → Int32) : Prop := ∀ k, -999 ≤ (W k).toInt ∧ (W k).toInt ≤ 999
def wf (s : AS) : Prop := (aN s ≤ 100 ∧ ∀ i, i < aN s → ∃ c, c < 128 ∧ aT s i = nI c) ∧ (aM s ≤ 4 ∧ ∀ i, i < aM s → wfS (aS s i)) ∧ wfW (aW s) ∧ (∀ j, isB (aK s j).1 ∧ wfW (aK s j).2) ∧ isB (aG s).1 ∧ isB (aG s).2.1 ∧ (-100 ≤ (aG s).2.2.toInt ∧ (aG s).2.2.toInt ≤ 100)
/-- the class's cells hold it -/
def RS (σ : St) (a : Nat) (x : SentT) : Prop := σ.1 a 0 = nI (sZ x) ∧ (∀ w, 1 ≤ w → w ≤ sZ x → σ.1 (a + 1) w = sTg x w ∧ σ.1 (a + 2) w = sHd x w) ∧ ∀ h, h < 7 → ∀ w, w < 7 → σ.1 (a + 4 + h) w = sBi x h w ∧ σ.1 (a + 12 + h) w = sCo x h w
def RB (σ : St) (a : Nat) : Prop := σ.1 a 0 = 0 ∧ ∀ h, h < 7 → ∀ w, w < 7 → σ.1 (a + 4 + h) w = 0 ∧ σ.1 (a + 12 + h) w = 0
def RW (σ : St) (a : Nat) (W : Nat → Int32) : Prop := (∀ h, h < 9 → ∀ w, w < 8 → σ.1 (a + 2 + h) w = W (8 * h + w)) ∧ ∀ d, d < 2 → ∀ k, 1 ≤ k → k ≤ 6 → σ.1 (a + 12 + d) k = W (71 + 6 * d + k)
def RC (σ : St) (s : AS) : Prop := (σ.1 1 1 = nI (aN s) ∧ ∀ i, i < aN s → σ.1 2 i = aT s i) ∧ (σ.1 0 2 = nI (aM s) ∧ aM s ≤ 4) ∧ ((∀ i, i < 4 → sOk (σ.2.2 i)) ∧ (∀ i, i < 4 → ∀ j, j < 4 → σ.2.2 i = σ.2.2 j → i = j) ∧ ∀ i, i < 4 → σ.1 (σ.2.2 i + 1) 0 = 8) ∧ ((∀ i, i < aM s → RS σ (σ.2.2 i) (aS s i)) ∧ ∀ i, aM s ≤ i → i < 4 → RB σ (σ.2.2 i)) ∧ RW σ 81 (aW s) ∧ (∀ j, j < 2 → σ.1 124 j = (aK s j).1 ∧ RW σ (96 + 14 * j) (aK s j).2) ∧ σ.1 125 0 = (aG s).1 ∧ σ.1 125 1 = (aG s).2.1 ∧ σ.1 125 2 = (aG s).2.2
/-- the reference's cells hold it -/
def RM (σ : St) (s : AS) : Prop := (σ.1 204 1 = nI (aN s) ∧ ∀ i, i < aN s → σ.1 205 i = aT s i) ∧ (σ.1 204 2 = nI (aM s) ∧ aM s ≤ 4) ∧ (∀ i, i < aM s → σ.1 206 i = nI (sZ (aS s i)) ∧ (∀ w, 1 ≤ w → w ≤ sZ (aS s i) → σ.1 207 (7 * i + w) = sTg (aS s i) w ∧ σ.1 208 (7 * i + w) = sHd (aS s i) w) ∧ ∀ h, h < 7 → ∀ w, w < 7 → σ.1 209 (49 * i + 7 * h + w) = sBi (aS s i) h w ∧ σ.1 210 (49 * i + 7 * h + w) = sCo (aS s i) h w) ∧ (∀ k, k < 84 → σ.1 211 k = aW s k) ∧ (∀ j, j < 2 → σ.1 213 j = (aK s j).1 ∧ ∀ k, k < 84 → σ.1 212 (84 * j + k) = (aK s j).2 k) ∧ σ.1 204 11 = (aG s).1 ∧ σ.1 204 12 = (aG s).2.1 ∧ σ.1 204 13 = (aG s).2.2
/-- on which cells two stores are alike -/
def frO (D : Nat → Prop) (σ σ' : St) : Prop := (∀ k, D k → σ'.1 k = σ.1 k ∧ σ'.2.1 k = σ.2.1 k) ∧ σ'.2.2 = σ.2.2
/-- the reference's cells -/
abbrev dM (k : Nat) : Prop := 204 ≤ k
/-- the class's cells that last -/
abbrev dC (k : Nat) : Prop := k < 126 ∧ k ≠ 3
/-- only the reference's cells (the places of "stored" may change) -/
def frM (σ σ' : St) : Prop := ∀ k, 204 ≤ k → σ'.1 k = σ.1 k ∧ σ'.2.1 k = σ.2.1 k
theorem frM.rf {σ : St} : frM σ σ := fun _ _ => ⟨rfl, rfl⟩
theorem frM.tr {a b c : St} (h : frM a b) (h2 : frM b c) : frM a c := fun k hk => ⟨(h2 k hk).1.trans (h k hk).1, (h2 k hk).2.trans (h k hk).2⟩
theorem frO.rf {D : Nat → Prop} {σ : St} : frO D σ σ := ⟨fun _ _ => ⟨rfl, rfl⟩, rfl⟩
theorem frO.tr {D : Nat → Prop} {a b c : St} (h : frO D a b) (h2 : frO D b c) : frO D a c := ⟨fun k hk => ⟨(h2.1 k hk).1.trans (h.1 k hk).1, (h2.1 k hk).2.trans (h.1 k hk).2⟩, h2.2.trans h.2⟩
theorem frO.mono {D E : Nat → Prop} {a b : St} (h : frO D a b) (hDE : ∀ k, E k → D k) : frO E a b := ⟨fun k hk => h.1 k (hDE k hk), h.2⟩
theorem wI_at {σ : St} {a i b j : Nat} {v : Int32} : (wI σ a i v).1 b j = if b = a ∧ j = i then v else σ.1 b j := rfl
theorem wI_self {σ : St} {a i : Nat} {v : Int32} : (wI σ a i v).1 a i = v := by simp [wI_at]
theorem wI_ne {σ : St} {a i b : Nat} {v : Int32} (h : b ≠ a) : (wI σ a i v).1 b = σ.1 b := up2_ne h
theorem wI_ni {σ : St} {a i b j : Nat} {v : Int32} (h : j ≠ i) : (wI σ a i v).1 b j = σ.1 b j := by simp [wI_at, h]
theorem wI_2 {σ : St} {a i : Nat} {v : Int32} : (wI σ a i v).2 = σ.2 := rfl
theorem wL_1 {σ : St} {a i : Nat} {v : Int64} : (wL σ a i v).1 = σ.1 := rfl
theorem wL_22 {σ : St} {a i : Nat} {v : Int64} : (wL σ a i v).2.2 = σ.2.2 := rfl
theorem wL_at {σ : St} {a i b j : Nat} {v : Int64} : (wL σ a i v).2.1 b j = if b = a ∧ j = i then v else σ.2.1 b j := rfl
theorem wL_ne {σ : St} {a i b : Nat} {v : Int64} (h : b ≠ a) : (wL σ a i v).2.1 b = σ.2.1 b := up2_ne h
theorem frO_wI {D : Nat → Prop} {σ : St} {a i : Nat} {v : Int32} (h : ¬ D a) : frO D σ (wI σ a i v) := ⟨fun k hk => ⟨wI_ne (fun e => h (e ▸ hk)), rfl⟩, rfl⟩
theorem frO_wL {D : Nat → Prop} {σ : St} {a i : Nat} {v : Int64} (h : ¬ D a) : frO D σ (wL σ a i v) := ⟨fun k hk => ⟨rfl, wL_ne (fun e => h (e ▸ hk))⟩, rfl⟩
theorem frM_wI {σ : St} {a i : Nat} {v : Int32} (h : a < 204) : frM σ (wI σ a i v) := fun k hk => ⟨wI_ne (by omega), rfl⟩
theorem frM_wL {σ : St} {a i : Nat} {v : Int64} (h : a < 204) : frM σ (wL σ a i v) := fun k hk => ⟨rfl, wL_ne (by omega)⟩
theorem frM_of {σ σ' : St} (h : frO dM σ σ') : frM σ σ' := h.1
theorem s_rng {a : Nat} (h : sOk a) : 5 ≤ a ∧ a ≤ 62 := by rcases h with rfl | rfl | rfl | rfl <;> decide
theorem RS_fr {σ σ' : St} {a : Nat} {x : SentT} (ha : sOk a) (h : RS σ a x) (hf : ∀ k, dC k → σ'.1 k = σ.1 k) : RS σ' a x := by
  obtain ⟨h5, h62⟩ := s_rng ha
  obtain ⟨h1, h2, h3⟩ := h
  refine ⟨by rw [hf a ⟨by omega, by omega⟩]; exact h1, fun w w1 w2 => ?_, fun p p1 w w1 => ?_⟩
  · rw [hf (a + 1) ⟨by omega, by omega⟩, hf (a + 2) ⟨by omega, by omega⟩]; exact h2 w w1 w2
  · rw [hf (a + 4 + p) ⟨by omega, by omega⟩, hf (a + 12 + p) ⟨by omega, by omega⟩]; exact h3 p p1 w w1
theorem RB_fr {σ σ' : St} {a : Nat} (ha : sOk a) (h : RB σ a) (hf : ∀ k, dC k → σ'.1 k = σ.1 k) : RB σ' a := by
  obtain ⟨h5, h62⟩ := s_rng ha
  obtain ⟨h1, h3⟩ := h
  refine ⟨by rw [hf a ⟨by omega, by omega⟩]; exact h1, fun p p1 w w1 => ?_⟩
  rw [hf (a + 4 + p) ⟨by omega, by omega⟩, hf (a + 12 + p) ⟨by omega, by omega⟩]; exact h3 p p1 w w1
theorem RW_fr {σ σ' : St} {a : Nat} {W : Nat → Int32} (ha : 4 ≤ a ∧ a ≤ 110) (h : RW σ a W) (hf : ∀ k, dC k → σ'.1 k = σ.1 k) : RW σ' a W := by
  obtain ⟨h1, h2⟩ := h
  refine ⟨fun p p1 w w1 => ?_, fun p p1 w w1 w2 => ?_⟩
  · rw [hf (a + 2 + p) ⟨by omega, by omega⟩]; exact h1 p p1 w w1
  · rw [hf (a + 12 + p) ⟨by omega, by omega⟩]; exact h2 p p1 w w1 w2
/-- the class's lasting cells alone count -/
theorem RC_fr {σ σ' : St} {s : AS} (h : RC σ s) (hf : frO dC σ σ') : RC σ' s := by
  have hf1 : ∀ k, dC k → σ'.1 k = σ.1 k := fun k hk => (hf.1 k hk).1
  obtain ⟨⟨h1, h2⟩, h3, ⟨h4, h5, h6⟩, ⟨h7, h8⟩, h9, h10, h11, h12, h13⟩ := h
  rw [RC, hf.2]
  refine ⟨⟨by rw [hf1 1 (by decide)]; exact h1, fun i hi => by rw [hf1 2 (by decide)]; exact h2 i hi⟩, ⟨by rw [hf1 0 (by decide)]; exact h3.1, h3.2⟩, ⟨h4, h5, fun i hi => ?_⟩, ⟨fun i hi => ?_, fun i hi hj => RB_fr (h4 i hj) (h8 i hi hj) hf1⟩, RW_fr (by decide) h9 hf1, fun j hj => ⟨by rw [hf1 124 (by decide)]; exact (h10 j hj).1, RW_fr (by omega) (h10 j hj).2 hf1⟩, ?_, ?_, ?_⟩
  · have := s_rng (h4 i hi)
    rw [hf1 _ ⟨by omega, by omega⟩]; exact h6 i hi
  · exact RS_fr (h4 i (Nat.lt_of_lt_of_le hi h3.2)) (h7 i hi) hf1
  · rw [hf1 125 (by decide)]; exact h11
  · rw [hf1 125 (by decide)]; exact h12
  · rw [hf1 125 (by decide)]; exact h13
/-- the reference's cells that last: 204 .. 213 -/
theorem RM_fr {σ σ' : St} {s : AS} (h : RM σ s) (hf : ∀ k, 204 < k → k ≤ 213 → σ'.1 k = σ.1 k) (h4 : ∀ j, j = 1 ∨ j = 2 ∨ j = 11 ∨ j = 12 ∨ j = 13 → σ'.1 204 j = σ.1 204 j) : RM σ' s := by
  obtain ⟨⟨h1, h2⟩, h3, h5, h6, h7, h8, h9, h10⟩ := h
  refine ⟨⟨by rw [h4 1 (by decide)]; exact h1, fun i hi => by rw [hf 205 (by decide) (by decide)]; exact h2 i hi⟩, ⟨by rw [h4 2 (by decide)]; exact h3.1, h3.2⟩, fun i hi => ?_, fun k hk => by rw [hf 211 (by decide) (by decide)]; exact h6 k hk, fun j hj => ?_, by rw [h4 11 (by decide)]; exact h8, by rw [h4 12 (by decide)]; exact h9, by rw [h4 13 (by decide)]; exact h10⟩
  · rw [hf 206 (by decide) (by decide), hf 207 (by decide) (by decide), hf 208 (by decide) (by decide), hf 209 (by decide) (by decide), hf 210 (by decide) (by decide)]
    exact h5 i hi
  · rw [hf 212 (by decide) (by decide), hf 213 (by decide) (by decide)]
    exact h7 j hj
theorem RM_frM {σ σ' : St} {s : AS} (h : RM σ s) (hf : frM σ σ') : RM σ' s := RM_fr h (fun k h1 _ => (hf k (by omega)).1) (fun j _ => by rw [(hf 204 (by omega)).1])
/-- the class's part when the reference has worked: nothing below 204 changed -/
def frK (σ σ' : St) : Prop := (∀ k, k < 204 → σ'.1 k = σ.1 k ∧ σ'.2.1 k = σ.2.1 k) ∧ σ'.2.2 = σ.2.2
theorem frK.rf {σ : St} : frK σ σ := ⟨fun _ _ => ⟨rfl, rfl⟩, rfl⟩
theorem frK.tr {a b c : St} (h : frK a b) (h2 : frK b c) : frK a c := ⟨fun k hk => ⟨(h2.1 k hk).1.trans (h.1 k hk).1, (h2.1 k hk).2.trans (h.1 k hk).2⟩, h2.2.trans h.2⟩
theorem frK_wI {σ : St} {a i : Nat} {v : Int32} (h : 204 ≤ a) : frK σ (wI σ a i v) := ⟨fun k hk => ⟨wI_ne (by omega), rfl⟩, rfl⟩
theorem frK_wL {σ : St} {a i : Nat} {v : Int64} (h : 204 ≤ a) : frK σ (wL σ a i v) := ⟨fun k hk => ⟨rfl, wL_ne (by omega)⟩, rfl⟩
theorem RC_frK {σ σ' : St} {s : AS} (h : RC σ s) (hf : frK σ σ') : RC σ' s := RC_fr h ⟨fun k hk => hf.1 k (by have := hk.1; omega), hf.2⟩
/-- indices as the calls take them -/
theorem T_lt {x y : Int32} : x < y ↔ x.toInt < y.toInt := Int32.lt_iff_toInt_lt
theorem T_le {x y : Int32} : x ≤ y ↔ x.toInt ≤ y.toInt := Int32.le_iff_toInt_le
theorem T_eq {x y : Int32} : x = y ↔ x.toInt = y.toInt := Int32.toInt_inj.symm
theorem ix_nI {j : Nat} (h : j < 2 ^ 31) : ix (nI j) = j := nI_clamp h
theorem nI_inj {a b : Nat} (ha : a < 2 ^ 31) (hb : b < 2 ^ 31) (h : nI a = nI b) : a = b := (nI_eq ha hb).mp h
def idx (p : Int32) (m : Nat) : Option Nat := if p < 0 then none else if nI m ≤ p then none else some (ix p)
theorem idx_cases (p : Int32) {m : Nat} (hm : m < 2 ^ 31) : (idx p m = none ∧ (p < 0 ∨ (¬ p < 0 ∧ nI m ≤ p))) ∨ ∃ j, j < m ∧ p = nI j ∧ idx p m = some j := by
  by_cases h : p < 0
  · exact Or.inl ⟨by simp [idx, h], Or.inl h⟩
  · by_cases h2 : nI m ≤ p
    · exact Or.inl ⟨by simp [idx, h2], Or.inr ⟨h, h2⟩⟩
    · obtain ⟨j, hj, rfl⟩ := nI_of h
      have hjm : j < m := Nat.not_le.mp fun q => h2 (nI_le q hj)
      exact Or.inr ⟨j, hjm, rfl, by simp [idx, h, h2, ix_nI hj]⟩
def wdx (p : Int32) (n : Nat) : Option Nat := if p < 1 then none else if nI n < p then none else some (ix p)
theorem wdx_cases (p : Int32) {n : Nat} (hn : n < 2 ^ 31) : (wdx p n = none ∧ (p < 1 ∨ (¬ p < 1 ∧ nI n < p))) ∨ ∃ j, 1 ≤ j ∧ j ≤ n ∧ p = nI j ∧ wdx p n = some j := by
  by_cases h : p < 1
  · exact Or.inl ⟨by simp [wdx, h], Or.inl h⟩
  · by_cases h2 : nI n < p
    · exact Or.inl ⟨by simp [wdx, h2], Or.inr ⟨h, h2⟩⟩
    · have h0 : ¬ p < 0 := fun q => h (by rw [T_lt] at *; have : (0 : Int32).toInt = 0 := rfl; have : (1 : Int32).toInt = 1 := rfl; omega)
      obtain ⟨j, hj, rfl⟩ := nI_of h0
      have h1 : 1 ≤ j := by
        rcases Nat.eq_zero_or_pos j with q | q
        · subst q; exact absurd (by decide) h
        · exact q
      have hjn : j ≤ n := Nat.not_lt.mp fun q => h2 (nI_lt q hj)
      exact Or.inr ⟨j, h1, hjn, rfl, by simp [wdx, h, h2, ix_nI hj]⟩
/-- an arc: head and word -/
def adx (p q : Int32) (n : Nat) : Option (Nat × Nat) := match wdx q n with
  | none => none
  | some w => if p < 0 then none else if nI n < p then none else if p = q then none else some (ix p, w)
theorem adx_cases (p q : Int32) {n : Nat} (hn : n < 2 ^ 31) : (adx p q n = none ∧ (wdx q n = none ∨ ∃ w, wdx q n = some w ∧ (p < 0 ∨ (¬ p < 0 ∧ nI n < p) ∨ (¬ p < 0 ∧ ¬ nI n < p ∧ p = q)))) ∨ ∃ h w, h ≤ n ∧ 1 ≤ w ∧ w ≤ n ∧ h ≠ w ∧ p = nI h ∧ q = nI w ∧ adx p q n = some (h, w) ∧ wdx q n = some w := by
  rcases wdx_cases q hn with ⟨hw, -⟩ | ⟨w, h1, h2, rfl, hw⟩
  · exact Or.inl ⟨by simp [adx, hw], Or.inl hw⟩
  · by_cases hp : p < 0
    · exact Or.inl ⟨by simp [adx, hw, hp], Or.inr ⟨w, hw, Or.inl hp⟩⟩
    · by_cases hp2 : nI n < p
      · exact Or.inl ⟨by simp [adx, hw, hp2], Or.inr ⟨w, hw, Or.inr (Or.inl ⟨hp, hp2⟩)⟩⟩
      · by_cases hp3 : p = nI w
        · exact Or.inl ⟨by simp [adx, hw, hp3], Or.inr ⟨w, hw, Or.inr (Or.inr ⟨hp, hp2, hp3⟩)⟩⟩
        · obtain ⟨h, hh, rfl⟩ := nI_of hp
          have hhn : h ≤ n := Nat.not_lt.mp fun q => hp2 (nI_lt q hh)
          exact Or.inr ⟨h, w, hhn, h1, h2, fun e => hp3 (by rw [e]), rfl, rfl, by simp [adx, hw, hp, hp2, hp3, ix_nI hh], hw⟩
