/-! the reference's orders -/
theorem bit_test : ∀ m, m < 128 → ∀ v, v < 7 → ((((nI m >>> (nI v &&& 31)) &&& 1) = 1) ↔ m.testBit v = true) := by decide +kernel
theorem bit_set : ∀ m, m < 128 → ∀ v, v < 7 → nI m ||| (1 <<< (nI v &&& 31)) = nI (m ||| 2 ^ v) ∧ m ||| 2 ^ v < 128 := by decide +kernel
theorem bit_get : ∀ m, m < 128 → ∀ v, v < 7 → ∀ w, w < 7 → (m ||| 2 ^ v).testBit w = (decide (w = v) || m.testBit w) := by decide +kernel
def offs (m : Nat) : Nat := ((List.range 7).filter (fun v => !m.testBit v)).length
theorem offs_lt : ∀ m, m < 128 → ∀ v, v < 7 → m.testBit v = false → offs (m ||| 2 ^ v) < offs m := by decide +kernel
section RORD
variable {σ : St}
theorem placeOf_M {K : Int32 → St → Prop} {l : List Nat} {v : Nat} (hl : l.length ≤ 7) (hA : arL σ 225 l) (hb : ∀ a, a ∈ l → a < 100) (hv : v < 100) (h1 : ∀ A B, l = A ++ v :: B → v ∉ A → K (nI A.length) σ) (h0 : v ∉ l → K (-1) σ) : P_X8_placeOf (nI v) (nI l.length) σ K := by
  unfold P_X8_placeOf
  refine LpE_for (S := Int32 × St) (T := Unit) (fun i _ => (nI i, σ)) (fun i _ => v ∉ l.take i) l.length ?_ 0 () (by omega) (by simp)
  intro i _ c hi hI hc
  dsimp only
  unfold F_X8_placeOf_2
  rw [nI_leI (by omega) (by omega)]
  refine ⟨fun q => h0 ?_, fun q => ⟨vp_in_nI (by omega) (by decide), ?_⟩⟩
  · rw [List.take_of_length_le q] at hI; exact hI
  · have hi2 : i < l.length := by omega
    rw [ix_nI (by omega), hA i hi2, nI_eq (by have := hb _ (List.getElem_mem hi2); omega) (by omega), nI_1]
    refine ⟨fun e => ?_, fun e v2 e2 => ?_⟩
    · have := h1 (l.take i) (l.drop (i + 1)) (by rw [← e, ← List.drop_eq_getElem_cons hi2, List.take_append_drop]) hI
      rw [List.length_take, Nat.min_eq_left (by omega)] at this; exact this
    · rw [e2]
      refine hc () hi2 ?_
      rw [List.take_succ_eq_append_getElem hi2]
      intro z
      rcases List.mem_append.mp z with z | z
      · exact hI z
      · exact e (List.mem_singleton.mp z).symm
theorem inserts_M {K : St → Prop} {A B : List Nat} {w : Nat} (hl : (A ++ B).length < 7) (hA : arL σ 225 (A ++ B)) (hK : ∀ σ', (σ'.2 = σ.2 ∧ ∀ c, c ≠ 225 → σ'.1 c = σ.1 c) → arL σ' 225 (A ++ w :: B) → K σ') : P_X8_inserts (nI A.length) (nI (A ++ B).length) (nI w) σ K := by
  unfold P_X8_inserts
  have hlen : (A ++ B).length = A.length + B.length := List.length_append
  refine LpE_for (S := Int32 × St) (fun i t => (nI ((A ++ B).length - i), t)) (fun i σ' => (σ'.2 = σ.2 ∧ ∀ c, c ≠ 225 → σ'.1 c = σ.1 c) ∧ (∀ z, (hz : z < (A ++ B).length) → z < (A ++ B).length - i → σ'.1 225 z = nI (A ++ B)[z]) ∧ ∀ z, (hz : z < (A ++ B).length) → (A ++ B).length - i ≤ z → σ'.1 225 (z + 1) = nI (A ++ B)[z]) B.length ?_ 0 σ (by omega) ⟨⟨rfl, fun _ _ => rfl⟩, fun z hz _ => hA z hz, fun z hz h => by omega⟩
  intro i σ' c hi ⟨f1, f2, f3⟩ hc
  dsimp only
  unfold F_X8_inserts_3
  rw [nI_leI (by omega) (by omega)]
  refine ⟨fun q => ⟨vp_in_nI (by omega) (by decide), fun s2 e2 => ?_⟩, fun q => ?_⟩
  · have hiB : i = B.length := by omega
    rw [ix_nI (by omega)] at e2
    refine hK s2 ⟨by rw [e2, wI_2]; exact f1.1, fun c hc => by rw [e2, wI_ne hc]; exact f1.2 c hc⟩ (fun z hz => ?_)
    rw [e2]
    have hz' : z < A.length + (B.length + 1) := by rw [List.length_append, List.length_cons] at hz; exact hz
    by_cases e : z = A.length
    · subst e
      rw [wI_self, List.getElem_append_right (Nat.le_refl _)]
      simp only [Nat.sub_self, List.getElem_cons_zero]
    · rw [wI_ni e]
      rcases Nat.lt_or_ge z A.length with z1 | z1
      · rw [List.getElem_append_left z1, f2 z (by omega) (by omega), List.getElem_append_left z1]
      · have := f3 (z - 1) (by omega) (by omega)
        rw [show z - 1 + 1 = z by omega] at this
        rw [this, List.getElem_append_right (by omega), List.getElem_append_right (by omega)]
        have e3 : z - A.length = (z - 1 - A.length) + 1 := by omega
        congr 1
        simp only [e3, List.getElem_cons_succ]
  · rw [show nI ((A ++ B).length - i) - 1 = nI ((A ++ B).length - i - 1) from pk_sub (b := 1) (by omega)]
    refine ⟨vp_in_nI (by omega) (by decide), vp_in_nI (by omega) (by decide), fun s5 e5 v6 e6 => ?_⟩
    rw [show nI ((A ++ B).length - i) + -1 = nI ((A ++ B).length - (i + 1)) by
      rw [← Int32.sub_eq_add_neg, show nI ((A ++ B).length - i) - 1 = nI ((A ++ B).length - i - 1) from pk_sub (b := 1) (by omega)]; congr 1] at e6
    rw [ix_nI (by omega), ix_nI (by omega)] at e5
    rw [e6]
    refine hc s5 (by omega) ⟨⟨by rw [e5, wI_2]; exact f1.1, fun c hc => by rw [e5, wI_ne hc]; exact f1.2 c hc⟩, fun z hz h => ?_, fun z hz h => ?_⟩
    · rw [e5, wI_ni (by omega)]; exact f2 z hz (by omega)
    · rw [e5]
      by_cases e : z + 1 = (A ++ B).length - i
      · rw [← e, wI_self, Nat.add_sub_cancel]; exact f2 z hz (by omega)
      · rw [wI_ni e]; exact f3 z hz (by omega)
/-- what stands for a node in the end -/
def blk (n : Nat) (t : Nat → Nat) (m v : Nat) : List Nat := if m.testBit v then [v] else ordF n t v
variable {n : Nat} {t : Nat → Nat}
def TR (n : Nat) (t : Nat → Nat) : Prop := (n ≤ 6) ∧ (∀ w, 1 ≤ w → w ≤ n → t w ≤ n ∧ t w ≠ w) ∧ (isT n t) ∧ (t 0 = 0)
theorem TR.n6 {n : Nat} {t : Nat → Nat} (h : TR n t) : n ≤ 6 := h.1
theorem TR.ht {n : Nat} {t : Nat → Nat} (h : TR n t) : ∀ w, 1 ≤ w → w ≤ n → t w ≤ n ∧ t w ≠ w := h.2.1
theorem TR.tt {n : Nat} {t : Nat → Nat} (h : TR n t) : isT n t := h.2.2.1
theorem TR.t0 {n : Nat} {t : Nat → Nat} (h : TR n t) : t 0 = 0 := h.2.2.2
theorem TR.perm (h : TR n t) : (ordF n t 0).Perm (List.range (n + 1)) := ord_perm (by have := h.n6; omega) h.ht h.tt h.t0
theorem TR.len (h : TR n t) : (ordF n t 0).length = n + 1 := by rw [h.perm.length_eq, List.length_range]
theorem TR.nd (h : TR n t) : (ordF n t 0).Nodup := by rw [h.perm.nodup_iff]; exact List.nodup_range
theorem TR.mem (h : TR n t) {v : Nat} : v ∈ ordF n t 0 ↔ v ≤ n := by rw [h.perm.mem_iff, List.mem_range]; omega
theorem TR.fix (h : TR n t) {v : Nat} (hv : v ≤ n) : ordF n t v = (lkT t v).flatMap (ordF n t) ++ v :: (rkT n t v).flatMap (ordF n t) := ord_fix (by have := h.n6; omega) h.ht h.tt h.t0 hv
theorem TR.self (h : TR n t) {v : Nat} (hv : v ≤ n) : v ∈ ordF n t v := by rw [h.fix hv]; simp
theorem blk_self (h : TR n t) {m v : Nat} (hv : v ≤ n) : v ∈ blk n t m v := by
  unfold blk
  split
  · exact List.mem_singleton.mpr rfl
  · exact h.self hv
theorem blk_len (h : TR n t) {m : Nat} : ∀ l : List Nat, (∀ v, v ∈ l → v ≤ n) → l.length ≤ (l.flatMap (blk n t m)).length
  | [], _ => Nat.le_refl _
  | a :: l, hl => by
    rw [List.flatMap_cons, List.length_append, List.length_cons]
    have h1 := blk_len h (m := m) l (fun v hv => hl v (List.mem_cons_of_mem _ hv))
    have h2 : 0 < (blk n t m a).length := List.length_pos_of_mem (blk_self h (hl a List.mem_cons_self))
    omega
theorem blk_all (h : TR n t) {m : Nat} : ∀ l : List Nat, (∀ v, v ∈ l → v ≤ n) → (l.flatMap (blk n t m)).length ≤ l.length → l.flatMap (blk n t m) = l
  | [], _, _ => rfl
  | a :: l, hl, hle => by
    rw [List.flatMap_cons, List.length_append, List.length_cons] at hle
    have hl2 : ∀ v, v ∈ l → v ≤ n := fun v hv => hl v (List.mem_cons_of_mem _ hv)
    have h1 := blk_len h (m := m) l hl2
    have hs := blk_self h (m := m) (hl a List.mem_cons_self)
    have h2 : 0 < (blk n t m a).length := List.length_pos_of_mem hs
    have h3 : blk n t m a = [a] := by
      obtain ⟨b, hb⟩ := List.length_eq_one_iff.mp (show (blk n t m a).length = 1 by omega)
      rw [hb] at hs ⊢
      rw [List.mem_singleton.mp hs]
    rw [List.flatMap_cons, h3, blk_all h l hl2 (by omega)]
    rfl
/-- the reference's list under way -/
def OL (n : Nat) (t : Nat → Nat) (m : Nat) (l : List Nat) : Prop := (m < 128) ∧ (l.flatMap (blk n t m) = ordF n t 0) ∧ (∀ v, v ∈ l → v ≤ n) ∧ (∀ v, v < 7 → m.testBit v = true → v ∈ l)
theorem OL.mb {n : Nat} {t : Nat → Nat} {m : Nat} {l : List Nat} (h : OL n t m l) : m < 128 := h.1
theorem OL.fin {n : Nat} {t : Nat → Nat} {m : Nat} {l : List Nat} (h : OL n t m l) : l.flatMap (blk n t m) = ordF n t 0 := h.2.1
theorem OL.le {n : Nat} {t : Nat → Nat} {m : Nat} {l : List Nat} (h : OL n t m l) : ∀ v, v ∈ l → v ≤ n := h.2.2.1
theorem OL.dn {n : Nat} {t : Nat → Nat} {m : Nat} {l : List Nat} (h : OL n t m l) : ∀ v, v < 7 → m.testBit v = true → v ∈ l := h.2.2.2
theorem OL.len {m : Nat} {l : List Nat} (h : OL n t m l) (hT : TR n t) : l.length ≤ n + 1 := by
  have := blk_len hT (m := m) l h.le
  rw [h.fin, hT.len] at this; exact this
/-- a node with its children -/
theorem OL.step {m : Nat} {A B : List Nat} {v : Nat} (hT : TR n t) (h : OL n t m (A ++ v :: B)) (hv : m.testBit v = false) : OL n t (m ||| 2 ^ v) (A ++ lkT t v ++ v :: (rkT n t v ++ B)) ∧ v ∉ A := by
  have hvn : v ≤ n := h.le v (by simp)
  have hn6 := hT.n6
  have hbv : blk n t m v = (lkT t v).flatMap (ordF n t) ++ v :: (rkT n t v).flatMap (ordF n t) := by unfold blk; rw [hv]; exact hT.fix hvn
  have hc1 : ∀ a, ((A ++ v :: B).flatMap (blk n t m)).count a ≤ 1 := by rw [h.fin]; exact List.nodup_iff_count.mp hT.nd
  have hin : ∀ a, a ∈ A ∨ a ∈ B → a ∉ blk n t m v := by
    intro a ha hb
    have := hc1 a
    rw [List.flatMap_append, List.flatMap_cons, List.count_append, List.count_append] at this
    have h1 := List.count_pos_iff.mpr hb
    rcases ha with ha | ha
    · have h2 : 0 < (A.flatMap (blk n t m)).count a := List.count_pos_iff.mpr (List.mem_flatMap.mpr ⟨a, ha, blk_self hT (h.le a (by simp [ha]))⟩)
      omega
    · have h2 : 0 < (B.flatMap (blk n t m)).count a := List.count_pos_iff.mpr (List.mem_flatMap.mpr ⟨a, ha, blk_self hT (h.le a (by simp [ha]))⟩)
      omega
  have hvA : v ∉ A := fun z => hin v (Or.inl z) (blk_self hT hvn)
  have hvB : v ∉ B := fun z => hin v (Or.inr z) (blk_self hT hvn)
  have hkid : ∀ c, c ∈ lkT t v ∨ c ∈ rkT n t v → c ≤ n ∧ c ≠ v ∧ c ∈ blk n t m v := by
    intro c hc
    rcases hc with hc | hc
    · have h1 := (kid_l (t := t)).mp hc
      refine ⟨by omega, by omega, ?_⟩
      rw [hbv]
      exact List.mem_append_left _ (List.mem_flatMap.mpr ⟨c, hc, hT.self (by omega)⟩)
    · have h1 := (kid_r (n := n) (t := t)).mp hc
      refine ⟨by omega, by omega, ?_⟩
      rw [hbv]
      exact List.mem_append_right _ (List.mem_cons_of_mem _ (List.mem_flatMap.mpr ⟨c, hc, hT.self (by omega)⟩))
  have hsame : ∀ l : List Nat, (∀ c, c ∈ l → c ≠ v ∧ c ≤ n) → l.flatMap (blk n t (m ||| 2 ^ v)) = l.flatMap (blk n t m) := by
    intro l
    induction l with
    | nil => intro _; rfl
    | cons a l ih =>
      intro hl
      have ha := hl a List.mem_cons_self
      rw [List.flatMap_cons, List.flatMap_cons, ih (fun c hc => hl c (List.mem_cons_of_mem _ hc))]
      congr 1
      unfold blk
      rw [bit_get m h.mb v (by omega) a (by omega), decide_eq_false ha.1, Bool.false_or]
  have hkb : ∀ l : List Nat, (∀ c, c ∈ l → c ≤ n ∧ c ≠ v ∧ c ∈ blk n t m v) → l.flatMap (blk n t (m ||| 2 ^ v)) = l.flatMap (ordF n t) := by
    intro l
    induction l with
    | nil => intro _; rfl
    | cons a l ih =>
      intro hl
      have ha := hl a List.mem_cons_self
      rw [List.flatMap_cons, List.flatMap_cons, ih (fun c hc => hl c (List.mem_cons_of_mem _ hc))]
      congr 1
      unfold blk
      rw [bit_get m h.mb v (by omega) a (by omega), decide_eq_false ha.2.1, Bool.false_or]
      cases hb : m.testBit a
      · rfl
      · exfalso
        have := h.dn a (by omega) hb
        rcases List.mem_append.mp this with z | z
        · exact hin a (Or.inl z) ha.2.2
        · rcases List.mem_cons.mp z with z | z
          · exact ha.2.1 z
          · exact hin a (Or.inr z) ha.2.2
  refine ⟨⟨(bit_set m h.mb v (by omega)).2, ?_, fun c hc => ?_, fun c hc hb => ?_⟩, hvA⟩
  · have hf := h.fin
    rw [List.flatMap_append, List.flatMap_cons, hbv] at hf
    rw [List.flatMap_append, List.flatMap_append, List.flatMap_cons, List.flatMap_append, hsame A (fun c hc => ⟨fun e => hvA (e ▸ hc), h.le c (by simp [hc])⟩), hsame B (fun c hc => ⟨fun e => hvB (e ▸ hc), h.le c (by simp [hc])⟩), hkb _ (fun c hc => hkid c (Or.inl hc)), hkb _ (fun c hc => hkid c (Or.inr hc)), ← hf]
    have : blk n t (m ||| 2 ^ v) v = [v] := by
      unfold blk
      rw [bit_get m h.mb v (by omega) v (by omega)]; simp
    rw [this]
    simp [List.append_assoc]
  · rcases List.mem_append.mp hc with z | z
    · rcases List.mem_append.mp z with z | z
      · exact h.le c (by simp [z])
      · exact (hkid c (Or.inl z)).1
    · rcases List.mem_cons.mp z with z | z
      · omega
      · rcases List.mem_append.mp z with z | z
        · exact (hkid c (Or.inr z)).1
        · exact h.le c (by simp [z])
  · rw [bit_get m h.mb v (by omega) c hc, Bool.or_eq_true, decide_eq_true_iff] at hb
    rcases hb with hb | hb
    · subst hb; simp
    · have := h.dn c hc hb
      rcases List.mem_append.mp this with z | z
      · simp [z]
      · rcases List.mem_cons.mp z with z | z
        · simp [z]
        · simp [z]
end RORD
