/-! read: what a good text holds -/
def okE (N : Nat) (τ : Nat → Nat) (e : Nat × Nat) : Prop := 1 ≤ e.2 ∧ e.2 ≤ 6 ∧ e.1 + 2 * e.2 < N ∧ (∀ w, 1 ≤ w → w ≤ e.2 → (65 ≤ τ (e.1 + 2 * w - 2) ∧ τ (e.1 + 2 * w - 2) ≤ 72) ∧ (48 ≤ τ (e.1 + 2 * w - 1) ∧ τ (e.1 + 2 * w - 1) ≤ 57) ∧ τ (e.1 + 2 * w - 1) ≠ w + 48) ∧ treeB e.2 (cap e.2 (fun w => τ (e.1 + 2 * w - 1) - 48)) = true
theorem treeBc_congr {n : Nat} {f g : Nat → Nat} (h : ∀ w, 1 ≤ w → w ≤ n → f w = g w) : treeB n (cap n f) = treeB n (cap n g) := by
  have e : ∀ v, v ≤ n → cap n f v = cap n g v ∧ cap n f v ≤ n := by
    intro v hv
    unfold cap
    by_cases e0 : v = 0
    · rw [if_pos e0, if_pos e0]; exact ⟨rfl, by omega⟩
    · rw [if_neg e0, if_neg e0, h v (by omega) hv]
      refine ⟨rfl, ?_⟩
      split <;> omega
  have := isT_congr e
  rw [← treeB_iff, ← treeB_iff] at this
  exact Bool.eq_iff_iff.mpr this
theorem sg_ok {N : Nat} {τ : Nat → Nat} : ∀ (f i n : Nat) (row : Nat → Nat), N < i + f → ff N τ f i n row = none → 2 * n ≤ i → n ≤ 6 → (∀ w, 1 ≤ w → w ≤ n → ((65 ≤ τ (i - 2 * n + 2 * w - 2) ∧ τ (i - 2 * n + 2 * w - 2) ≤ 72) ∧ (48 ≤ τ (i - 2 * n + 2 * w - 1) ∧ τ (i - 2 * n + 2 * w - 1) ≤ 57) ∧ τ (i - 2 * n + 2 * w - 1) ≠ w + 48) ∧ row w = τ (i - 2 * n + 2 * w - 1) - 48) → ∀ e, e ∈ sg N τ f i n → okE N τ e := by
  intro f
  induction f with
  | zero => intro i n row h1 h2 h3 h4 h5 e he; rw [sg] at he; cases he
  | succ f ih =>
    intro i n row h1 h2 h3 h4 h5 e he
    rw [sg] at he
    rw [ff] at h2
    by_cases q : N ≤ i
    · rw [if_pos q] at he; cases he
    · rw [if_neg q] at he h2
      by_cases q2 : τ i = 59
      · rw [if_pos q2] at he h2
        by_cases q3 : n = 0 ∨ treeB n (cap n row) = false
        · rw [if_pos q3] at h2; cases h2
        · rw [if_neg q3] at h2
          rcases List.mem_cons.mp he with rfl | he
          · refine ⟨by omega, h4, by show i - 2 * n + 2 * n < N; omega, fun w w1 w2 => (h5 w w1 w2).1, ?_⟩
            have : treeB n (cap n row) = true := by
              cases hb : treeB n (cap n row)
              · exact absurd (Or.inr hb) q3
              · rfl
            rw [← this]
            exact treeBc_congr (fun w w1 w2 => (h5 w w1 w2).2.symm)
          · exact ih (i + 1) 0 _ (by omega) h2 (by omega) (by omega) (fun w w1 w2 => by omega) e he
      · rw [if_neg q2] at he h2
        by_cases q3 : ¬ (65 ≤ τ i ∧ τ i ≤ 72) ∨ 6 ≤ n
        · rw [if_pos q3] at h2; cases h2
        rw [if_neg q3] at h2
        by_cases q4 : N ≤ i + 1
        · rw [if_pos q4] at h2; cases h2
        rw [if_neg q4] at h2
        by_cases q5 : ¬ (48 ≤ τ (i + 1) ∧ τ (i + 1) ≤ 57) ∨ τ (i + 1) = n + 49
        · rw [if_pos q5] at h2; cases h2
        rw [if_neg q5] at h2
        refine ih (i + 2) (n + 1) _ (by omega) h2 (by omega) (by omega) (fun w w1 w2 => ?_) e he
        rw [show i + 2 - 2 * (n + 1) = i - 2 * n by omega]
        by_cases e1 : w = n + 1
        · rw [show i - 2 * n + 2 * w - 2 = i by omega, show i - 2 * n + 2 * w - 1 = i + 1 by omega]
          exact ⟨by omega, by unfold u1; rw [if_pos e1]⟩
        · have := h5 w w1 (by omega)
          refine ⟨this.1, ?_⟩
          unfold u1
          rw [if_neg e1]; exact this.2
theorem sg_ne {N : Nat} {τ : Nat → Nat} : ∀ (f i n : Nat) (row : Nat → Nat), N < i + f → i ≤ N → ff N τ f i n row = none → (i < N ∨ 0 < n) → sg N τ f i n ≠ [] := by
  intro f
  induction f with
  | zero => intro i n row h1 h1b h2 h3; omega
  | succ f ih =>
    intro i n row h1 h1b h2 h3
    rw [sg]
    rw [ff] at h2
    by_cases q : N ≤ i
    · rw [if_pos q, if_pos (by omega)] at h2; cases h2
    · rw [if_neg q] at h2 ⊢
      by_cases q2 : τ i = 59
      · rw [if_pos q2]; exact List.cons_ne_nil _ _
      · rw [if_neg q2] at h2 ⊢
        by_cases q3 : ¬ (65 ≤ τ i ∧ τ i ≤ 72) ∨ 6 ≤ n
        · rw [if_pos q3] at h2; cases h2
        rw [if_neg q3] at h2
        by_cases q4 : N ≤ i + 1
        · rw [if_pos q4] at h2; cases h2
        rw [if_neg q4] at h2
        by_cases q5 : ¬ (48 ≤ τ (i + 1) ∧ τ (i + 1) ≤ 57) ∨ τ (i + 1) = n + 49
        · rw [if_pos q5] at h2; cases h2
        rw [if_neg q5] at h2
        exact ih _ _ _ (by omega) (by omega) h2 (by omega)
theorem SGL_ok {s : AS} (h : fltR s = none) : ∀ e, e ∈ SGL s → okE (aN s) (tx s) e := sg_ok _ 0 0 _ (by omega) h (by omega) (by omega) (fun w w1 w2 => by omega)
def newS (τ : Nat → Nat) (e : Nat × Nat) : SentT := (e.2, fun w => nI (τ (e.1 + 2 * w - 2) - 65), fun w => nI (τ (e.1 + 2 * w - 1) - 48), fun _ _ => 0, fun _ _ => 0)
def an_read (s : AS) : Int32 := if fltR s = none then (if aM s + (SGL s).length ≤ 4 then nI (aM s + (SGL s).length) else FULLV) else FAULTV
def nx_read (s : AS) : AS := if fltR s = none ∧ aM s + (SGL s).length ≤ 4 then (s.1, (aM s + (SGL s).length, fun i => if i < aM s then aS s i else newS (tx s) ((SGL s).getD (i - aM s) (0, 0))), s.2.2) else s
theorem newS_wf {N : Nat} {τ : Nat → Nat} {e : Nat × Nat} (h : okE N τ e) : wfS (newS τ e) := by
  obtain ⟨h1, h2, h3, h4, h5⟩ := h
  have hT := treeB_iff.mp h5
  have hd : ∀ w, 1 ≤ w → w ≤ e.2 → τ (e.1 + 2 * w - 1) - 48 ≤ e.2 := by
    intro w w1 w2
    rcases Nat.lt_or_ge e.2 (τ (e.1 + 2 * w - 1) - 48) with q | q
    · exact absurd (hT w w1 w2) (itN_cap_stuck (t := fun w => τ (e.1 + 2 * w - 1) - 48) (w := w) (k := 0) (by show w ≠ 0; omega) q _)
    · exact q
  refine ⟨⟨h1, h2⟩, fun w w1 w2 => ⟨⟨τ (e.1 + 2 * w - 2) - 65, by have := (h4 w w1 w2).1; omega, rfl⟩, τ (e.1 + 2 * w - 1) - 48, hd w w1 w2, by have := (h4 w w1 w2).2; omega, rfl⟩, ?_, fun a b => ⟨⟨by show -99 ≤ (0 : Int32).toInt; decide, by show (0 : Int32).toInt ≤ 99; decide⟩, Or.inl rfl⟩⟩
  refine (isT_congr (fun v hv => ?_)).mp hT
  unfold cap hdN
  by_cases e0 : v = 0
  · rw [if_pos e0, if_pos e0]; exact ⟨rfl, by omega⟩
  · have := hd v (by omega) hv
    rw [if_neg e0, if_neg e0, if_pos this]
    refine ⟨?_, this⟩
    show _ = ix (nI (τ (e.1 + 2 * v - 1) - 48))
    rw [ix_nI (by omega)]
theorem wf_read {s : AS} (hw : wf s) : wf (nx_read s) := by
  unfold nx_read
  by_cases q : fltR s = none ∧ aM s + (SGL s).length ≤ 4
  · rw [if_pos q]
    refine ⟨hw.1, ⟨q.2, fun i hi => ?_⟩, hw.2.2⟩
    show wfS (if i < aM s then aS s i else _)
    by_cases e : i < aM s
    · rw [if_pos e]; exact hw.2.1.2 i e
    · rw [if_neg e]
      have hi' : i < aM s + (SGL s).length := hi
      have hl : i - aM s < (SGL s).length := by omega
      rw [List.getD_eq_getElem?_getD, List.getElem?_eq_getElem hl]
      exact newS_wf (SGL_ok q.1 _ (List.getElem_mem hl))
  · rw [if_neg q]; exact hw
/-! the class's read -/
section RD
variable {σ : St} {s : AS} {K : Int32 → St → Prop}
theorem sg_cnt {N : Nat} {τ : Nat → Nat} : ∀ (f i n : Nat) (row : Nat → Nat), N < i + f → ff N τ f i n row = none → (sg N τ f i n).length = ((List.range (N - i)).filter (fun k => decide (τ (i + k) = 59))).length := by
  intro f
  induction f with
  | zero => intro i n row h1 h2; rw [sg, show N - i = 0 by omega]; rfl
  | succ f ih =>
    intro i n row h1 h2
    rw [sg]
    rw [ff] at h2
    by_cases q : N ≤ i
    · rw [if_pos q, show N - i = 0 by omega]; rfl
    · rw [if_neg q] at h2 ⊢
      have hr : ∀ m, (List.range (m + 1)).filter (fun k => decide (τ (i + k) = 59)) = (if τ i = 59 then [0] else []) ++ ((List.range m).filter (fun k => decide (τ (i + 1 + k) = 59))).map (· + 1) := by
        intro m
        rw [List.range_succ_eq_map, List.filter_cons, List.filter_map]
        have : ((fun k => decide (τ (i + k) = 59)) ∘ Nat.succ) = fun k => decide (τ (i + 1 + k) = 59) := by
          funext k
          show decide (τ (i + (k + 1)) = 59) = _
          rw [show i + (k + 1) = i + 1 + k by omega]
        rw [this]
        by_cases e : τ i = 59
        · rw [if_pos (by simpa using e), if_pos e]; rfl
        · rw [if_neg (by simpa using e), if_neg e]; rfl
      by_cases q2 : τ i = 59
      · rw [if_pos q2] at h2 ⊢
        by_cases q3 : n = 0 ∨ treeB n (cap n row) = false
        · rw [if_pos q3] at h2; cases h2
        · rw [if_neg q3] at h2
          rw [show N - i = N - (i + 1) + 1 by omega, hr, if_pos q2, List.length_append, List.length_map, List.length_cons, ih (i + 1) 0 _ (by omega) h2]
          simp only [List.length_cons, List.length_nil]; omega
      · rw [if_neg q2] at h2 ⊢
        by_cases q3 : ¬ (65 ≤ τ i ∧ τ i ≤ 72) ∨ 6 ≤ n
        · rw [if_pos q3] at h2; cases h2
        rw [if_neg q3] at h2
        by_cases q4 : N ≤ i + 1
        · rw [if_pos q4] at h2; cases h2
        rw [if_neg q4] at h2
        by_cases q5 : ¬ (48 ≤ τ (i + 1) ∧ τ (i + 1) ≤ 57) ∨ τ (i + 1) = n + 49
        · rw [if_pos q5] at h2; cases h2
        rw [if_neg q5] at h2
        have hr2 : ∀ m, ((List.range (m + 1)).filter (fun k => decide (τ (i + 1 + k) = 59))).length = ((List.range m).filter (fun k => decide (τ (i + 2 + k) = 59))).length := by
          intro m
          rw [List.range_succ_eq_map, List.filter_cons, if_neg (by simp only [Nat.add_zero, decide_eq_true_eq]; omega), List.filter_map, List.length_map]
          have : ((fun k => decide (τ (i + 1 + k) = 59)) ∘ Nat.succ) = fun k => decide (τ (i + 2 + k) = 59) := by
            funext k
            show decide (τ (i + 1 + (k + 1)) = 59) = _
            rw [show i + 1 + (k + 1) = i + 2 + k by omega]
          rw [this]
        rw [ih (i + 2) (n + 1) _ (by omega) h2, show N - i = N - (i + 2) + 1 + 1 by omega, hr, if_neg q2, List.nil_append, List.length_map, hr2]
theorem countS_C (hN : aN s ≤ 100) (hc : σ.1 1 1 = nI (aN s)) (ht : ∀ i, i < aN s → σ.1 2 i = nI (tx s i) ∧ tx s i < 128) (hf : fltR s = none) (hK : K (nI (SGL s).length) σ) : P_X2_countSentences σ K := by
  unfold P_X2_countSentences
  have hcn := sg_cnt (N := aN s) (τ := tx s) _ 0 0 _ (by omega) hf
  have hcn : (SGL s).length = ((List.range (aN s)).filter (fun k => decide (tx s k = 59))).length := by
    unfold SGL; rw [hcn]; simp only [Nat.sub_zero, Nat.zero_add]
  refine LpE_for (S := Int32 × Int32 × St) (T := Unit) (fun i _ => (nI ((List.range i).filter (fun k => decide (tx s k = 59))).length, nI i, σ)) (fun _ _ => True) (aN s) ?_ 0 () (by omega) trivial
  intro i t c hi _ hc2
  dsimp only
  unfold F_X2_countSentences_4
  rw [hc, nI_leI (by omega) (by omega)]
  refine ⟨fun q => ?_, fun q => ⟨vp_in_nI (by omega) (by decide), ?_⟩⟩
  · rw [show i = aN s by omega, ← hcn]; exact hK
  · rw [ix_nI (by omega), (ht i (by omega)).1, show (59 : Int32) = nI 59 from rfl, nI_eq (by have := (ht i (by omega)).2; omega) (by omega)]
    have := hc2 () (by omega) trivial
    rw [List.range_succ, List.filter_append, List.length_append] at this
    refine ⟨fun q2 v3 e3 v4 e4 => ?_, fun q2 v2 e2 => ?_⟩
    · rw [nI_1] at e3 e4
      rw [List.filter_cons, if_pos (by simpa using q2)] at this
      rw [e3, e4]; exact this
    · rw [nI_1] at e2
      rw [List.filter_cons, if_neg (by simpa using q2)] at this
      rw [e2]; exact this
end RD
