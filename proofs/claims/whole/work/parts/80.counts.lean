/-! treeCount, weightSum, chance -/
section CNTS
variable {σ : St} {s : AS}
theorem wtL_one : ∀ (l : List Nat) (w : Nat), totW (fun _ _ => 1) w 1 l = 1
  | [], w => rfl
  | h :: r, w => by rw [totW, show (1 : Int64) * Int32.toInt64 1 = 1 from by decide]; exact wtL_one r (w + 1)
theorem sm_one32 {α : Type} : ∀ A : List α, Int64.toInt32 (sm A (fun _ => 1)) = nI A.length
  | [] => (show Int64.toInt32 0 = nI 0 by decide)
  | a :: A => by
    rw [sm_cons, Int64.toInt32_add, sm_one32 A, List.length_cons, ← nI_1, Int32.add_comm]; rfl
noncomputable def an_treeCount (s : AS) (p : Int32) : Int32 := match idx p (aM s) with
  | none => BADI
  | some j => nI (admL s j).length
noncomputable def an_weightSum (s : AS) (p : Int32) : Int64 := match idx p (aM s) with
  | none => -1000001
  | some j => wsL (potI (aW s) (aS s j) (aG s).2.2) (admL s j)
theorem countTrees_C {K : Int32 → St → Prop} {j : Nat} (h : RC σ s) (hw : wf s) (hj : j < aM s) (hK : ∀ σ', frU σ σ' → RC σ' s → K (nI (admL s j).length) σ') : P_X7_countTrees (σ.2.2 j) σ K := by
  unfold P_X7_countTrees
  refine sums_C h hw hj (fun σ' b f p f1 r1 E hC hp => ?_)
  rw [sum_val r1 hw hj E hp]
  have e : wsL (pvI s j 1) (admL s j) = sm (admL s j) (fun _ => 1) := by
    rw [wsL_sm]
    refine sm_cong (fun l _ => ?_)
    unfold wtL
    rw [show pvI s j 1 = fun _ _ => 1 from by funext h w; unfold pvI; rw [if_neg (by decide)]]
    exact wtL_one l 1
  rw [e, sm_one32]
  exact hK σ' f1 r1
theorem pv0 {j : Nat} : pvI s j 0 = potI (aW s) (aS s j) (aG s).2.2 := by
  funext h w; unfold pvI; rw [if_pos rfl]
theorem sumW_C {K : Int64 → St → Prop} {j : Nat} (h : RC σ s) (hw : wf s) (hj : j < aM s) (hK : ∀ σ' b f p, frU σ σ' → RC σ' s → EQS (sZ (aS s j)) (mbI (σ'.1 125 1)) b f → CX (sZ (aS s j)) b f p σ' → (∀ h w, h ≤ sZ (aS s j) → 1 ≤ w → w ≤ sZ (aS s j) → (chP (aS s j) h w → p h w = Int32.toInt64 (pvI s j 0 h w)) ∧ (¬ chP (aS s j) h w → p h w = 0)) → K (wsL (potI (aW s) (aS s j) (aG s).2.2) (admL s j)) σ') : P_X7_sumWeights (σ.2.2 j) σ K := by
  unfold P_X7_sumWeights
  refine sums_C h hw hj (fun σ' b f p f1 r1 E hC hp => ?_)
  rw [sum_val r1 hw hj E hp, pv0]
  exact hK σ' b f p f1 r1 E hC hp
theorem c_treeCount {K : Int32 → St → Prop} {p : Int32} (h : RC σ s) (hw : wf s) (hK : ∀ σ', RC σ' s → frM σ σ' → K (an_treeCount s p) σ') : P_X7_treeCount p σ K := by
  unfold P_X7_treeCount
  have hm := h.m4
  refine find_C h (fun hi => ⟨fun _ => ?_, fun b e => by cases e⟩) (fun j hj hp hi => ⟨fun e => (by cases e), fun b e => ?_⟩)
  · rw [an_treeCount, hi] at hK; exact hK σ h frM.rf
  · cases e
    rw [an_treeCount, hi] at hK
    exact ⟨h.sok (by omega), countTrees_C h hw hj (fun σ' f1 r1 => hK σ' r1 (frU_M f1))⟩
theorem c_weightSum {K : Int64 → St → Prop} {p : Int32} (h : RC σ s) (hw : wf s) (hK : ∀ σ', RC σ' s → frM σ σ' → K (an_weightSum s p) σ') : P_X7_weightSum p σ K := by
  unfold P_X7_weightSum
  have hm := h.m4
  refine find_C h (fun hi => ⟨fun _ => ?_, fun b e => by cases e⟩) (fun j hj hp hi => ⟨fun e => (by cases e), fun b e => ?_⟩)
  · rw [an_weightSum, hi] at hK; exact hK σ h frM.rf
  · cases e
    rw [an_weightSum, hi] at hK
    exact ⟨h.sok (by omega), sumW_C h hw hj (fun σ' b f p f1 r1 _ _ _ => hK σ' r1 (frU_M f1))⟩
theorem m_treeCount {K : Int32 → St → Prop} {p : Int32} (h : RM σ s) (hw : wf s) (hK : ∀ σ', RM σ' s → frK σ σ' → K (an_treeCount s p) σ') : P_X8_treeCount p σ K := by
  unfold P_X8_treeCount
  refine isSent_M h (fun hi => ⟨fun _ => ?_, fun z => absurd rfl z⟩) (fun j hj hp hi => ⟨fun z => absurd z (by decide), fun _ => ?_⟩)
  · rw [an_treeCount, hi] at hK; exact hK σ h frK.rf
  · subst hp
    rw [an_treeCount, hi] at hK
    refine lookR h hw hj (fun σ' r1 r2 _ lk _ _ => ?_)
    rw [lk.ct]; exact hK σ' r1 (frY_K r2)
theorem m_weightSum {K : Int64 → St → Prop} {p : Int32} (h : RM σ s) (hw : wf s) (hK : ∀ σ', RM σ' s → frK σ σ' → K (an_weightSum s p) σ') : P_X8_weightSum p σ K := by
  unfold P_X8_weightSum
  refine isSent_M h (fun hi => ⟨fun _ => ?_, fun z => absurd rfl z⟩) (fun j hj hp hi => ⟨fun z => absurd z (by decide), fun _ => ?_⟩)
  · rw [an_weightSum, hi] at hK; exact hK σ h frK.rf
  · subst hp
    rw [an_weightSum, hi] at hK
    refine lookR h hw hj (fun σ' r1 r2 _ lk _ _ => ?_)
    rw [lk.wa]; exact hK σ' r1 (frY_K r2)
end CNTS
/-! how large the sums can be -/
theorem flat_len {α β : Type} {f : α → List β} {c : Nat} : ∀ {L : List α}, (∀ a, a ∈ L → (f a).length = c) → (L.flatMap f).length = L.length * c
  | [], _ => by simp
  | a :: L, h => by
    rw [List.flatMap_cons, List.length_append, flat_len (fun x hx => h x (List.mem_cons_of_mem _ hx)), h a List.mem_cons_self, List.length_cons, Nat.add_mul, Nat.one_mul, Nat.add_comm]
theorem hsF_len : ∀ n, n < 7 → ∀ w, w < 7 → (1 ≤ w ∧ w ≤ n) → (hsF n w (n + 1) 0).length = n := by decide +kernel
theorem seqs_ln {n : Nat} (hn : n ≤ 6) : ∀ m w, 1 ≤ w → w + m = n + 1 → (seqs n m w).length = n ^ m
  | 0, w, _, _ => rfl
  | m + 1, w, w1, hm => by
    rw [seqs, flat_len (c := n ^ m), hsF_len n (by omega) w (by omega) ⟨w1, by omega⟩, Nat.pow_succ, Nat.mul_comm]
    intro a _
    rw [List.length_map, seqs_ln hn m (w + 1) (by omega) (by omega)]
theorem pow_nn : ∀ n, n < 7 → n ^ n ≤ 46656 := by decide +kernel
theorem admL_len {s : AS} {j : Nat} (hw : wf s) (hj : j < aM s) : (admL s j).length ≤ 46656 := by
  have hz := (hw.2.1.2 j hj).1
  have h1 : (allT (sZ (aS s j))).length = sZ (aS s j) ^ sZ (aS s j) := seqs_ln hz.2 _ 1 (Nat.le_refl _) (by omega)
  have h2 := pow_nn (sZ (aS s j)) (by omega)
  have h3 := List.length_filter_le (fun l => @decide (admT (sgP s) (pjP s) (chP (aS s j)) (sZ (aS s j)) l) (Classical.propDecidable _)) (allT (sZ (aS s j)))
  unfold admL
  omega
theorem potI_bd {W : Nat → Int32} {x : SentT} {sh : Int32} {h w : Nat} : 0 ≤ (potI W x sh h w).toInt ∧ (potI W x sh h w).toInt ≤ 20 := by
  have h20 : (20 : Int32).toInt = 20 := by decide
  have h0 : (0 : Int32).toInt = 0 := by decide
  unfold potI
  split
  · rename_i e
    rw [T_le, h0] at e
    split
    · rename_i e2
      rw [T_le, h20] at e2
      omega
    · rw [h20]; omega
  · rw [h0]; omega
theorem totW_bd {pt : Nat → Nat → Int32} (hb : ∀ h w, 0 ≤ (pt h w).toInt ∧ (pt h w).toInt ≤ 20) : ∀ (l : List Nat) (w : Nat) (a : Int64) (B : Int), 0 ≤ a.toInt → a.toInt ≤ B → B * ((20 ^ l.length : Nat) : Int) ≤ 2 ^ 60 → 0 ≤ (totW pt w a l).toInt ∧ (totW pt w a l).toInt ≤ B * ((20 ^ l.length : Nat) : Int)
  | [], w, a, B, h1, h2, _ => by rw [totW, List.length_nil, show ((20 ^ 0 : Nat) : Int) = 1 from rfl]; omega
  | h :: r, w, a, B, h1, h2, h3 => by
    obtain ⟨p1, p2⟩ := hb h w
    have e : (Int32.toInt64 (pt h w)).toInt = (pt h w).toInt := Int32.toInt_toInt64 _
    have e20 : ((20 ^ (r.length + 1) : Nat) : Int) = 20 * ((20 ^ r.length : Nat) : Int) := by rw [Nat.pow_succ]; omega
    rw [List.length_cons, e20, ← Int.mul_assoc] at h3 ⊢
    have q1 : a.toInt * (pt h w).toInt ≤ B * 20 := Int.mul_le_mul h2 p2 p1 (by omega)
    have q0 : 0 ≤ a.toInt * (pt h w).toInt := Int.mul_nonneg h1 p1
    have q2 : (1 : Int) ≤ ((20 ^ r.length : Nat) : Int) := by
      have := Nat.pow_pos (n := r.length) (show 0 < 20 by decide)
      omega
    have q3 : B * 20 * 1 ≤ B * 20 * ((20 ^ r.length : Nat) : Int) := Int.mul_le_mul_of_nonneg_left q2 (by omega)
    rw [totW]
    have em : (a * Int32.toInt64 (pt h w)).toInt = a.toInt * (pt h w).toInt := by
      rw [I64_mul, e] <;> rw [e] <;> omega
    exact totW_bd hb r (w + 1) _ (B * 20) (by rw [em]; exact q0) (by rw [em]; exact q1) h3
theorem wtL_bd {pt : Nat → Nat → Int32} (hb : ∀ h w, 0 ≤ (pt h w).toInt ∧ (pt h w).toInt ≤ 20) {l : List Nat} (hl : l.length ≤ 6) : 0 ≤ (wtL pt l).toInt ∧ (wtL pt l).toInt ≤ 64000000 := by
  have hp : 20 ^ l.length ≤ 20 ^ 6 := Nat.pow_le_pow_right (by decide) hl
  have h6 : 20 ^ 6 = 64000000 := by decide
  rw [h6] at hp
  have := totW_bd hb l 1 1 1 (by decide) (by decide) (by omega)
  unfold wtL
  omega
theorem sm_bd {α : Type} {g : α → Int64} : ∀ A : List α, A.length ≤ 46656 → (∀ l, l ∈ A → 0 ≤ (g l).toInt ∧ (g l).toInt ≤ 64000000) → 0 ≤ (sm A g).toInt ∧ (sm A g).toInt ≤ 64000000 * (A.length : Int)
  | [], _, _ => (show 0 ≤ (0 : Int64).toInt ∧ (0 : Int64).toInt ≤ 64000000 * ((0 : Nat) : Int) by decide)
  | a :: A, h1, h2 => by
    rw [List.length_cons] at h1 ⊢
    obtain ⟨i1, i2⟩ := sm_bd A (by omega) (fun l hl => h2 l (List.mem_cons_of_mem _ hl))
    obtain ⟨a1, a2⟩ := h2 a List.mem_cons_self
    rw [sm_cons, I64_add (by omega) (by omega)]
    omega
theorem sm_le {α : Type} {g g' : α → Int64} : ∀ A : List α, A.length ≤ 46656 → (∀ l, l ∈ A → 0 ≤ (g' l).toInt ∧ (g' l).toInt ≤ (g l).toInt ∧ (g l).toInt ≤ 64000000) → (sm A g').toInt ≤ (sm A g).toInt
  | [], _, _ => Int.le_refl _
  | a :: A, h1, h2 => by
    rw [List.length_cons] at h1
    have ih := sm_le A (by omega) (fun l hl => h2 l (List.mem_cons_of_mem _ hl))
    obtain ⟨a1, a2, a3⟩ := h2 a List.mem_cons_self
    obtain ⟨i1, i2⟩ := sm_bd (g := g) A (by omega) (fun l hl => by have := h2 l (List.mem_cons_of_mem _ hl); omega)
    obtain ⟨j1, j2⟩ := sm_bd (g := g') A (by omega) (fun l hl => by have := h2 l (List.mem_cons_of_mem _ hl); omega)
    rw [sm_cons, sm_cons, I64_add (by omega) (by omega), I64_add (by omega) (by omega)]
    omega
section BDS
variable {s : AS} {j : Nat}
theorem wt_adm (hw : wf s) (hj : j < aM s) {l : List Nat} (hl : l ∈ admL s j) : 0 ≤ (wtL (potI (aW s) (aS s j) (aG s).2.2) l).toInt ∧ (wtL (potI (aW s) (aS s j) (aG s).2.2) l).toInt ≤ 64000000 := by
  have hz := (hw.2.1.2 j hj).1
  have := (allT_mem.mp (admL_mem.mp hl).1).1
  exact wtL_bd (fun h w => potI_bd) (by omega)
theorem ws_bd (hw : wf s) (hj : j < aM s) : 0 ≤ (wsL (potI (aW s) (aS s j) (aG s).2.2) (admL s j)).toInt ∧ (wsL (potI (aW s) (aS s j) (aG s).2.2) (admL s j)).toInt ≤ 2985984000000 := by
  have hl := admL_len hw hj
  rw [wsL_sm]
  have := sm_bd (g := wtL (potI (aW s) (aS s j) (aG s).2.2)) (admL s j) hl (fun l hl => wt_adm hw hj hl)
  omega
theorem wsA_bd (hw : wf s) (hj : j < aM s) (h w : Nat) : 0 ≤ (wsA (potI (aW s) (aS s j) (aG s).2.2) h w (admL s j)).toInt ∧ (wsA (potI (aW s) (aS s j) (aG s).2.2) h w (admL s j)).toInt ≤ (wsL (potI (aW s) (aS s j) (aG s).2.2) (admL s j)).toInt := by
  have hl := admL_len hw hj
  have h0 : (0 : Int64).toInt = 0 := by decide
  rw [wsL_sm, wsA_sm]
  have q : ∀ l, l ∈ admL s j → 0 ≤ (if hL l w = h then wtL (potI (aW s) (aS s j) (aG s).2.2) l else 0).toInt ∧ (if hL l w = h then wtL (potI (aW s) (aS s j) (aG s).2.2) l else 0).toInt ≤ (wtL (potI (aW s) (aS s j) (aG s).2.2) l).toInt ∧ (wtL (potI (aW s) (aS s j) (aG s).2.2) l).toInt ≤ 64000000 := by
    intro l hl
    have := wt_adm hw hj hl
    split
    · omega
    · rw [h0]; omega
  exact ⟨(sm_bd (admL s j) hl (fun l hl => by have := q l hl; omega)).1, sm_le (admL s j) hl q⟩
end BDS
