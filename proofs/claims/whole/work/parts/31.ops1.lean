/-! small methods: what they answer -/
section OP1
variable {σ : St} {s : AS}
theorem RC.cnt (h : RC σ s) : σ.1 0 2 = nI (aM s) := h.2.1.1
theorem RC.m4 (h : RC σ s) : aM s ≤ 4 := h.2.1.2
theorem RC.sok (h : RC σ s) {i : Nat} (hi : i < 4) : sOk (σ.2.2 i) := h.2.2.1.1 i hi
theorem RC.sinj (h : RC σ s) {i j : Nat} (hi : i < 4) (hj : j < 4) (e : σ.2.2 i = σ.2.2 j) : i = j := h.2.2.1.2.1 i hi j hj e
theorem RC.root (h : RC σ s) {i : Nat} (hi : i < 4) : σ.1 (σ.2.2 i + 1) 0 = 8 := h.2.2.1.2.2 i hi
theorem RC.sent (h : RC σ s) {i : Nat} (hi : i < aM s) : RS σ (σ.2.2 i) (aS s i) := h.2.2.2.1.1 i hi
theorem RC.blank (h : RC σ s) {i : Nat} (hi : aM s ≤ i) (h4 : i < 4) : RB σ (σ.2.2 i) := h.2.2.2.1.2 i hi h4
theorem RC.wts (h : RC σ s) : RW σ 81 (aW s) := h.2.2.2.2.1
theorem RC.slot (h : RC σ s) {j : Nat} (hj : j < 2) : σ.1 124 j = (aK s j).1 ∧ RW σ (96 + 14 * j) (aK s j).2 := h.2.2.2.2.2.1 j hj
theorem RC.g1 (h : RC σ s) : σ.1 125 0 = (aG s).1 := h.2.2.2.2.2.2.1
theorem RC.g2 (h : RC σ s) : σ.1 125 1 = (aG s).2.1 := h.2.2.2.2.2.2.2.1
theorem RC.g3 (h : RC σ s) : σ.1 125 2 = (aG s).2.2 := h.2.2.2.2.2.2.2.2
theorem RM.cnt (h : RM σ s) : σ.1 204 2 = nI (aM s) := h.2.1.1
theorem RM.m4 (h : RM σ s) : aM s ≤ 4 := h.2.1.2
theorem RM.sz (h : RM σ s) {i : Nat} (hi : i < aM s) : σ.1 206 i = nI (sZ (aS s i)) := (h.2.2.1 i hi).1
theorem RM.tg (h : RM σ s) {i w : Nat} (hi : i < aM s) (h1 : 1 ≤ w) (h2 : w ≤ sZ (aS s i)) : σ.1 207 (7 * i + w) = sTg (aS s i) w := ((h.2.2.1 i hi).2.1 w h1 h2).1
theorem RM.hd (h : RM σ s) {i w : Nat} (hi : i < aM s) (h1 : 1 ≤ w) (h2 : w ≤ sZ (aS s i)) : σ.1 208 (7 * i + w) = sHd (aS s i) w := ((h.2.2.1 i hi).2.1 w h1 h2).2
theorem RM.bi (h : RM σ s) {i a w : Nat} (hi : i < aM s) (h1 : a < 7) (h2 : w < 7) : σ.1 209 (49 * i + 7 * a + w) = sBi (aS s i) a w := ((h.2.2.1 i hi).2.2 a h1 w h2).1
theorem RM.co (h : RM σ s) {i a w : Nat} (hi : i < aM s) (h1 : a < 7) (h2 : w < 7) : σ.1 210 (49 * i + 7 * a + w) = sCo (aS s i) a w := ((h.2.2.1 i hi).2.2 a h1 w h2).2
theorem RM.wts (h : RM σ s) {k : Nat} (hk : k < 84) : σ.1 211 k = aW s k := h.2.2.2.1 k hk
theorem RM.slot (h : RM σ s) {j : Nat} (hj : j < 2) : σ.1 213 j = (aK s j).1 ∧ ∀ k, k < 84 → σ.1 212 (84 * j + k) = (aK s j).2 k := h.2.2.2.2.1 j hj
theorem RM.g1 (h : RM σ s) : σ.1 204 11 = (aG s).1 := h.2.2.2.2.2.1
theorem RM.g2 (h : RM σ s) : σ.1 204 12 = (aG s).2.1 := h.2.2.2.2.2.2.1
theorem RM.g3 (h : RM σ s) : σ.1 204 13 = (aG s).2.2 := h.2.2.2.2.2.2.2
theorem wf.sz (h : wf s) {i : Nat} (hi : i < aM s) : 1 ≤ sZ (aS s i) ∧ sZ (aS s i) ≤ 6 := (h.2.1.2 i hi).1
theorem find_C {p : Int32} {K : Option Nat → St → Prop} (h : RC σ s) (hn : idx p (aM s) = none → K none σ) (hs : ∀ j, j < aM s → p = nI j → idx p (aM s) = some j → K (some (σ.2.2 j)) σ) : P_X7_find p σ K := by
  have h3 := h.cnt
  have hm := h.m4
  unfold P_X7_find
  rw [h3]
  rcases idx_cases p (m := aM s) (by omega) with ⟨hi, hc⟩ | ⟨j, hj, rfl, hi⟩
  · rcases hc with hc | ⟨hc, hc2⟩
    · exact ⟨fun _ => hn hi, fun q => absurd hc q⟩
    · exact ⟨fun q => absurd q hc, fun _ => ⟨fun _ => hn hi, fun q => absurd hc2 q⟩⟩
  · have h0 : ¬ nI j < 0 := nI_pos (by omega)
    have h1 : ¬ nI (aM s) ≤ nI j := nI_ge hj (by omega)
    refine ⟨fun q => absurd q h0, fun _ => ⟨fun q => absurd q h1, fun _ => ⟨vp_in_nI (by omega) (by decide), ?_, ?_⟩⟩⟩
    · rw [ix_nI (by omega)]; exact h.sok (by omega)
    · rw [ix_nI (by omega)]; exact hs j hj rfl hi
theorem hasWord_C {a n : Nat} {p : Int32} {K : Int32 → St → Prop} (h : σ.1 a 0 = nI n) (hn : n < 2 ^ 31) (h0 : wdx p n = none → K 0 σ) (h1 : ∀ j, 1 ≤ j → j ≤ n → p = nI j → wdx p n = some j → K 1 σ) : P_X0_hasWord a p σ K := by
  unfold P_X0_hasWord
  rw [h]
  rcases wdx_cases p hn with ⟨hi, hc⟩ | ⟨j, hj, hj2, rfl, hi⟩
  · rcases hc with hc | ⟨hc, hc2⟩
    · exact ⟨fun _ => h0 hi, fun q => absurd hc q⟩
    · exact ⟨fun q => absurd q hc, fun _ => ⟨fun _ => h0 hi, fun q => absurd hc2 q⟩⟩
  · have q0 : ¬ nI j < 1 := fun q => absurd q (nI_nlt (a := j) (b := 1) hj (by omega))
    have q1 : ¬ nI n < nI j := nI_nlt hj2 hn
    exact ⟨fun q => absurd q q0, fun _ => ⟨fun q => absurd q q1, fun _ => h1 j hj hj2 rfl hi⟩⟩
theorem hasArc_C {a n : Nat} {p q : Int32} {K : Int32 → St → Prop} (h : σ.1 a 0 = nI n) (hn : n < 2 ^ 31) (h0 : adx p q n = none → K 0 σ) (h1 : ∀ b w, b ≤ n → 1 ≤ w → w ≤ n → b ≠ w → p = nI b → q = nI w → adx p q n = some (b, w) → K 1 σ) : P_X0_hasArc a p q σ K := by
  unfold P_X0_hasArc
  refine hasWord_C h hn (fun hw => ⟨fun _ => h0 (by simp [adx, hw]), fun z => absurd rfl z⟩) (fun j hj hj2 hq hw => ⟨fun z => absurd z (by decide), fun _ => ?_⟩)
  rw [h]
  rcases adx_cases p q hn with ⟨hi, hc⟩ | ⟨b, w, hb, hw1, hw2, hne, hp, hq2, hi, hw3⟩
  · rcases hc with hc | ⟨w, hc, hc2⟩
    · rw [hw] at hc; cases hc
    · rcases hc2 with hc2 | ⟨c1, c2⟩ | ⟨c1, c2, c3⟩
      · exact ⟨fun _ => h0 hi, fun z => absurd hc2 z⟩
      · exact ⟨fun z => absurd z c1, fun _ => ⟨fun _ => h0 hi, fun z => absurd c2 z⟩⟩
      · exact ⟨fun z => absurd z c1, fun _ => ⟨fun z => absurd z c2, fun _ => ⟨fun _ => h0 hi, fun z => absurd c3 z⟩⟩⟩
  · subst hp
    subst hq2
    have q0 : ¬ nI b < 0 := nI_pos (by omega)
    have q1 : ¬ nI n < nI b := nI_nlt hb hn
    have q2 : ¬ nI b = nI w := fun e => hne (nI_inj (by omega) (by omega) e)
    exact ⟨fun z => absurd z q0, fun _ => ⟨fun z => absurd z q1, fun _ => ⟨fun z => absurd z q2, fun _ => h1 b w hb hw1 hw2 hne rfl rfl hi⟩⟩⟩
/-- in, isWithin -/
abbrev rng (v : Int32) (a b : Int) : Prop := a ≤ v.toInt ∧ v.toInt ≤ b
theorem in_M {x a b : Int32} {K : Int32 → St → Prop} (h0 : ¬ rng x a.toInt b.toInt → K 0 σ) (h1 : rng x a.toInt b.toInt → K 1 σ) : P_X8_in x a b σ K := by
  unfold P_X8_in
  dsimp only [rng] at h0 h1
  rw [T_lt, T_lt]
  refine ⟨fun q => h0 (by omega), fun q => ⟨fun q2 => h0 (by omega), fun q2 => h1 (by omega)⟩⟩
theorem in_N {x a b : Int32} {A B : Int} {K : Int32 → St → Prop} (ha : a.toInt = A) (hb : b.toInt = B) (h0 : ¬ rng x A B → K 0 σ) (h1 : rng x A B → K 1 σ) : P_X8_in x a b σ K := by
  subst ha
  subst hb
  exact in_M h0 h1
theorem isWithin_C {v L : Int32} {b : Int} {K : Int32 → St → Prop} (hL : L.toInt = b) (hL2 : (-L).toInt = -b) (h0 : ¬ rng v (-b) b → K 0 σ) (h1 : rng v (-b) b → K 1 σ) : P_X7_isWithin v L σ K := by
  unfold P_X7_isWithin
  dsimp only [rng] at h0 h1
  rw [T_lt, T_lt, hL, hL2]
  refine ⟨fun q => h0 (by omega), fun q => ⟨fun q2 => h0 (by omega), fun q2 => h1 (by omega)⟩⟩
theorem isSent_M {p : Int32} {K : Int32 → St → Prop} (h : RM σ s) (hn : idx p (aM s) = none → K 0 σ) (hs : ∀ j, j < aM s → p = nI j → idx p (aM s) = some j → K 1 σ) : P_X8_isSentence p σ K := by
  have hm := h.m4
  unfold P_X8_isSentence
  rw [h.cnt]
  have e1 : (nI (aM s) - 1).toInt = (aM s : Int) - 1 := by
    have := pk_sub_toInt (a := aM s) (b := 1) (by omega) (by omega)
    exact this
  have e0 : (0 : Int32).toInt = 0 := rfl
  refine in_M (fun q => ⟨isB0, ?_⟩) (fun q => ⟨isB1, ?_⟩)
  · rw [e1, e0] at q
    rcases idx_cases p (m := aM s) (by omega) with ⟨hi, hc⟩ | ⟨j, hj, rfl, hi⟩
    · exact hn hi
    · exact absurd ⟨by rw [nI_toInt (by omega)]; omega, by rw [nI_toInt (by omega)]; omega⟩ q
  · rw [e1, e0] at q
    rcases idx_cases p (m := aM s) (by omega) with ⟨hi, hc⟩ | ⟨j, hj, rfl, hi⟩
    · exfalso
      obtain ⟨q1, q2⟩ := q
      rcases hc with hc | ⟨hc, hc2⟩
      · rw [T_lt, e0] at hc; omega
      · rw [T_le, nI_toInt (by omega)] at hc2; omega
    · exact hs j hj rfl hi
theorem isWord_M {p q : Int32} {K : Int32 → St → Prop} (h : RM σ s) (hw : wf s) (h0 : idx p (aM s) = none → K 0 σ) (h1 : ∀ i, i < aM s → p = nI i → idx p (aM s) = some i → wdx q (sZ (aS s i)) = none → K 0 σ) (h2 : ∀ i w, i < aM s → p = nI i → idx p (aM s) = some i → 1 ≤ w → w ≤ sZ (aS s i) → q = nI w → wdx q (sZ (aS s i)) = some w → K 1 σ) : P_X8_isWord p q σ K := by
  have hm := h.m4
  unfold P_X8_isWord
  refine isSent_M h (fun q => ⟨fun _ => h0 q, fun z => absurd rfl z⟩) (fun i hi hp hx => ⟨fun z => absurd z (by decide), fun _ => ?_⟩)
  subst hp
  have hz := hw.sz hi
  have e1 : (1 : Int32).toInt = 1 := rfl
  refine ⟨vp_in_nI (by omega) (by decide), ?_⟩
  rw [ix_nI (by omega), h.sz hi]
  refine in_M (fun c => ⟨fun _ => ?_, fun z => absurd rfl z⟩) (fun c => ⟨fun z => absurd z (by decide), fun _ => ?_⟩)
  · rw [e1, nI_toInt (by omega)] at c
    rcases wdx_cases q (n := sZ (aS s i)) (by omega) with ⟨hv, -⟩ | ⟨w, w1, w2, rfl, hv⟩
    · exact h1 i hi rfl hx hv
    · exact absurd ⟨by rw [nI_toInt (by omega)]; omega, by rw [nI_toInt (by omega)]; omega⟩ c
  · rw [e1, nI_toInt (by omega)] at c
    rcases wdx_cases q (n := sZ (aS s i)) (by omega) with ⟨hv, hc⟩ | ⟨w, w1, w2, hq, hv⟩
    · exfalso
      obtain ⟨c1, c2⟩ := c
      rcases hc with hc | ⟨-, hc⟩
      · rw [T_lt, e1] at hc; omega
      · rw [T_lt, nI_toInt (by omega)] at hc; omega
    · exact h2 i w hi rfl hx w1 w2 hq hv
theorem isArc_M {p a q : Int32} {K : Int32 → St → Prop} (h : RM σ s) (hw : wf s) (h0 : idx p (aM s) = none → K 0 σ) (h1 : ∀ i, i < aM s → p = nI i → idx p (aM s) = some i → adx a q (sZ (aS s i)) = none → K 0 σ) (h2 : ∀ i b w, i < aM s → p = nI i → idx p (aM s) = some i → b ≤ sZ (aS s i) → 1 ≤ w → w ≤ sZ (aS s i) → b ≠ w → a = nI b → q = nI w → adx a q (sZ (aS s i)) = some (b, w) → K 1 σ) : P_X8_isArc p a q σ K := by
  have hm := h.m4
  unfold P_X8_isArc
  refine isWord_M h hw (fun z => ⟨fun _ => h0 z, fun z => absurd rfl z⟩) (fun i hi hp hx hv => ⟨fun _ => h1 i hi hp hx (by simp [adx, hv]), fun z => absurd rfl z⟩) (fun i w hi hp hx w1 w2 hq hv => ⟨fun z => absurd z (by decide), fun _ => ?_⟩)
  subst hp
  have hz := hw.sz hi
  refine ⟨vp_in_nI (by omega) (by decide), ?_⟩
  rw [ix_nI (by omega), h.sz hi]
  have e0 : (0 : Int32).toInt = 0 := rfl
  refine in_M (fun c => ⟨fun _ => ?_, fun z => absurd rfl z⟩) (fun c => ⟨fun z => absurd z (by decide), fun _ => ⟨fun e => ?_, fun e => ?_⟩⟩)
  · rw [e0, nI_toInt (by omega)] at c
    rcases adx_cases a q (n := sZ (aS s i)) (by omega) with ⟨ha, -⟩ | ⟨b, w', hb, v1, v2, hne, rfl, rfl, ha, -⟩
    · exact h1 i hi rfl hx ha
    · exact absurd ⟨by rw [nI_toInt (by omega)]; omega, by rw [nI_toInt (by omega)]; omega⟩ c
  · rcases adx_cases a q (n := sZ (aS s i)) (by omega) with ⟨ha, -⟩ | ⟨b, w', hb, v1, v2, hne, rfl, rfl, ha, -⟩
    · exact h1 i hi rfl hx ha
    · exact absurd (nI_inj (by omega) (by omega) e) hne
  · rw [e0, nI_toInt (by omega)] at c
    rcases adx_cases a q (n := sZ (aS s i)) (by omega) with ⟨ha, hc⟩ | ⟨b, w', hb, v1, v2, hne, ha1, hq1, ha, -⟩
    · exfalso
      obtain ⟨c1, c2⟩ := c
      rcases hc with hc | ⟨w', -, hc⟩
      · rw [hv] at hc; cases hc
      · rcases hc with hc | ⟨-, hc⟩ | ⟨-, -, hc⟩
        · rw [T_lt, e0] at hc; omega
        · rw [T_lt, nI_toInt (by omega)] at hc; omega
        · exact e hc
    · exact h2 i b w' hi rfl hx hb v1 v2 hne ha1 hq1 ha
end OP1
/-! the calls that only look, and those that set one place -/
def an_words (s : AS) (p : Int32) : Int32 := match idx p (aM s) with
  | none => BADI
  | some i => nI (sZ (aS s i))
def an_word (s : AS) (f : SentT → Nat → Int32) (p q : Int32) : Int32 := match idx p (aM s) with
  | none => BADI
  | some i => match wdx q (sZ (aS s i)) with
    | none => BADI
    | some w => f (aS s i) w
section OP2
variable {σ : St} {s : AS} {K : Int32 → St → Prop}
theorem c_sentences (h : RC σ s) (hK : K (nI (aM s)) σ) : P_X7_sentences σ K := by
  unfold P_X7_sentences
  rw [h.cnt]; exact hK
theorem m_sentences (h : RM σ s) (hK : K (nI (aM s)) σ) : P_X8_sentences σ K := by
  unfold P_X8_sentences
  rw [h.cnt]; exact hK
theorem c_words {p : Int32} (h : RC σ s) (hK : K (an_words s p) σ) : P_X7_words p σ K := by
  unfold P_X7_words
  refine find_C h (fun hi => ⟨fun _ => ?_, fun b e => by cases e⟩) (fun j hj hp hi => ⟨fun e => (by cases e), fun b e => ?_⟩)
  · rw [an_words, hi] at hK; exact hK
  · cases e
    refine ⟨h.sok (by have := h.m4; omega), ?_⟩
    rw [(h.sent hj).1]
    rw [an_words, hi] at hK; exact hK
theorem m_words {p : Int32} (h : RM σ s) (hK : K (an_words s p) σ) : P_X8_words p σ K := by
  unfold P_X8_words
  have hm := h.m4
  refine isSent_M h (fun hi => ⟨fun _ => ?_, fun z => absurd rfl z⟩) (fun j hj hp hi => ⟨fun z => absurd z (by decide), fun _ => ?_⟩)
  · rw [an_words, hi] at hK; exact hK
  · subst hp
    refine ⟨vp_in_nI (by omega) (by decide), ?_⟩
    rw [ix_nI (by omega), h.sz hj]
    rw [an_words, hi] at hK; exact hK
theorem c_tag {p q : Int32} (h : RC σ s) (hw : wf s) (hK : K (an_word s sTg p q) σ) : P_X7_tag p q σ K := by
  unfold P_X7_tag
  refine find_C h (fun hi => ⟨fun _ => ?_, fun b e => by cases e⟩) (fun j hj hp hi => ⟨fun e => (by cases e), fun b e => ?_⟩)
  · rw [an_word, hi] at hK; exact hK
  · cases e
    have hz := hw.sz hj
    refine ⟨h.sok (by have := h.m4; omega), hasWord_C (h.sent hj).1 (by omega) (fun hv => ⟨fun _ => ?_, fun z => absurd rfl z⟩) (fun w w1 w2 hq hv => ⟨fun z => absurd z (by decide), fun _ => ?_⟩)⟩
    · rw [an_word, hi] at hK; dsimp only at hK; rw [hv] at hK; exact hK
    · subst hq
      refine ⟨vp_in_nI (by omega) (by decide), ?_⟩
      rw [ix_nI (by omega), ((h.sent hj).2.1 w w1 w2).1]
      rw [an_word, hi] at hK; dsimp only at hK; rw [hv] at hK; exact hK
theorem c_annotatedHead {p q : Int32} (h : RC σ s) (hw : wf s) (hK : K (an_word s sHd p q) σ) : P_X7_annotatedHead p q σ K := by
  unfold P_X7_annotatedHead
  refine find_C h (fun hi => ⟨fun _ => ?_, fun b e => by cases e⟩) (fun j hj hp hi => ⟨fun e => (by cases e), fun b e => ?_⟩)
  · rw [an_word, hi] at hK; exact hK
  · cases e
    have hz := hw.sz hj
    refine ⟨h.sok (by have := h.m4; omega), hasWord_C (h.sent hj).1 (by omega) (fun hv => ⟨fun _ => ?_, fun z => absurd rfl z⟩) (fun w w1 w2 hq hv => ⟨fun z => absurd z (by decide), fun _ => ?_⟩)⟩
    · rw [an_word, hi] at hK; dsimp only at hK; rw [hv] at hK; exact hK
    · subst hq
      refine ⟨vp_in_nI (by omega) (by decide), ?_⟩
      rw [ix_nI (by omega), ((h.sent hj).2.1 w w1 w2).2]
      rw [an_word, hi] at hK; dsimp only at hK; rw [hv] at hK; exact hK
theorem word_M {i w : Nat} : (7 * nI i) + nI w = nI (7 * i + w) := by
  have : (7 : Int32) = nI 7 := rfl
  rw [this, pk_mul, nI_add]
theorem m_tag {p q : Int32} (h : RM σ s) (hw : wf s) (hK : K (an_word s sTg p q) σ) : P_X8_tag p q σ K := by
  unfold P_X8_tag
  have hm := h.m4
  refine isWord_M h hw (fun hi => ⟨fun _ => ?_, fun z => absurd rfl z⟩) (fun i hi hp hx hv => ⟨fun _ => ?_, fun z => absurd rfl z⟩) (fun i w hi hp hx w1 w2 hq hv => ⟨fun z => absurd z (by decide), fun _ => ?_⟩)
  · rw [an_word, hi] at hK; exact hK
  · rw [an_word, hx] at hK; dsimp only at hK; rw [hv] at hK; exact hK
  · subst hp
    subst hq
    have hz := hw.sz hi
    unfold P_X8_word
    rw [word_M]
    refine ⟨vp_in_nI (by omega) (by decide), ?_⟩
    rw [ix_nI (by omega), h.tg hi w1 w2]
    rw [an_word, hx] at hK; dsimp only at hK; rw [hv] at hK; exact hK
theorem m_annotatedHead {p q : Int32} (h : RM σ s) (hw : wf s) (hK : K (an_word s sHd p q) σ) : P_X8_annotatedHead p q σ K := by
  unfold P_X8_annotatedHead
  have hm := h.m4
  refine isWord_M h hw (fun hi => ⟨fun _ => ?_, fun z => absurd rfl z⟩) (fun i hi hp hx hv => ⟨fun _ => ?_, fun z => absurd rfl z⟩) (fun i w hi hp hx w1 w2 hq hv => ⟨fun z => absurd z (by decide), fun _ => ?_⟩)
  · rw [an_word, hi] at hK; exact hK
  · rw [an_word, hx] at hK; dsimp only at hK; rw [hv] at hK; exact hK
  · subst hp
    subst hq
    have hz := hw.sz hi
    unfold P_X8_word
    rw [word_M]
    refine ⟨vp_in_nI (by omega) (by decide), ?_⟩
    rw [ix_nI (by omega), h.hd hi w1 w2]
    rw [an_word, hx] at hK; dsimp only at hK; rw [hv] at hK; exact hK
end OP2
