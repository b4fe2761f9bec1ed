/-! the calls that set one place -/
theorem s_sep {a b : Nat} (ha : sOk a) (hb : sOk b) (h : a ≠ b) : a + 19 ≤ b ∨ b + 19 ≤ a := by
  rcases ha with rfl | rfl | rfl | rfl <;> rcases hb with rfl | rfl | rfl | rfl <;> first | exact absurd rfl h | decide
/-- a store that differs from another at one place of one sentence's rows -/
theorem RS_other {σ : St} {a b k i : Nat} {v : Int32} {x : SentT} (ha : sOk a) (hb : sOk b) (hne : a ≠ b) (hk : a ≤ k ∧ k < a + 19) (h : RS σ b x) : RS (wI σ k i v) b x := by
  have hs := s_sep ha hb hne
  obtain ⟨h1, h2, h3⟩ := h
  refine ⟨by rw [wI_ne (by omega)]; exact h1, fun w w1 w2 => ?_, fun p p1 w w1 => ?_⟩
  · rw [wI_ne (by omega), wI_ne (by omega)]; exact h2 w w1 w2
  · rw [wI_ne (by omega), wI_ne (by omega)]; exact h3 p p1 w w1
theorem RB_other {σ : St} {a b k i : Nat} {v : Int32} (ha : sOk a) (hb : sOk b) (hne : a ≠ b) (hk : a ≤ k ∧ k < a + 19) (h : RB σ b) : RB (wI σ k i v) b := by
  have hs := s_sep ha hb hne
  obtain ⟨h1, h3⟩ := h
  refine ⟨by rw [wI_ne (by omega)]; exact h1, fun p p1 w w1 => ?_⟩
  rw [wI_ne (by omega), wI_ne (by omega)]; exact h3 p p1 w w1
theorem RW_far {σ : St} {a k i : Nat} {v : Int32} {W : Nat → Int32} (hk : k < a + 2 ∨ a + 14 ≤ k) (h : RW σ a W) : RW (wI σ k i v) a W := by
  obtain ⟨h1, h2⟩ := h
  refine ⟨fun p p1 w w1 => ?_, fun p p1 w w1 w2 => ?_⟩
  · rw [wI_ne (by omega)]; exact h1 p p1 w w1
  · rw [wI_ne (by omega)]; exact h2 p p1 w w1 w2
/-- one place of a sentence's own cells is written: what is left to show is that sentence -/
theorem RC_sent {σ : St} {s : AS} {i k j : Nat} {v : Int32} {x : SentT} (h : RC σ s) (hi : i < aM s) (hk : σ.2.2 i ≤ k ∧ k < σ.2.2 i + 19) (hr : ¬ (k = σ.2.2 i + 1 ∧ j = 0)) (hx : RS (wI σ k j v) (σ.2.2 i) x) : RC (wI σ k j v) (s.1, (s.2.1.1, u1 (aS s) i x), s.2.2) := by
  have hm := h.m4
  have hi4 : i < 4 := by omega
  have hsi := h.sok hi4
  have hrg := s_rng hsi
  obtain ⟨⟨h1, h2⟩, h3, ⟨h4, h5, h6⟩, ⟨h7, h8⟩, h9, h10, h11, h12, h13⟩ := h
  refine ⟨⟨by rw [wI_ne (by omega)]; exact h1, fun q hq => by rw [wI_ne (by omega)]; exact h2 q hq⟩, ⟨by rw [wI_ne (by omega)]; exact h3.1, h3.2⟩, ⟨h4, h5, fun q hq => ?_⟩, ⟨fun q hq => ?_, fun q hq hq4 => ?_⟩, RW_far (by omega) h9, fun q hq => ⟨by rw [wI_ne (by omega)]; exact (h10 q hq).1, RW_far (by omega) (h10 q hq).2⟩, ?_, ?_, ?_⟩
  · rw [wI_2, wI_at]
    by_cases e : σ.2.2 q + 1 = k
    · by_cases eq : q = i
      · subst eq
        rw [if_neg (fun z => hr ⟨e.symm, z.2.symm⟩)]; exact h6 q hq
      · exfalso
        have := s_sep (h4 q hq) hsi (fun z => eq (h5 q hq i hi4 z))
        omega
    · rw [if_neg (fun z => e z.1)]; exact h6 q hq
  · show RS _ (σ.2.2 q) (u1 (aS s) i x q)
    have hq4 : q < 4 := by have : q < aM s := hq; omega
    by_cases eq : q = i
    · subst eq
      rw [u1, if_pos rfl]; exact hx
    · rw [u1, if_neg eq]
      exact RS_other hsi (h4 q hq4) (fun z => eq (h5 i hi4 q hq4 z).symm) hk (h7 q hq)
  · have hne : q ≠ i := fun z => by subst z; have : aM s ≤ q := hq; omega
    exact RB_other hsi (h4 q hq4) (fun z => hne (h5 i hi4 q hq4 z).symm) hk (h8 q hq hq4)
  · rw [wI_ne (by omega)]; exact h11
  · rw [wI_ne (by omega)]; exact h12
  · rw [wI_ne (by omega)]; exact h13
/-- the same for the reference: one place of the cells 207 .. 210 -/
def inx (i : Nat) (f : SentT → SentT) (s : AS) : AS := (s.1, (s.2.1.1, u1 (aS s) i (f (aS s i))), s.2.2)
def sB (a w : Nat) (v : Int32) (x : SentT) : SentT := (x.1, x.2.1, x.2.2.1, u2 (sBi x) a w v, x.2.2.2.2)
def sC (a w : Nat) (v : Int32) (x : SentT) : SentT := (x.1, x.2.1, x.2.2.1, x.2.2.2.1, u2 (sCo x) a w v)
def sH (w : Nat) (v : Int32) (x : SentT) : SentT := (x.1, x.2.1, u1 (sHd x) w v, x.2.2.2)
def an_bias (s : AS) (p a q v : Int32) : Int32 := match idx p (aM s) with
  | none => BADI
  | some i => match adx a q (sZ (aS s i)) with
    | none => BADI
    | some (b, w) => if -99 ≤ v.toInt ∧ v.toInt ≤ 99 then sBi (aS s i) b w else BADV
def nx_bias (s : AS) (p a q v : Int32) : AS := match idx p (aM s) with
  | none => s
  | some i => match adx a q (sZ (aS s i)) with
    | none => s
    | some (b, w) => if -99 ≤ v.toInt ∧ v.toInt ≤ 99 then inx i (sB b w v) s else s
def an_cons (s : AS) (p a q v : Int32) : Int32 := match idx p (aM s) with
  | none => BADI
  | some i => match adx a q (sZ (aS s i)) with
    | none => BADI
    | some (b, w) => if 0 ≤ v.toInt ∧ v.toInt ≤ 2 then sCo (aS s i) b w else BADV
def nx_cons (s : AS) (p a q v : Int32) : AS := match idx p (aM s) with
  | none => s
  | some i => match adx a q (sZ (aS s i)) with
    | none => s
    | some (b, w) => if 0 ≤ v.toInt ∧ v.toInt ≤ 2 then inx i (sC b w v) s else s
theorem RC_bias {σ : St} {s : AS} {i b w : Nat} {v : Int32} (h : RC σ s) (hi : i < aM s) (hb : b < 7) (hw : w < 7) : RC (wI σ (σ.2.2 i + 3 + 1 + b) w v) (inx i (sB b w v) s) := by
  have hm := h.m4
  refine RC_sent h hi ⟨by omega, by omega⟩ (fun z => by omega) ?_
  obtain ⟨h1, h2, h3⟩ := h.sent hi
  refine ⟨by rw [wI_ne (by omega)]; exact h1, fun q q1 q2 => by rw [wI_ne (by omega), wI_ne (by omega)]; exact h2 q q1 q2, fun p p1 q q1 => ?_⟩
  rw [wI_ne (b := σ.2.2 i + 12 + p) (by omega)]
  refine ⟨?_, (h3 p p1 q q1).2⟩
  show (if σ.2.2 i + 4 + p = σ.2.2 i + 3 + 1 + b ∧ q = w then v else σ.1 (σ.2.2 i + 4 + p) q) = (if p = b ∧ q = w then v else sBi (aS s i) p q)
  by_cases e : p = b ∧ q = w
  · rw [if_pos ⟨by omega, e.2⟩, if_pos e]
  · rw [if_neg (fun z => e ⟨by omega, z.2⟩), if_neg e]; exact (h3 p p1 q q1).1
theorem RC_cons {σ : St} {s : AS} {i b w : Nat} {v : Int32} (h : RC σ s) (hi : i < aM s) (hb : b < 7) (hw : w < 7) : RC (wI σ (σ.2.2 i + 11 + 1 + b) w v) (inx i (sC b w v) s) := by
  have hm := h.m4
  refine RC_sent h hi ⟨by omega, by omega⟩ (fun z => by omega) ?_
  obtain ⟨h1, h2, h3⟩ := h.sent hi
  refine ⟨by rw [wI_ne (by omega)]; exact h1, fun q q1 q2 => by rw [wI_ne (by omega), wI_ne (by omega)]; exact h2 q q1 q2, fun p p1 q q1 => ?_⟩
  rw [wI_ne (b := σ.2.2 i + 4 + p) (by omega)]
  refine ⟨(h3 p p1 q q1).1, ?_⟩
  show (if σ.2.2 i + 12 + p = σ.2.2 i + 11 + 1 + b ∧ q = w then v else σ.1 (σ.2.2 i + 12 + p) q) = (if p = b ∧ q = w then v else sCo (aS s i) p q)
  by_cases e : p = b ∧ q = w
  · rw [if_pos ⟨by omega, e.2⟩, if_pos e]
  · rw [if_neg (fun z => e ⟨by omega, z.2⟩), if_neg e]; exact (h3 p p1 q q1).2
theorem RM_bias {σ : St} {s : AS} {i b w : Nat} {v : Int32} (h : RM σ s) (hi : i < aM s) (hb : b < 7) (hw : w < 7) : RM (wI σ 209 (49 * i + 7 * b + w) v) (inx i (sB b w v) s) := by
  obtain ⟨⟨h1, h2⟩, h3, h5, h6, h7, h8, h9, h10⟩ := h
  refine ⟨⟨by rw [wI_ne (by decide)]; exact h1, fun q hq => by rw [wI_ne (by decide)]; exact h2 q hq⟩, ⟨by rw [wI_ne (by decide)]; exact h3.1, h3.2⟩, fun q hq => ?_, fun k hk => by rw [wI_ne (by decide)]; exact h6 k hk, fun j hj => by rw [wI_ne (b := 213) (by decide), wI_ne (b := 212) (by decide)]; exact h7 j hj, by rw [wI_ne (by decide)]; exact h8, by rw [wI_ne (by decide)]; exact h9, by rw [wI_ne (by decide)]; exact h10⟩
  obtain ⟨k1, k2, k3⟩ := h5 q hq
  rw [wI_ne (b := 206) (by decide), wI_ne (b := 207) (by decide), wI_ne (b := 208) (by decide), wI_ne (b := 210) (by decide)]
  show σ.1 206 q = nI (sZ (u1 (aS s) i (sB b w v (aS s i)) q)) ∧ (∀ z, 1 ≤ z → z ≤ sZ (u1 (aS s) i (sB b w v (aS s i)) q) → σ.1 207 (7 * q + z) = sTg (u1 (aS s) i (sB b w v (aS s i)) q) z ∧ σ.1 208 (7 * q + z) = sHd (u1 (aS s) i (sB b w v (aS s i)) q) z) ∧ ∀ p, p < 7 → ∀ z, z < 7 → (wI σ 209 (49 * i + 7 * b + w) v).1 209 (49 * q + 7 * p + z) = sBi (u1 (aS s) i (sB b w v (aS s i)) q) p z ∧ σ.1 210 (49 * q + 7 * p + z) = sCo (u1 (aS s) i (sB b w v (aS s i)) q) p z
  by_cases e : q = i
  · subst e
    rw [u1, if_pos rfl]
    refine ⟨k1, k2, fun p p1 z z1 => ⟨?_, (k3 p p1 z z1).2⟩⟩
    show (if 209 = 209 ∧ 49 * q + 7 * p + z = 49 * q + 7 * b + w then v else σ.1 209 (49 * q + 7 * p + z)) = (if p = b ∧ z = w then v else sBi (aS s q) p z)
    by_cases e2 : p = b ∧ z = w
    · rw [if_pos ⟨rfl, by rw [e2.1, e2.2]⟩, if_pos e2]
    · rw [if_neg (fun y => e2 ⟨by omega, by omega⟩), if_neg e2]; exact (k3 p p1 z z1).1
  · rw [u1, if_neg e]
    refine ⟨k1, k2, fun p p1 z z1 => ⟨?_, (k3 p p1 z z1).2⟩⟩
    rw [wI_ni (by omega)]; exact (k3 p p1 z z1).1
theorem RM_cons {σ : St} {s : AS} {i b w : Nat} {v : Int32} (h : RM σ s) (hi : i < aM s) (hb : b < 7) (hw : w < 7) : RM (wI σ 210 (49 * i + 7 * b + w) v) (inx i (sC b w v) s) := by
  obtain ⟨⟨h1, h2⟩, h3, h5, h6, h7, h8, h9, h10⟩ := h
  refine ⟨⟨by rw [wI_ne (by decide)]; exact h1, fun q hq => by rw [wI_ne (by decide)]; exact h2 q hq⟩, ⟨by rw [wI_ne (by decide)]; exact h3.1, h3.2⟩, fun q hq => ?_, fun k hk => by rw [wI_ne (by decide)]; exact h6 k hk, fun j hj => by rw [wI_ne (b := 213) (by decide), wI_ne (b := 212) (by decide)]; exact h7 j hj, by rw [wI_ne (by decide)]; exact h8, by rw [wI_ne (by decide)]; exact h9, by rw [wI_ne (by decide)]; exact h10⟩
  obtain ⟨k1, k2, k3⟩ := h5 q hq
  rw [wI_ne (b := 206) (by decide), wI_ne (b := 207) (by decide), wI_ne (b := 208) (by decide), wI_ne (b := 209) (by decide)]
  show σ.1 206 q = nI (sZ (u1 (aS s) i (sC b w v (aS s i)) q)) ∧ (∀ z, 1 ≤ z → z ≤ sZ (u1 (aS s) i (sC b w v (aS s i)) q) → σ.1 207 (7 * q + z) = sTg (u1 (aS s) i (sC b w v (aS s i)) q) z ∧ σ.1 208 (7 * q + z) = sHd (u1 (aS s) i (sC b w v (aS s i)) q) z) ∧ ∀ p, p < 7 → ∀ z, z < 7 → σ.1 209 (49 * q + 7 * p + z) = sBi (u1 (aS s) i (sC b w v (aS s i)) q) p z ∧ (wI σ 210 (49 * i + 7 * b + w) v).1 210 (49 * q + 7 * p + z) = sCo (u1 (aS s) i (sC b w v (aS s i)) q) p z
  by_cases e : q = i
  · subst e
    rw [u1, if_pos rfl]
    refine ⟨k1, k2, fun p p1 z z1 => ⟨(k3 p p1 z z1).1, ?_⟩⟩
    show (if 210 = 210 ∧ 49 * q + 7 * p + z = 49 * q + 7 * b + w then v else σ.1 210 (49 * q + 7 * p + z)) = (if p = b ∧ z = w then v else sCo (aS s q) p z)
    by_cases e2 : p = b ∧ z = w
    · rw [if_pos ⟨rfl, by rw [e2.1, e2.2]⟩, if_pos e2]
    · rw [if_neg (fun y => e2 ⟨by omega, by omega⟩), if_neg e2]; exact (k3 p p1 z z1).2
  · rw [u1, if_neg e]
    refine ⟨k1, k2, fun p p1 z z1 => ⟨(k3 p p1 z z1).1, ?_⟩⟩
    rw [wI_ni (by omega)]; exact (k3 p p1 z z1).2
theorem arc_M {i b w : Nat} : ((49 * nI i) + (7 * nI b)) + nI w = nI (49 * i + 7 * b + w) := by
  have h1 : (49 : Int32) = nI 49 := rfl
  have h2 : (7 : Int32) = nI 7 := rfl
  rw [h1, h2, pk_mul, pk_mul, nI_add, nI_add]
section OP3
variable {σ : St} {s : AS} {K : Int32 → St → Prop}
theorem c_setBias {p a q v : Int32} (h : RC σ s) (hw : wf s) (hK : ∀ σ', RC σ' (nx_bias s p a q v) → frM σ σ' → K (an_bias s p a q v) σ') : P_X7_setBias p a q v σ K := by
  unfold P_X7_setBias
  have hm := h.m4
  refine find_C h (fun hi => ⟨fun _ => ?_, fun b e => by cases e⟩) (fun j hj hp hi => ⟨fun e => (by cases e), fun b e => ?_⟩)
  · rw [an_bias, nx_bias, hi] at hK; exact hK σ h frM.rf
  · cases e
    have hz := hw.sz hj
    have hso := h.sok (i := j) (by omega)
    have hrg := s_rng hso
    refine ⟨hso, hasArc_C (h.sent hj).1 (by omega) (fun hv => ⟨fun _ => ?_, fun z => absurd rfl z⟩) (fun b w b1 w1 w2 hne ha hq hv => ⟨fun z => absurd z (by decide), fun _ => ?_⟩)⟩
    · rw [an_bias, nx_bias, hi] at hK; dsimp only at hK; rw [hv] at hK; exact hK σ h frM.rf
    · rw [an_bias, nx_bias, hi] at hK; dsimp only at hK; rw [hv] at hK; dsimp only at hK
      refine isWithin_C (b := 99) rfl (by decide) (fun c => ⟨fun _ => ?_, fun z => absurd rfl z⟩) (fun c => ⟨fun z => absurd z (by decide), fun _ => ?_⟩)
      · rw [if_neg c, if_neg c] at hK; exact hK σ h frM.rf
      · rw [if_pos c, if_pos c] at hK
        subst ha
        subst hq
        have hb7 : vp_in (nI b) 7 := vp_in_nI (by omega) (by decide)
        have hw7 : vp_in (nI w) 7 := vp_in_nI (by omega) (by decide)
        refine ⟨hb7, hw7, fun v8 e8 => ⟨hb7, hw7, fun s9 e9 => ?_⟩⟩
        rw [ix_nI (by omega), ix_nI (by omega)] at e8 e9
        subst e9
        rw [e8, show σ.2.2 j + 3 + 1 + b = σ.2.2 j + 4 + b by omega, ((h.sent hj).2.2 b (by omega) w (by omega)).1, show σ.2.2 j + 4 + b = σ.2.2 j + 3 + 1 + b by omega]
        exact hK _ (RC_bias h hj (by omega) (by omega)) (frM_wI (by omega))
theorem c_constrain {p a q v : Int32} (h : RC σ s) (hw : wf s) (hK : ∀ σ', RC σ' (nx_cons s p a q v) → frM σ σ' → K (an_cons s p a q v) σ') : P_X7_constrain p a q v σ K := by
  unfold P_X7_constrain
  have hm := h.m4
  refine find_C h (fun hi => ⟨fun _ => ?_, fun b e => by cases e⟩) (fun j hj hp hi => ⟨fun e => (by cases e), fun b e => ?_⟩)
  · rw [an_cons, nx_cons, hi] at hK; exact hK σ h frM.rf
  · cases e
    have hz := hw.sz hj
    have hso := h.sok (i := j) (by omega)
    have hrg := s_rng hso
    refine ⟨hso, hasArc_C (h.sent hj).1 (by omega) (fun hv => ⟨fun _ => ?_, fun z => absurd rfl z⟩) (fun b w b1 w1 w2 hne ha hq hv => ⟨fun z => absurd z (by decide), fun _ => ?_⟩)⟩
    · rw [an_cons, nx_cons, hi] at hK; dsimp only at hK; rw [hv] at hK; exact hK σ h frM.rf
    · rw [an_cons, nx_cons, hi] at hK; dsimp only at hK; rw [hv] at hK; dsimp only at hK
      have e0 : (0 : Int32).toInt = 0 := rfl
      have e2 : (2 : Int32).toInt = 2 := rfl
      rw [T_lt, T_le, e0, e2]
      refine ⟨fun c => ?_, fun c => ⟨fun c2 => ?_, fun c2 => ?_⟩⟩
      · rw [if_neg (by omega), if_neg (by omega)] at hK; exact hK σ h frM.rf
      · rw [if_pos (by omega), if_pos (by omega)] at hK
        subst ha
        subst hq
        have hb7 : vp_in (nI b) 7 := vp_in_nI (by omega) (by decide)
        have hw7 : vp_in (nI w) 7 := vp_in_nI (by omega) (by decide)
        refine ⟨hb7, hw7, fun v8 e8 => ⟨hb7, hw7, fun s9 e9 => ?_⟩⟩
        rw [ix_nI (by omega), ix_nI (by omega)] at e8 e9
        subst e9
        rw [e8, show σ.2.2 j + 11 + 1 + b = σ.2.2 j + 12 + b by omega, ((h.sent hj).2.2 b (by omega) w (by omega)).2, show σ.2.2 j + 12 + b = σ.2.2 j + 11 + 1 + b by omega]
        exact hK _ (RC_cons h hj (by omega) (by omega)) (frM_wI (by omega))
      · rw [if_neg (by omega), if_neg (by omega)] at hK; exact hK σ h frM.rf
theorem m_setBias {p a q v : Int32} (h : RM σ s) (hw : wf s) (hK : ∀ σ', RM σ' (nx_bias s p a q v) → frK σ σ' → K (an_bias s p a q v) σ') : P_X8_setBias p a q v σ K := by
  unfold P_X8_setBias
  have hm := h.m4
  refine isArc_M h hw (fun hi => ⟨fun _ => ?_, fun z => absurd rfl z⟩) (fun i hi hp hx hv => ⟨fun _ => ?_, fun z => absurd rfl z⟩) (fun i b w hi hp hx b1 w1 w2 hne ha hq hv => ⟨fun z => absurd z (by decide), fun _ => ?_⟩)
  · rw [an_bias, nx_bias, hi] at hK; exact hK σ h frK.rf
  · rw [an_bias, nx_bias, hx] at hK; dsimp only at hK; rw [hv] at hK; exact hK σ h frK.rf
  · rw [an_bias, nx_bias, hx] at hK; dsimp only at hK; rw [hv] at hK; dsimp only at hK
    have hz := hw.sz hi
    refine in_N (A := -99) (B := 99) (by decide) (by decide) (fun c => ⟨fun _ => ?_, fun z => absurd rfl z⟩) (fun c => ⟨fun z => absurd z (by decide), fun _ => ?_⟩)
    · rw [if_neg c, if_neg c] at hK; exact hK σ h frK.rf
    · rw [if_pos c, if_pos c] at hK
      subst hp
      subst ha
      subst hq
      unfold P_X8_arc
      rw [arc_M]
      have hv196 : vp_in (nI (49 * i + 7 * b + w)) 196 := vp_in_nI (by omega) (by decide)
      refine ⟨hv196, fun v8 e8 => ⟨hv196, fun s9 e9 => ?_⟩⟩
      rw [ix_nI (by omega)] at e8 e9
      subst e9
      rw [e8, h.bi hi (by omega) (by omega)]
      exact hK _ (RM_bias h hi (by omega) (by omega)) (frK_wI (by decide))
theorem m_constrain {p a q v : Int32} (h : RM σ s) (hw : wf s) (hK : ∀ σ', RM σ' (nx_cons s p a q v) → frK σ σ' → K (an_cons s p a q v) σ') : P_X8_constrain p a q v σ K := by
  unfold P_X8_constrain
  have hm := h.m4
  refine isArc_M h hw (fun hi => ⟨fun _ => ?_, fun z => absurd rfl z⟩) (fun i hi hp hx hv => ⟨fun _ => ?_, fun z => absurd rfl z⟩) (fun i b w hi hp hx b1 w1 w2 hne ha hq hv => ⟨fun z => absurd z (by decide), fun _ => ?_⟩)
  · rw [an_cons, nx_cons, hi] at hK; exact hK σ h frK.rf
  · rw [an_cons, nx_cons, hx] at hK; dsimp only at hK; rw [hv] at hK; exact hK σ h frK.rf
  · rw [an_cons, nx_cons, hx] at hK; dsimp only at hK; rw [hv] at hK; dsimp only at hK
    have hz := hw.sz hi
    refine in_N (A := 0) (B := 2) (by decide) (by decide) (fun c => ⟨fun _ => ?_, fun z => absurd rfl z⟩) (fun c => ⟨fun z => absurd z (by decide), fun _ => ?_⟩)
    · rw [if_neg c, if_neg c] at hK; exact hK σ h frK.rf
    · rw [if_pos c, if_pos c] at hK
      subst hp
      subst ha
      subst hq
      unfold P_X8_arc
      rw [arc_M]
      have hv196 : vp_in (nI (49 * i + 7 * b + w)) 196 := vp_in_nI (by omega) (by decide)
      refine ⟨hv196, fun v8 e8 => ⟨hv196, fun s9 e9 => ?_⟩⟩
      rw [ix_nI (by omega)] at e8 e9
      subst e9
      rw [e8, h.co hi (by omega) (by omega)]
      exact hK _ (RM_cons h hi (by omega) (by omega)) (frK_wI (by decide))
end OP3
