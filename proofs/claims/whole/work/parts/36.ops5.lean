/-! the score of an arc; crossings -/
def tgN (x : SentT) (h : Nat) : Nat := if h = 0 then 8 else ix (sTg x h)
def dPl (h w : Nat) : Nat := if h < w then 71 + (w - h) else 77 + (h - w)
def scT (W : Nat → Int32) (x : SentT) (h w : Nat) : Int32 := W (8 * tgN x h + tgN x w) + W (dPl h w)
def scI (W : Nat → Int32) (x : SentT) (h w : Nat) : Int32 := scT W x h w + sBi x h w
theorem wfS.tg {x : SentT} (h : wfS x) {w : Nat} (h1 : 1 ≤ w) (h2 : w ≤ sZ x) : sTg x w = nI (tgN x w) ∧ tgN x w < 8 := by
  obtain ⟨b, hb, e⟩ := (h.2.1 w h1 h2).1
  unfold tgN
  rw [if_neg (by omega), e, ix_nI (by omega)]
  exact ⟨rfl, hb⟩
theorem tgN_0 {x : SentT} : tgN x 0 = 8 := rfl
theorem wfS.tg9 {x : SentT} (h : wfS x) {w : Nat} (h2 : w ≤ sZ x) : tgN x w < 9 := by
  rcases Nat.eq_zero_or_pos w with e | e
  · rw [e, tgN_0]; decide
  · have := (h.tg e h2).2; omega
theorem abs_nI {h w : Nat} (hh : h < 1000) (hw : w < 1000) : (if 0 ≤ (nI h - nI w) then (nI h - nI w) else 0 - (nI h - nI w)) = nI (if h < w then w - h else h - w) := by
  have e := pk_sub_toInt (a := h) (b := w) (by omega) (by omega)
  by_cases c : h < w
  · rw [if_pos c, if_neg (by rw [T_le, e, lit_toInt0]; omega), ← pk_sub (by omega), Int32.zero_sub, Int32.neg_sub]
  · rw [if_neg c, if_pos (by rw [T_le, e, lit_toInt0]; omega), pk_sub (by omega)]
section OPA
variable {σ : St} {s : AS} {K : Int32 → St → Prop}
theorem tag_C {a w : Nat} {x : SentT} (hx : wfS x) (h : RS σ a x) (hr : σ.1 (a + 1) 0 = 8) (hw : w ≤ sZ x) : σ.1 (a + 1) w = nI (tgN x w) := by
  rcases Nat.eq_zero_or_pos w with e | e
  · rw [e, tgN_0, hr]; rfl
  · rw [(h.2.1 w e hw).1]; exact (hx.tg e hw).1
theorem ofArc_C {a b h w : Nat} {x : SentT} {W : Nat → Int32} (hx : wfS x) (r : RS σ a x) (hr : σ.1 (a + 1) 0 = 8) (hW : RW σ b W) (hh : h ≤ sZ x) (hw1 : 1 ≤ w) (hw2 : w ≤ sZ x) (hne : h ≠ w) (hK : K (scT W x h w) σ) : P_X6_ofArc b a (nI h) (nI w) σ K := by
  have hz := hx.1
  unfold P_X6_ofArc
  rw [ix_nI (by omega), ix_nI (by omega), tag_C hx r hr hh, tag_C hx r hr hw2]
  have h9 := hx.tg9 hh
  have h8 := (hx.tg hw1 hw2).2
  refine ⟨vp_in_nI (by omega) (by decide), vp_in_nI h9 (by decide), vp_in_nI (by omega) (by decide), vp_in_nI h8 (by decide), ?_⟩
  rw [ix_nI (by omega), ix_nI (by omega)]
  have e1 : σ.1 (b + 1 + 1 + tgN x h) (tgN x w) = W (8 * tgN x h + tgN x w) := hW.1 _ h9 _ h8
  rw [e1]
  unfold P_X6_direction
  rw [nI_leI (by omega) (by omega)]
  refine ⟨fun c => ⟨vp_in_nI (n := 1) (by decide) (by decide), fun v8 e8 => ?_⟩, fun c => ⟨vp_in_nI (n := 0) (by decide) (by decide), fun v8 e8 => ?_⟩⟩
  · rw [abs_nI (by omega) (by omega), if_neg (by omega)] at e8
    subst e8
    refine ⟨vp_in_nI (by omega) (by decide), ?_⟩
    rw [ix_nI (by omega), show ix (1 : Int32) = 1 from rfl]
    have e2 : σ.1 (b + 11 + 1 + 1) (h - w) = W (71 + 6 * 1 + (h - w)) := hW.2 1 (by decide) (h - w) (by omega) (by omega)
    rw [e2]
    unfold scT dPl at hK
    rw [if_neg (by omega)] at hK
    exact hK
  · rw [abs_nI (by omega) (by omega), if_pos (by omega)] at e8
    subst e8
    refine ⟨vp_in_nI (by omega) (by decide), ?_⟩
    rw [ix_nI (by omega), show ix (0 : Int32) = 0 from rfl]
    have e2 : σ.1 (b + 11 + 1 + 0) (w - h) = W (71 + 6 * 0 + (w - h)) := hW.2 0 (by decide) (w - h) (by omega) (by omega)
    rw [e2]
    unfold scT dPl at hK
    rw [if_pos (by omega)] at hK
    exact hK
theorem arcScore_C {a h w : Nat} {x : SentT} {W : Nat → Int32} (hx : wfS x) (r : RS σ a x) (hr : σ.1 (a + 1) 0 = 8) (hW : RW σ 81 W) (hh : h ≤ sZ x) (hw1 : 1 ≤ w) (hw2 : w ≤ sZ x) (hne : h ≠ w) (hK : K (scI W x h w) σ) : P_X7_arcScore a (nI h) (nI w) σ K := by
  have hz := hx.1
  unfold P_X7_arcScore
  refine ofArc_C hx r hr hW hh hw1 hw2 hne ⟨vp_in_nI (by omega) (by decide), vp_in_nI (by omega) (by decide), ?_⟩
  rw [ix_nI (by omega), ix_nI (by omega)]
  have e : σ.1 (a + 3 + 1 + h) w = sBi x h w := (r.2.2 h (by omega) w (by omega)).1
  rw [e]
  exact hK
theorem tagOf_M {i w : Nat} (h : RM σ s) (hw : wf s) (hi : i < aM s) (hw2 : w ≤ sZ (aS s i)) (hK : K (nI (tgN (aS s i) w)) σ) : P_X8_tagOf (nI i) (nI w) σ K := by
  have hm := h.m4
  have hx := hw.2.1.2 i hi
  have hz := hx.1
  unfold P_X8_tagOf
  rw [show (0 : Int32) = nI 0 from rfl, nI_eq (by omega) (by decide)]
  refine ⟨fun e => ?_, fun e => ?_⟩
  · rw [e, tgN_0] at hK; exact hK
  · unfold P_X8_word
    rw [word_M]
    refine ⟨vp_in_nI (by omega) (by decide), ?_⟩
    rw [ix_nI (by omega), h.tg hi (by omega) hw2, (hx.tg (by omega) hw2).1]
    exact hK
theorem scoreOf_M {i h w : Nat} (r : RM σ s) (hw : wf s) (hi : i < aM s) (hh : h ≤ sZ (aS s i)) (hw1 : 1 ≤ w) (hw2 : w ≤ sZ (aS s i)) (hne : h ≠ w) (hK : K (scI (aW s) (aS s i) h w) σ) : P_X8_scoreOf (nI i) (nI h) (nI w) σ K := by
  have hm := r.m4
  have hx := hw.2.1.2 i hi
  have hz := hx.1
  have h9 := hx.tg9 hh
  have h8 := (hx.tg hw1 hw2).2
  unfold P_X8_scoreOf P_X8_tagPlaceOf
  refine tagOf_M r hw hi hh (tagOf_M r hw hi hw2 ?_)
  unfold P_X8_tagPlace
  rw [tagPl_M]
  refine ⟨vp_in_nI (by omega) (by decide), ?_⟩
  rw [ix_nI (by omega), r.wts (by omega)]
  unfold P_X8_distancePlaceOf P_X8_distancePlace P_X8_arc
  rw [arc_M, nI_leI (by omega) (by omega)]
  refine ⟨fun c => ?_, fun c => ?_⟩
  · rw [pk_sub (by omega), show (1 : Int32) = nI 1 from rfl, disPl_M]
    refine ⟨vp_in_nI (by omega) (by decide), vp_in_nI (by omega) (by decide), ?_⟩
    rw [ix_nI (by omega), ix_nI (by omega), r.wts (by omega), r.bi hi (by omega) (by omega)]
    unfold scI scT dPl at hK
    rw [if_neg (by omega)] at hK
    exact hK
  · rw [pk_sub (by omega), show (0 : Int32) = nI 0 from rfl, disPl_M]
    refine ⟨vp_in_nI (by omega) (by decide), vp_in_nI (by omega) (by decide), ?_⟩
    rw [ix_nI (by omega), ix_nI (by omega), r.wts (by omega), r.bi hi (by omega) (by omega)]
    unfold scI scT dPl at hK
    rw [if_pos (by omega)] at hK
    exact hK
def an_score (s : AS) (p a q : Int32) : Int32 := match idx p (aM s) with
  | none => BADI
  | some i => match adx a q (sZ (aS s i)) with
    | none => BADI
    | some (b, w) => scI (aW s) (aS s i) b w
theorem c_score {p a q : Int32} (h : RC σ s) (hw : wf s) (hK : K (an_score s p a q) σ) : P_X7_score p a q σ K := by
  unfold P_X7_score
  have hm := h.m4
  refine find_C h (fun hi => ⟨fun _ => ?_, fun b e => by cases e⟩) (fun j hj hp hi => ⟨fun e => (by cases e), fun b e => ?_⟩)
  · rw [an_score, hi] at hK; exact hK
  · cases e
    have hx := hw.2.1.2 j hj
    have hz := hx.1
    refine ⟨h.sok (i := j) (by omega), hasArc_C (h.sent hj).1 (by omega) (fun hv => ⟨fun _ => ?_, fun z => absurd rfl z⟩) (fun b w b1 w1 w2 hne ha hq hv => ⟨fun z => absurd z (by decide), fun _ => ?_⟩)⟩
    · rw [an_score, hi] at hK; dsimp only at hK; rw [hv] at hK; exact hK
    · rw [an_score, hi] at hK; dsimp only at hK; rw [hv] at hK; dsimp only at hK
      subst ha; subst hq
      exact arcScore_C hx (h.sent hj) (h.root (by omega)) h.wts b1 w1 w2 hne hK
theorem m_score {p a q : Int32} (h : RM σ s) (hw : wf s) (hK : K (an_score s p a q) σ) : P_X8_score p a q σ K := by
  unfold P_X8_score
  refine isArc_M h hw (fun hi => ⟨fun _ => ?_, fun z => absurd rfl z⟩) (fun i hi hp hx hv => ⟨fun _ => ?_, fun z => absurd rfl z⟩) (fun i b w hi hp hx b1 w1 w2 hne ha hq hv => ⟨fun z => absurd z (by decide), fun _ => ?_⟩)
  · rw [an_score, hi] at hK; exact hK
  · rw [an_score, hx] at hK; dsimp only at hK; rw [hv] at hK; exact hK
  · rw [an_score, hx] at hK; dsimp only at hK; rw [hv] at hK; dsimp only at hK
    subst hp; subst ha; subst hq
    exact scoreOf_M h hw hi b1 w1 w2 hne hK
end OPA
/-- two arcs cross: one end of the one strictly between the ends of the other, the other end strictly outside -/
abbrev crP (a b c d : Nat) : Prop := ((((a < c ∧ c < b) ∨ (b < c ∧ c < a)) ∧ ((d < a ∧ d < b) ∨ (a < d ∧ b < d))) ∨ (((a < d ∧ d < b) ∨ (b < d ∧ d < a)) ∧ ((c < a ∧ c < b) ∨ (a < c ∧ b < c))))
theorem crP_symm {a b c d : Nat} : crP a b c d ↔ crP c d a b := by
  unfold crP
  omega
def cr1 (t : Nat → Nat) (w : Nat) : Nat → Nat
  | 0 => 0
  | u + 1 => cr1 t w u + (if 1 ≤ u ∧ crP (t w) w (t u) u then 1 else 0)
def crA (t : Nat → Nat) : Nat → Nat
  | 0 => 0
  | w + 1 => crA t w + (if 2 ≤ w then cr1 t w w else 0)
theorem cr1_le (t : Nat → Nat) (w : Nat) : ∀ u, cr1 t w u ≤ u
  | 0 => Nat.le_refl _
  | u + 1 => by
    have := cr1_le t w u
    unfold cr1
    split <;> omega
theorem crA_le (t : Nat → Nat) : ∀ w, crA t w ≤ w * w
  | 0 => Nat.le_refl _
  | w + 1 => by
    have h1 := crA_le t w
    have h2 := cr1_le t w w
    unfold crA
    have : (w + 1) * (w + 1) = w * w + 2 * w + 1 := by rw [Nat.add_mul, Nat.mul_add]; omega
    split <;> omega
section OPB
variable {σ : St} {s : AS} {K : Int32 → St → Prop}
set_option maxHeartbeats 4000000 in
theorem cross_C {a b c d : Nat} (ha : a < 2 ^ 31) (hb : b < 2 ^ 31) (hc : c < 2 ^ 31) (hd : d < 2 ^ 31) (h1 : crP a b c d → K 1 σ) (h0 : ¬ crP a b c d → K 0 σ) : P_X7_cross (nI a) (nI b) (nI c) (nI d) σ K := by
  unfold P_X7_cross J_X7_cross_10 J_X7_cross_22 J_X7_cross_34 J_X7_cross_46 J_X7_cross_69
  simp only [nI_leI, nI_ltI, ha, hb, hc, hd]
  repeat' first | (refine ⟨?_, ?_⟩) | (intro _)
  all_goals first | exact h0 (by unfold crP; omega) | exact h1 (by unfold crP; omega)
set_option maxHeartbeats 4000000 in
theorem cross_M {a b c d : Nat} (ha : a < 2 ^ 31) (hb : b < 2 ^ 31) (hc : c < 2 ^ 31) (hd : d < 2 ^ 31) (h1 : crP a b c d → K 1 σ) (h0 : ¬ crP a b c d → K 0 σ) : P_X8_crosses (nI a) (nI b) (nI c) (nI d) σ K := by
  unfold P_X8_crosses J_X8_crosses_10 J_X8_crosses_22 J_X8_crosses_34 J_X8_crosses_46 J_X8_crosses_69
  simp only [nI_leI, nI_ltI, ha, hb, hc, hd]
  repeat' first | (refine ⟨?_, ?_⟩) | (intro _)
  all_goals first | exact h0 (by unfold crP; omega) | exact h1 (by unfold crP; omega)
end OPB
