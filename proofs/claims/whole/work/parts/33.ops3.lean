/-! weights, settings, text, the score of an arc -/
def tgx (p q : Int32) : Option Nat := match idx p 9 with
  | none => none
  | some h => match idx q 8 with
    | none => none
    | some w => some (8 * h + w)
def dsx (p q : Int32) : Option Nat := match idx p 2 with
  | none => none
  | some d => match wdx q 6 with
    | none => none
    | some k => some (71 + 6 * d + k)
theorem lit_toInt0 : (0 : Int32).toInt = 0 := rfl
theorem lit_toInt1 : (1 : Int32).toInt = 1 := rfl
theorem lit_toInt6 : (6 : Int32).toInt = 6 := rfl
theorem lit_toInt7 : (7 : Int32).toInt = 7 := rfl
theorem lit_toInt8 : (8 : Int32).toInt = 8 := rfl
theorem c_eq {p : Int32} {n : Nat} (h : n < 2 ^ 31) : p = nI n ↔ p.toInt = n := by rw [T_eq, nI_toInt h]
section OP4
variable {σ : St} {s : AS} {K : Int32 → St → Prop}
theorem isTagPair_C {p q : Int32} (h0 : tgx p q = none → K 0 σ) (h1 : ∀ h w, h < 9 → w < 8 → p = nI h → q = nI w → tgx p q = some (8 * h + w) → K 1 σ) : P_X7_isTagPair p q σ K := by
  unfold P_X7_isTagPair
  have e9 : 8 < p ↔ nI 9 ≤ p := by rw [T_lt, T_le, lit_toInt8, nI_toInt (by decide)]; omega
  rw [e9]
  rcases idx_cases p (m := 9) (by decide) with ⟨hi, hc⟩ | ⟨h, hh, hp, hi⟩
  · have ht : tgx p q = none := by simp [tgx, hi]
    rcases hc with hc | ⟨hc, hc2⟩
    · exact ⟨fun _ => h0 ht, fun z => absurd hc z⟩
    · exact ⟨fun _ => h0 ht, fun _ => ⟨fun _ => h0 ht, fun z => absurd hc2 z⟩⟩
  · have c0 : ¬ p < 0 := by rw [hp]; exact nI_pos (by omega)
    have c1 : ¬ nI 9 ≤ p := by rw [hp]; exact nI_ge hh (by omega)
    refine ⟨fun z => absurd z c0, fun _ => ⟨fun z => absurd z c1, fun _ => ?_⟩⟩
    rcases idx_cases q (m := 8) (by decide) with ⟨hj, hc⟩ | ⟨w, hw, hq, hj⟩
    · have ht : tgx p q = none := by simp [tgx, hi, hj]
      rcases hc with hc | ⟨hc, hc2⟩
      · exact ⟨fun _ => h0 ht, fun z => absurd hc z⟩
      · exact ⟨fun _ => h0 ht, fun _ => ⟨fun _ => h0 ht, fun z => absurd hc2 z⟩⟩
    · have d0 : ¬ q < 0 := by rw [hq]; exact nI_pos (by omega)
      have d1 : ¬ 8 ≤ q := by rw [hq]; exact nI_ge (b := 8) hw (by decide)
      exact ⟨fun z => absurd z d0, fun _ => ⟨fun z => absurd z d1, fun _ => h1 h w hh hw hp hq (by simp [tgx, hi, hj])⟩⟩
theorem isDistance_C {p q : Int32} (h0 : dsx p q = none → K 0 σ) (h1 : ∀ d k, d < 2 → 1 ≤ k → k ≤ 6 → p = nI d → q = nI k → dsx p q = some (71 + 6 * d + k) → K 1 σ) : P_X7_isDistance p q σ K := by
  unfold P_X7_isDistance J_X7_isDistance_9
  have key : (idx p 2 = none → dsx p q = none) := fun hi => by simp [dsx, hi]
  have step : ∀ d, d < 2 → p = nI d → idx p 2 = some d → (q < 1 → K 0 σ) ∧ (¬ q < 1 → (6 < q → K 0 σ) ∧ (¬ 6 < q → K 1 σ)) := by
    intro d hd hp hi
    rcases wdx_cases q (n := 6) (by decide) with ⟨hj, hc⟩ | ⟨k, k1, k2, hq, hj⟩
    · have ht : dsx p q = none := by simp [dsx, hi, hj]
      rcases hc with hc | ⟨hc, hc2⟩
      · exact ⟨fun _ => h0 ht, fun z => absurd hc z⟩
      · exact ⟨fun _ => h0 ht, fun _ => ⟨fun _ => h0 ht, fun z => absurd hc2 z⟩⟩
    · have d0 : ¬ q < 1 := by rw [hq]; exact nI_nlt (a := k) (b := 1) k1 (by omega)
      have d1 : ¬ 6 < q := by rw [hq]; exact nI_nlt (a := 6) (b := k) k2 (by decide)
      exact ⟨fun z => absurd z d0, fun _ => ⟨fun z => absurd z d1, fun _ => h1 d k hd k1 k2 hp hq (by simp [dsx, hi, hj])⟩⟩
  rcases idx_cases p (m := 2) (by decide) with ⟨hi, hc⟩ | ⟨d, hd, hp, hi⟩
  · have hp0 : ¬ p = 0 := by
      rw [T_eq, lit_toInt0]
      rcases hc with hc | ⟨-, hc⟩
      · rw [T_lt, lit_toInt0] at hc; omega
      · rw [T_le, nI_toInt (by decide)] at hc; omega
    have hp1 : ¬ p = 1 := by
      rw [T_eq, lit_toInt1]
      rcases hc with hc | ⟨-, hc⟩
      · rw [T_lt, lit_toInt0] at hc; omega
      · rw [T_le, nI_toInt (by decide)] at hc; omega
    exact ⟨fun z => absurd z hp0, fun _ => ⟨fun z => absurd z hp1, fun _ => h0 (key hi)⟩⟩
  · refine ⟨fun _ => step d hd hp hi, fun c => ⟨fun _ => step d hd hp hi, fun c2 => ?_⟩⟩
    exfalso
    rcases (show d = 0 ∨ d = 1 by omega) with rfl | rfl
    · exact c hp
    · exact c2 hp
theorem areTags_M {p q : Int32} (h0 : tgx p q = none → K 0 σ) (h1 : ∀ h w, h < 9 → w < 8 → p = nI h → q = nI w → tgx p q = some (8 * h + w) → K 1 σ) : P_X8_areTags p q σ K := by
  unfold P_X8_areTags
  refine in_N (A := 0) (B := 8) rfl rfl (fun c => ⟨fun _ => ?_, fun z => absurd rfl z⟩) (fun c => ⟨fun z => absurd z (by decide), fun _ => in_N (A := 0) (B := 7) rfl rfl (fun c2 => ⟨fun _ => ?_, fun z => absurd rfl z⟩) (fun c2 => ⟨fun z => absurd z (by decide), fun _ => ?_⟩)⟩)
  · rcases idx_cases p (m := 9) (by decide) with ⟨hi, -⟩ | ⟨h, hh, hp, hi⟩
    · exact h0 (by simp [tgx, hi])
    · rw [c_eq (by omega)] at hp; exact absurd ⟨by omega, by omega⟩ c
  · rcases idx_cases q (m := 8) (by decide) with ⟨hi, -⟩ | ⟨h, hh, hp, hi⟩
    · exact h0 (by cases hx : idx p 9 <;> simp [tgx, hx, hi])
    · rw [c_eq (by omega)] at hp; exact absurd ⟨by omega, by omega⟩ c2
  · obtain ⟨a1, a2⟩ := c
    obtain ⟨b1, b2⟩ := c2
    rcases idx_cases p (m := 9) (by decide) with ⟨-, hc⟩ | ⟨h, hh, hp, hi⟩
    · exfalso
      rcases hc with hc | ⟨-, hc⟩
      · rw [T_lt, lit_toInt0] at hc; omega
      · rw [T_le, nI_toInt (by decide)] at hc; omega
    · rcases idx_cases q (m := 8) (by decide) with ⟨-, hc⟩ | ⟨w, hw, hq, hj⟩
      · exfalso
        rcases hc with hc | ⟨-, hc⟩
        · rw [T_lt, lit_toInt0] at hc; omega
        · rw [T_le, nI_toInt (by decide)] at hc; omega
      · exact h1 h w hh hw hp hq (by simp [tgx, hi, hj])
theorem isDistance_M {p q : Int32} (h0 : dsx p q = none → K 0 σ) (h1 : ∀ d k, d < 2 → 1 ≤ k → k ≤ 6 → p = nI d → q = nI k → dsx p q = some (71 + 6 * d + k) → K 1 σ) : P_X8_isDistance p q σ K := by
  unfold P_X8_isDistance
  refine in_N (A := 0) (B := 1) rfl rfl (fun c => ⟨fun _ => ?_, fun z => absurd rfl z⟩) (fun c => ⟨fun z => absurd z (by decide), fun _ => in_N (A := 1) (B := 6) rfl rfl (fun c2 => ⟨fun _ => ?_, fun z => absurd rfl z⟩) (fun c2 => ⟨fun z => absurd z (by decide), fun _ => ?_⟩)⟩)
  · rcases idx_cases p (m := 2) (by decide) with ⟨hi, -⟩ | ⟨h, hh, hp, hi⟩
    · exact h0 (by simp [dsx, hi])
    · rw [c_eq (by omega)] at hp; exact absurd ⟨by omega, by omega⟩ c
  · rcases wdx_cases q (n := 6) (by decide) with ⟨hi, -⟩ | ⟨h, h1', hh, hp, hi⟩
    · exact h0 (by cases hx : idx p 2 <;> simp [dsx, hx, hi])
    · rw [c_eq (by omega)] at hp; exact absurd ⟨by omega, by omega⟩ c2
  · obtain ⟨a1, a2⟩ := c
    obtain ⟨b1, b2⟩ := c2
    rcases idx_cases p (m := 2) (by decide) with ⟨-, hc⟩ | ⟨h, hh, hp, hi⟩
    · exfalso
      rcases hc with hc | ⟨-, hc⟩
      · rw [T_lt, lit_toInt0] at hc; omega
      · rw [T_le, nI_toInt (by decide)] at hc; omega
    · rcases wdx_cases q (n := 6) (by decide) with ⟨-, hc⟩ | ⟨w, w1, hw, hq, hj⟩
      · exfalso
        rcases hc with hc | ⟨-, hc⟩
        · rw [T_lt, lit_toInt1] at hc; omega
        · rw [T_lt, nI_toInt (by decide)] at hc; omega
      · exact h1 h w hh w1 hw hp hq (by simp [dsx, hi, hj])
end OP4
def an_get (s : AS) (k : Option Nat) : Int32 := match k with
  | none => BADI
  | some k => aW s k
def an_set (s : AS) (k : Option Nat) (v : Int32) : Int32 := match k with
  | none => BADI
  | some k => if -99 ≤ v.toInt ∧ v.toInt ≤ 99 then aW s k else BADV
def inW (f : (Nat → Int32) → (Nat → Int32)) (s : AS) : AS := (s.1, s.2.1, f (aW s), s.2.2.2)
def nx_set (s : AS) (k : Option Nat) (v : Int32) : AS := match k with
  | none => s
  | some k => if -99 ≤ v.toInt ∧ v.toInt ≤ 99 then inW (fun W => u1 W k v) s else s
theorem RW_tag {σ : St} {a h w : Nat} {v : Int32} {W : Nat → Int32} (hh : h < 9) (hw : w < 8) (r : RW σ a W) : RW (wI σ (a + 1 + 1 + h) w v) a (u1 W (8 * h + w) v) := by
  obtain ⟨r1, r2⟩ := r
  refine ⟨fun p p1 q q1 => ?_, fun p p1 q q1 q2 => ?_⟩
  · show (if a + 2 + p = a + 1 + 1 + h ∧ q = w then v else σ.1 (a + 2 + p) q) = (if 8 * p + q = 8 * h + w then v else W (8 * p + q))
    by_cases e : p = h ∧ q = w
    · rw [if_pos ⟨by omega, e.2⟩, if_pos (by omega)]
    · rw [if_neg (fun z => e ⟨by omega, z.2⟩), if_neg (fun z => e (by omega))]; exact r1 p p1 q q1
  · rw [wI_ne (by omega), u1, if_neg (by omega)]; exact r2 p p1 q q1 q2
theorem RW_dis {σ : St} {a d k : Nat} {v : Int32} {W : Nat → Int32} (hd : d < 2) (hk : 1 ≤ k) (hk6 : k ≤ 6) (r : RW σ a W) : RW (wI σ (a + 11 + 1 + d) k v) a (u1 W (71 + 6 * d + k) v) := by
  obtain ⟨r1, r2⟩ := r
  refine ⟨fun p p1 q q1 => ?_, fun p p1 q q1 q2 => ?_⟩
  · rw [wI_ne (by omega), u1, if_neg (by omega)]; exact r1 p p1 q q1
  · show (if a + 12 + p = a + 11 + 1 + d ∧ q = k then v else σ.1 (a + 12 + p) q) = (if 71 + 6 * p + q = 71 + 6 * d + k then v else W (71 + 6 * p + q))
    by_cases e : p = d ∧ q = k
    · rw [if_pos ⟨by omega, e.2⟩, if_pos (by omega)]
    · rw [if_neg (fun z => e ⟨by omega, z.2⟩), if_neg (fun z => e (by omega))]; exact r2 p p1 q q1 q2
/-- cells 81 .. 94 alone differ: the weights' own -/
theorem RC_wts' {σ σ' : St} {s : AS} {W : Nat → Int32} (h : RC σ s) (hf : ∀ k, dC k → (k < 81 ∨ 95 ≤ k) → σ'.1 k = σ.1 k) (h2 : σ'.2.2 = σ.2.2) (hW : RW σ' 81 W) : RC σ' (inW (fun _ => W) s) := by
  obtain ⟨⟨h1, h1'⟩, h3, ⟨h4, h5, h6⟩, ⟨h7, h8⟩, h9, h10, h11, h12, h13⟩ := h
  rw [RC, h2]
  have hRS : ∀ a x, sOk a → RS σ a x → RS σ' a x := fun a x ha r => by
    have := s_rng ha
    obtain ⟨r1, r2, r3⟩ := r
    refine ⟨by rw [hf a ⟨by omega, by omega⟩ (by omega)]; exact r1, fun w w1 w2 => ?_, fun p p1 w w1 => ?_⟩
    · rw [hf _ ⟨by omega, by omega⟩ (by omega), hf _ ⟨by omega, by omega⟩ (by omega)]; exact r2 w w1 w2
    · rw [hf _ ⟨by omega, by omega⟩ (by omega), hf _ ⟨by omega, by omega⟩ (by omega)]; exact r3 p p1 w w1
  refine ⟨⟨by rw [hf 1 (by decide) (by decide)]; exact h1, fun i hi => by rw [hf 2 (by decide) (by decide)]; exact h1' i hi⟩, ⟨by rw [hf 0 (by decide) (by decide)]; exact h3.1, h3.2⟩, ⟨h4, h5, fun i hi => ?_⟩, ⟨fun i hi => hRS _ _ (h4 i (by have : i < aM s := hi; omega)) (h7 i hi), fun i hi hi4 => ?_⟩, hW, fun j hj => ⟨by rw [hf 124 (by decide) (by decide)]; exact (h10 j hj).1, ?_⟩, by rw [hf 125 (by decide) (by decide)]; exact h11, by rw [hf 125 (by decide) (by decide)]; exact h12, by rw [hf 125 (by decide) (by decide)]; exact h13⟩
  · have := s_rng (h4 i hi)
    rw [hf _ ⟨by omega, by omega⟩ (by omega)]; exact h6 i hi
  · have := s_rng (h4 i hi4)
    obtain ⟨r1, r3⟩ := h8 i hi hi4
    refine ⟨by rw [hf _ ⟨by omega, by omega⟩ (by omega)]; exact r1, fun p p1 w w1 => ?_⟩
    rw [hf _ ⟨by omega, by omega⟩ (by omega), hf _ ⟨by omega, by omega⟩ (by omega)]; exact r3 p p1 w w1
  · obtain ⟨r1, r2⟩ := (h10 j hj).2
    refine ⟨fun p p1 q q1 => ?_, fun p p1 q q1 q2 => ?_⟩
    · rw [hf _ ⟨by omega, by omega⟩ (by omega)]; exact r1 p p1 q q1
    · rw [hf _ ⟨by omega, by omega⟩ (by omega)]; exact r2 p p1 q q1 q2
theorem RM_wts {σ : St} {s : AS} {k : Nat} {v : Int32} (h : RM σ s) (hk : k < 84) : RM (wI σ 211 k v) (inW (fun W => u1 W k v) s) := by
  obtain ⟨⟨h1, h2⟩, h3, h5, h6, h7, h8, h9, h10⟩ := h
  refine ⟨⟨by rw [wI_ne (by decide)]; exact h1, fun q hq => by rw [wI_ne (by decide)]; exact h2 q hq⟩, ⟨by rw [wI_ne (by decide)]; exact h3.1, h3.2⟩, fun q hq => ?_, fun j hj => ?_, fun j hj => by rw [wI_ne (b := 213) (by decide), wI_ne (b := 212) (by decide)]; exact h7 j hj, by rw [wI_ne (by decide)]; exact h8, by rw [wI_ne (by decide)]; exact h9, by rw [wI_ne (by decide)]; exact h10⟩
  · rw [wI_ne (b := 206) (by decide), wI_ne (b := 207) (by decide), wI_ne (b := 208) (by decide), wI_ne (b := 209) (by decide), wI_ne (b := 210) (by decide)]
    exact h5 q hq
  · show (if 211 = 211 ∧ j = k then v else σ.1 211 j) = (if j = k then v else aW s j)
    by_cases e : j = k
    · rw [if_pos ⟨rfl, e⟩, if_pos e]
    · rw [if_neg (fun z => e z.2), if_neg e]; exact h6 j hj
theorem tagPl_M {h w : Nat} : (8 * nI h) + nI w = nI (8 * h + w) := by
  have : (8 : Int32) = nI 8 := rfl
  rw [this, pk_mul, nI_add]
theorem disPl_M {d k : Nat} : (71 + (6 * nI d)) + nI k = nI (71 + 6 * d + k) := by
  have h1 : (71 : Int32) = nI 71 := rfl
  have h2 : (6 : Int32) = nI 6 := rfl
  rw [h1, h2, pk_mul, nI_add, nI_add]
section OP5
variable {σ : St} {s : AS} {K : Int32 → St → Prop}
theorem c_tagWeight {p q : Int32} (h : RC σ s) (hK : K (an_get s (tgx p q)) σ) : P_X7_tagWeight p q σ K := by
  unfold P_X7_tagWeight
  refine isTagPair_C (fun ht => ⟨fun _ => ?_, fun z => absurd rfl z⟩) (fun a w ha hw hp hq ht => ⟨fun z => absurd z (by decide), fun _ => ?_⟩)
  · rw [ht] at hK; exact hK
  · subst hp; subst hq
    refine ⟨vp_in_nI ha (by decide), vp_in_nI hw (by decide), ?_⟩
    rw [ix_nI (by omega), ix_nI (by omega), h.wts.1 a ha w hw]
    rw [ht] at hK; exact hK
theorem c_distanceWeight {p q : Int32} (h : RC σ s) (hK : K (an_get s (dsx p q)) σ) : P_X7_distanceWeight p q σ K := by
  unfold P_X7_distanceWeight
  refine isDistance_C (fun ht => ⟨fun _ => ?_, fun z => absurd rfl z⟩) (fun a w ha hw hw2 hp hq ht => ⟨fun z => absurd z (by decide), fun _ => ?_⟩)
  · rw [ht] at hK; exact hK
  · subst hp; subst hq
    refine ⟨vp_in_nI ha (by decide), vp_in_nI (by omega) (by decide), ?_⟩
    rw [ix_nI (by omega), ix_nI (by omega), h.wts.2 a ha w hw hw2]
    rw [ht] at hK; exact hK
theorem m_tagWeight {p q : Int32} (h : RM σ s) (hK : K (an_get s (tgx p q)) σ) : P_X8_tagWeight p q σ K := by
  unfold P_X8_tagWeight
  refine areTags_M (fun ht => ⟨fun _ => ?_, fun z => absurd rfl z⟩) (fun a w ha hw hp hq ht => ⟨fun z => absurd z (by decide), fun _ => ?_⟩)
  · rw [ht] at hK; exact hK
  · subst hp; subst hq
    unfold P_X8_tagPlace
    rw [tagPl_M]
    refine ⟨vp_in_nI (by omega) (by decide), ?_⟩
    rw [ix_nI (by omega), h.wts (by omega)]
    rw [ht] at hK; exact hK
theorem m_distanceWeight {p q : Int32} (h : RM σ s) (hK : K (an_get s (dsx p q)) σ) : P_X8_distanceWeight p q σ K := by
  unfold P_X8_distanceWeight
  refine isDistance_M (fun ht => ⟨fun _ => ?_, fun z => absurd rfl z⟩) (fun a w ha hw hw2 hp hq ht => ⟨fun z => absurd z (by decide), fun _ => ?_⟩)
  · rw [ht] at hK; exact hK
  · subst hp; subst hq
    unfold P_X8_distancePlace
    rw [disPl_M]
    refine ⟨vp_in_nI (by omega) (by decide), ?_⟩
    rw [ix_nI (by omega), h.wts (by omega)]
    rw [ht] at hK; exact hK
theorem c_setTagWeight {p q v : Int32} (h : RC σ s) (hK : ∀ σ', RC σ' (nx_set s (tgx p q) v) → frM σ σ' → K (an_set s (tgx p q) v) σ') : P_X7_setTagWeight p q v σ K := by
  unfold P_X7_setTagWeight
  refine isTagPair_C (fun ht => ⟨fun _ => ?_, fun z => absurd rfl z⟩) (fun a w ha hw hp hq ht => ⟨fun z => absurd z (by decide), fun _ => ?_⟩)
  · rw [ht] at hK; exact hK σ h frM.rf
  · rw [ht] at hK
    dsimp only [nx_set, an_set] at hK
    refine isWithin_C (b := 99) rfl (by decide) (fun c => ⟨fun _ => ?_, fun z => absurd rfl z⟩) (fun c => ⟨fun z => absurd z (by decide), fun _ => ?_⟩)
    · rw [if_neg c, if_neg c] at hK; exact hK σ h frM.rf
    · rw [if_pos c, if_pos c] at hK
      subst hp; subst hq
      have hp9 : vp_in (nI a) 9 := vp_in_nI ha (by decide)
      have hw8 : vp_in (nI w) 8 := vp_in_nI hw (by decide)
      refine ⟨hp9, hw8, fun v8 e8 => ⟨hp9, hw8, fun s9 e9 => ?_⟩⟩
      rw [ix_nI (by omega), ix_nI (by omega)] at e8 e9
      subst e9
      rw [e8, h.wts.1 a ha w hw]
      exact hK _ (RC_wts' h (fun k hk hk2 => wI_ne (by omega)) rfl (RW_tag (a := 81) ha hw h.wts)) (frM_wI (by omega))
theorem c_setDistanceWeight {p q v : Int32} (h : RC σ s) (hK : ∀ σ', RC σ' (nx_set s (dsx p q) v) → frM σ σ' → K (an_set s (dsx p q) v) σ') : P_X7_setDistanceWeight p q v σ K := by
  unfold P_X7_setDistanceWeight
  refine isDistance_C (fun ht => ⟨fun _ => ?_, fun z => absurd rfl z⟩) (fun a w ha hw hw2 hp hq ht => ⟨fun z => absurd z (by decide), fun _ => ?_⟩)
  · rw [ht] at hK; exact hK σ h frM.rf
  · rw [ht] at hK
    dsimp only [nx_set, an_set] at hK
    refine isWithin_C (b := 99) rfl (by decide) (fun c => ⟨fun _ => ?_, fun z => absurd rfl z⟩) (fun c => ⟨fun z => absurd z (by decide), fun _ => ?_⟩)
    · rw [if_neg c, if_neg c] at hK; exact hK σ h frM.rf
    · rw [if_pos c, if_pos c] at hK
      subst hp; subst hq
      have hp9 : vp_in (nI a) 2 := vp_in_nI ha (by decide)
      have hw8 : vp_in (nI w) 7 := vp_in_nI (by omega) (by decide)
      refine ⟨hp9, hw8, fun v8 e8 => ⟨hp9, hw8, fun s9 e9 => ?_⟩⟩
      rw [ix_nI (by omega), ix_nI (by omega)] at e8 e9
      subst e9
      rw [e8, h.wts.2 a ha w hw hw2]
      exact hK _ (RC_wts' h (fun k hk hk2 => wI_ne (by omega)) rfl (RW_dis (a := 81) ha hw hw2 h.wts)) (frM_wI (by omega))
theorem sets_M {k : Nat} {v : Int32} (h : RM σ s) (hk : k < 84) (hK : ∀ σ', RM σ' (nx_set s (some k) v) → frK σ σ' → K (an_set s (some k) v) σ') : P_X8_sets (nI k) v σ K := by
  unfold P_X8_sets
  dsimp only [nx_set, an_set] at hK
  refine in_N (A := -99) (B := 99) (by decide) (by decide) (fun c => ⟨fun _ => ?_, fun z => absurd rfl z⟩) (fun c => ⟨fun z => absurd z (by decide), fun _ => ?_⟩)
  · rw [if_neg c, if_neg c] at hK; exact hK σ h frK.rf
  · rw [if_pos c, if_pos c] at hK
    have hv : vp_in (nI k) 84 := vp_in_nI hk (by decide)
    refine ⟨hv, fun v8 e8 => ⟨hv, fun s9 e9 => ?_⟩⟩
    rw [ix_nI (by omega)] at e8 e9
    subst e9
    rw [e8, h.wts hk]
    exact hK _ (RM_wts h hk) (frK_wI (by decide))
theorem m_setTagWeight {p q v : Int32} (h : RM σ s) (hK : ∀ σ', RM σ' (nx_set s (tgx p q) v) → frK σ σ' → K (an_set s (tgx p q) v) σ') : P_X8_setTagWeight p q v σ K := by
  unfold P_X8_setTagWeight
  refine areTags_M (fun ht => ⟨fun _ => ?_, fun z => absurd rfl z⟩) (fun a w ha hw hp hq ht => ⟨fun z => absurd z (by decide), fun _ => ?_⟩)
  · rw [ht] at hK; exact hK σ h frK.rf
  · subst hp; subst hq
    rw [ht] at hK
    unfold P_X8_tagPlace
    rw [tagPl_M]
    exact sets_M h (by omega) hK
theorem m_setDistanceWeight {p q v : Int32} (h : RM σ s) (hK : ∀ σ', RM σ' (nx_set s (dsx p q) v) → frK σ σ' → K (an_set s (dsx p q) v) σ') : P_X8_setDistanceWeight p q v σ K := by
  unfold P_X8_setDistanceWeight
  refine isDistance_M (fun ht => ⟨fun _ => ?_, fun z => absurd rfl z⟩) (fun a w ha hw hw2 hp hq ht => ⟨fun z => absurd z (by decide), fun _ => ?_⟩)
  · rw [ht] at hK; exact hK σ h frK.rf
  · subst hp; subst hq
    rw [ht] at hK
    unfold P_X8_distancePlace
    rw [disPl_M]
    exact sets_M h (by omega) hK
end OP5
/-! settings -/
def inG (g : Int32 × Int32 × Int32) (s : AS) : AS := (s.1, s.2.1, s.2.2.1, s.2.2.2.1, g)
theorem RC_set {σ : St} {s : AS} {j : Nat} {v : Int32} {g : Int32 × Int32 × Int32} (h : RC σ s) (h0 : (wI σ 125 j v).1 125 0 = g.1) (h1 : (wI σ 125 j v).1 125 1 = g.2.1) (h2 : (wI σ 125 j v).1 125 2 = g.2.2) : RC (wI σ 125 j v) (inG g s) := by
  have hm := h.m4
  obtain ⟨⟨k1, k1'⟩, h3, ⟨h4, h5, h6⟩, ⟨h7, h8⟩, h9, h10, h11, h12, h13⟩ := h
  have hRS : ∀ a x, sOk a → RS σ a x → RS (wI σ 125 j v) a x := fun a x ha r => by
    have := s_rng ha
    obtain ⟨r1, r2, r3⟩ := r
    refine ⟨by rw [wI_ne (by omega)]; exact r1, fun w w1 w2 => ?_, fun p p1 w w1 => ?_⟩
    · rw [wI_ne (by omega), wI_ne (by omega)]; exact r2 w w1 w2
    · rw [wI_ne (by omega), wI_ne (by omega)]; exact r3 p p1 w w1
  refine ⟨⟨by rw [wI_ne (by decide)]; exact k1, fun i hi => by rw [wI_ne (by decide)]; exact k1' i hi⟩, ⟨by rw [wI_ne (by decide)]; exact h3.1, h3.2⟩, ⟨h4, h5, fun i hi => ?_⟩, ⟨fun i hi => hRS _ _ (h4 i (by have : i < aM s := hi; omega)) (h7 i hi), fun i hi hi4 => ?_⟩, RW_far (by decide) h9, fun q hq => ⟨by rw [wI_ne (by decide)]; exact (h10 q hq).1, RW_far (by omega) (h10 q hq).2⟩, h0, h1, h2⟩
  · have := s_rng (h4 i hi)
    rw [wI_2, wI_ne (by omega)]; exact h6 i hi
  · have := s_rng (h4 i hi4)
    obtain ⟨r1, r3⟩ := h8 i hi hi4
    refine ⟨by rw [wI_2, wI_ne (by omega)]; exact r1, fun p p1 w w1 => ?_⟩
    rw [wI_2, wI_ne (by omega), wI_ne (by omega)]; exact r3 p p1 w w1
theorem RM_set {σ : St} {s : AS} {j : Nat} {v : Int32} {g : Int32 × Int32 × Int32} (h : RM σ s) (hj : j ≠ 1 ∧ j ≠ 2) (h0 : (wI σ 204 j v).1 204 11 = g.1) (h1 : (wI σ 204 j v).1 204 12 = g.2.1) (h2 : (wI σ 204 j v).1 204 13 = g.2.2) : RM (wI σ 204 j v) (inG g s) := by
  obtain ⟨⟨k1, k2⟩, h3, h5, h6, h7, h8, h9, h10⟩ := h
  refine ⟨⟨by rw [wI_ni (fun e => hj.1 e.symm)]; exact k1, fun q hq => by rw [wI_ne (by decide)]; exact k2 q hq⟩, ⟨by rw [wI_ni (fun e => hj.2 e.symm)]; exact h3.1, h3.2⟩, fun q hq => ?_, fun k hk => by rw [wI_ne (by decide)]; exact h6 k hk, fun q hq => by rw [wI_ne (b := 213) (by decide), wI_ne (b := 212) (by decide)]; exact h7 q hq, h0, h1, h2⟩
  rw [wI_ne (b := 206) (by decide), wI_ne (b := 207) (by decide), wI_ne (b := 208) (by decide), wI_ne (b := 209) (by decide), wI_ne (b := 210) (by decide)]
  exact h5 q hq
def an_flag (v : Int32) : Int32 := if v = 0 then 0 else 1
section OP6
variable {σ : St} {s : AS} {K : Int32 → St → Prop}
theorem c_setSingleRoot {v : Int32} (h : RC σ s) (hv : isB v) (hK : ∀ σ', RC σ' (inG (v, (aG s).2) s) → frM σ σ' → K (an_flag (aG s).1) σ') : P_X7_setSingleRoot v σ K := by
  unfold P_X7_setSingleRoot
  rw [h.g1]
  have r : RC (wI σ 125 0 v) (inG (v, (aG s).2) s) := RC_set h wI_self (by rw [wI_ni (by decide)]; exact h.g2) (by rw [wI_ni (by decide)]; exact h.g3)
  refine ⟨fun c => ⟨hv, fun s2 e2 => ?_⟩, fun c => ⟨hv, fun s2 e2 => ?_⟩⟩
  · subst e2; have := hK _ r (frM_wI (by decide)); rw [an_flag, if_pos c] at this; exact this
  · subst e2; have := hK _ r (frM_wI (by decide)); rw [an_flag, if_neg c] at this; exact this
theorem c_setProjective {v : Int32} (h : RC σ s) (hv : isB v) (hK : ∀ σ', RC σ' (inG ((aG s).1, v, (aG s).2.2) s) → frM σ σ' → K (an_flag (aG s).2.1) σ') : P_X7_setProjective v σ K := by
  unfold P_X7_setProjective
  rw [h.g2]
  have r : RC (wI σ 125 1 v) (inG ((aG s).1, v, (aG s).2.2) s) := RC_set h (by rw [wI_ni (by decide)]; exact h.g1) wI_self (by rw [wI_ni (by decide)]; exact h.g3)
  refine ⟨fun c => ⟨hv, fun s2 e2 => ?_⟩, fun c => ⟨hv, fun s2 e2 => ?_⟩⟩
  · subst e2; have := hK _ r (frM_wI (by decide)); rw [an_flag, if_pos c] at this; exact this
  · subst e2; have := hK _ r (frM_wI (by decide)); rw [an_flag, if_neg c] at this; exact this
theorem m_setSingleRoot {v : Int32} (h : RM σ s) (hv : isB v) (hK : ∀ σ', RM σ' (inG (v, (aG s).2) s) → frK σ σ' → K (an_flag (aG s).1) σ') : P_X8_setSingleRoot v σ K := by
  unfold P_X8_setSingleRoot
  rw [h.g1]
  have r : RM (wI σ 204 11 v) (inG (v, (aG s).2) s) := RM_set h (by decide) wI_self (by rw [wI_ni (by decide)]; exact h.g2) (by rw [wI_ni (by decide)]; exact h.g3)
  refine ⟨fun c => ⟨hv, fun s2 e2 => ?_⟩, fun c => ⟨hv, fun s2 e2 => ?_⟩⟩
  · subst e2; have := hK _ r (frK_wI (by decide)); rw [an_flag, if_pos c] at this; exact this
  · subst e2; have := hK _ r (frK_wI (by decide)); rw [an_flag, if_neg c] at this; exact this
theorem m_setProjective {v : Int32} (h : RM σ s) (hv : isB v) (hK : ∀ σ', RM σ' (inG ((aG s).1, v, (aG s).2.2) s) → frK σ σ' → K (an_flag (aG s).2.1) σ') : P_X8_setProjective v σ K := by
  unfold P_X8_setProjective
  rw [h.g2]
  have r : RM (wI σ 204 12 v) (inG ((aG s).1, v, (aG s).2.2) s) := RM_set h (by decide) (by rw [wI_ni (by decide)]; exact h.g1) wI_self (by rw [wI_ni (by decide)]; exact h.g3)
  refine ⟨fun c => ⟨hv, fun s2 e2 => ?_⟩, fun c => ⟨hv, fun s2 e2 => ?_⟩⟩
  · subst e2; have := hK _ r (frK_wI (by decide)); rw [an_flag, if_pos c] at this; exact this
  · subst e2; have := hK _ r (frK_wI (by decide)); rw [an_flag, if_neg c] at this; exact this
def an_shift (s : AS) (v : Int32) : Int32 := if -100 ≤ v.toInt ∧ v.toInt ≤ 100 then (aG s).2.2 else BADV
def nx_shift (s : AS) (v : Int32) : AS := if -100 ≤ v.toInt ∧ v.toInt ≤ 100 then inG ((aG s).1, (aG s).2.1, v) s else s
theorem c_setShift {v : Int32} (h : RC σ s) (hK : ∀ σ', RC σ' (nx_shift s v) → frM σ σ' → K (an_shift s v) σ') : P_X7_setShift v σ K := by
  unfold P_X7_setShift
  dsimp only [nx_shift, an_shift] at hK
  refine isWithin_C (b := 100) rfl (by decide) (fun c => ⟨fun _ => ?_, fun z => absurd rfl z⟩) (fun c => ⟨fun z => absurd z (by decide), fun _ => ?_⟩)
  · rw [if_neg c, if_neg c] at hK; exact hK σ h frM.rf
  · rw [if_pos c, if_pos c] at hK
    intro v3 e3 s4 e4
    subst e4
    rw [e3, h.g3]
    exact hK _ (RC_set h (by rw [wI_ni (by decide)]; exact h.g1) (by rw [wI_ni (by decide)]; exact h.g2) wI_self) (frM_wI (by decide))
theorem m_setShift {v : Int32} (h : RM σ s) (hK : ∀ σ', RM σ' (nx_shift s v) → frK σ σ' → K (an_shift s v) σ') : P_X8_setShift v σ K := by
  unfold P_X8_setShift
  dsimp only [nx_shift, an_shift] at hK
  refine in_N (A := -100) (B := 100) (by decide) (by decide) (fun c => ⟨fun _ => ?_, fun z => absurd rfl z⟩) (fun c => ⟨fun z => absurd z (by decide), fun _ => ?_⟩)
  · rw [if_neg c, if_neg c] at hK; exact hK σ h frK.rf
  · rw [if_pos c, if_pos c] at hK
    intro v3 e3 s4 e4
    subst e4
    rw [e3, h.g3]
    exact hK _ (RM_set h (by decide) (by rw [wI_ni (by decide)]; exact h.g1) (by rw [wI_ni (by decide)]; exact h.g2) wI_self) (frK_wI (by decide))
end OP6
