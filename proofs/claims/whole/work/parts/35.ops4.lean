/-! annotate, depth, append, clearText -/
theorem wI_back {σ : St} {a i : Nat} {v : Int32} : wI (wI σ a i v) a i (σ.1 a i) = σ := by
  show (up2 (up2 σ.1 a i v) a i (σ.1 a i), σ.2) = σ
  refine Prod.ext ?_ rfl
  funext b j
  show (if b = a ∧ j = i then σ.1 a i else if b = a ∧ j = i then v else σ.1 b j) = σ.1 b j
  by_cases h : b = a ∧ j = i
  · rw [if_pos h, h.1, h.2]
  · rw [if_neg h, if_neg h]
theorem hdN_0 {x : SentT} : hdN x 0 = 0 := rfl
theorem hdN_w {x : SentT} {w : Nat} (h : w ≠ 0) : hdN x w = ix (sHd x w) := by unfold hdN; rw [if_neg h]
theorem wfS.hd {x : SentT} (h : wfS x) {w : Nat} (h1 : 1 ≤ w) (h2 : w ≤ sZ x) : sHd x w = nI (hdN x w) ∧ hdN x w ≤ sZ x ∧ hdN x w ≠ w := by
  obtain ⟨b, hb, hne, e⟩ := (h.2.1 w h1 h2).2
  have hz := h.1
  rw [hdN_w (by omega), e, ix_nI (by omega)]
  exact ⟨rfl, hb, hne⟩
theorem wfS.hd_le {x : SentT} (h : wfS x) {w : Nat} (h2 : w ≤ sZ x) : hdN x w ≤ sZ x := by
  rcases Nat.eq_zero_or_pos w with e | e
  · rw [e, hdN_0]; omega
  · exact (h.hd e h2).2.1
theorem sH_hd {x : SentT} {w h v : Nat} (hw : w ≠ 0) (hh : h < 2 ^ 31) : hdN (sH w (nI h) x) v = if v = w then h else hdN x v := by
  by_cases e : v = w
  · subst e
    rw [hdN_w hw, if_pos rfl]
    show ix (u1 (sHd x) v (nI h) v) = h
    rw [u1, if_pos rfl, ix_nI hh]
  · rw [if_neg e]
    unfold hdN
    by_cases e0 : v = 0
    · rw [if_pos e0, if_pos e0]
    · rw [if_neg e0, if_neg e0]
      show ix (u1 (sHd x) w (nI h) v) = ix (sHd x v)
      rw [u1, if_neg e]
theorem treeB_congr {n : Nat} {f g : Nat → Nat} (h : ∀ v, v ≤ n → f v = g v ∧ f v ≤ n) : treeB n f = treeB n g := by
  rw [Bool.eq_iff_iff, treeB_iff, treeB_iff]
  exact isT_congr h
theorem treeB_cap {n : Nat} {t : Nat → Nat} (h : ∀ v, v ≤ n → t v ≤ n) (h0 : t 0 = 0) : treeB n (cap n t) = treeB n t := by
  refine treeB_congr (fun v hv => ?_)
  by_cases e : v = 0
  · rw [e, cap_0, h0]; exact ⟨rfl, Nat.zero_le _⟩
  · rw [cap_in e (h v hv)]; exact ⟨rfl, h v hv⟩
theorem RC_head {σ : St} {s : AS} {i w : Nat} {v : Int32} (h : RC σ s) (hi : i < aM s) (hw : w < 7) : RC (wI σ (σ.2.2 i + 2) w v) (inx i (sH w v) s) := by
  refine RC_sent h hi ⟨by omega, by omega⟩ (fun z => by omega) ?_
  obtain ⟨h1, h2, h3⟩ := h.sent hi
  refine ⟨by rw [wI_ne (by omega)]; exact h1, fun q q1 q2 => ?_, fun p p1 q q1 => by rw [wI_ne (by omega), wI_ne (by omega)]; exact h3 p p1 q q1⟩
  rw [wI_ne (b := σ.2.2 i + 1) (by omega)]
  refine ⟨(h2 q q1 q2).1, ?_⟩
  show (if σ.2.2 i + 2 = σ.2.2 i + 2 ∧ q = w then v else σ.1 (σ.2.2 i + 2) q) = (if q = w then v else sHd (aS s i) q)
  by_cases e : q = w
  · rw [if_pos ⟨rfl, e⟩, if_pos e]
  · rw [if_neg (fun z => e z.2), if_neg e]; exact (h2 q q1 q2).2
theorem RM_head {σ : St} {s : AS} {i w : Nat} {v : Int32} (h : RM σ s) (hw6 : ∀ j, j < aM s → sZ (aS s j) ≤ 6) (hi : i < aM s) (hw1 : 1 ≤ w) (hw : w < 7) : RM (wI σ 208 (7 * i + w) v) (inx i (sH w v) s) := by
  obtain ⟨⟨h1, h2⟩, h3, h5, h6, h7, h8, h9, h10⟩ := h
  refine ⟨⟨by rw [wI_ne (by decide)]; exact h1, fun q hq => by rw [wI_ne (by decide)]; exact h2 q hq⟩, ⟨by rw [wI_ne (by decide)]; exact h3.1, h3.2⟩, fun q hq => ?_, fun k hk => by rw [wI_ne (by decide)]; exact h6 k hk, fun j hj => by rw [wI_ne (b := 213) (by decide), wI_ne (b := 212) (by decide)]; exact h7 j hj, by rw [wI_ne (by decide)]; exact h8, by rw [wI_ne (by decide)]; exact h9, by rw [wI_ne (by decide)]; exact h10⟩
  obtain ⟨k1, k2, k3⟩ := h5 q hq
  have hq6 := hw6 q hq
  rw [wI_ne (b := 206) (by decide), wI_ne (b := 207) (by decide), wI_ne (b := 209) (by decide), wI_ne (b := 210) (by decide)]
  show σ.1 206 q = nI (sZ (u1 (aS s) i (sH w v (aS s i)) q)) ∧ (∀ z, 1 ≤ z → z ≤ sZ (u1 (aS s) i (sH w v (aS s i)) q) → σ.1 207 (7 * q + z) = sTg (u1 (aS s) i (sH w v (aS s i)) q) z ∧ (wI σ 208 (7 * i + w) v).1 208 (7 * q + z) = sHd (u1 (aS s) i (sH w v (aS s i)) q) z) ∧ ∀ p, p < 7 → ∀ z, z < 7 → σ.1 209 (49 * q + 7 * p + z) = sBi (u1 (aS s) i (sH w v (aS s i)) q) p z ∧ σ.1 210 (49 * q + 7 * p + z) = sCo (u1 (aS s) i (sH w v (aS s i)) q) p z
  by_cases e : q = i
  · subst e
    rw [u1, if_pos rfl]
    refine ⟨k1, fun z z1 z2 => ⟨(k2 z z1 z2).1, ?_⟩, k3⟩
    show (if 208 = 208 ∧ 7 * q + z = 7 * q + w then v else σ.1 208 (7 * q + z)) = (if z = w then v else sHd (aS s q) z)
    by_cases e2 : z = w
    · rw [if_pos ⟨rfl, by rw [e2]⟩, if_pos e2]
    · rw [if_neg (fun y => e2 (by omega)), if_neg e2]; exact (k2 z z1 z2).2
  · rw [u1, if_neg e]
    refine ⟨k1, fun z z1 z2 => ⟨(k2 z z1 z2).1, ?_⟩, k3⟩
    rw [wI_ni (by omega)]; exact (k2 z z1 z2).2
def an_annot (s : AS) (p q a : Int32) : Int32 := match idx p (aM s) with
  | none => BADI
  | some i => match adx a q (sZ (aS s i)) with
    | none => BADI
    | some (b, w) => if treeB (sZ (aS s i)) (hdN (sH w (nI b) (aS s i))) = true then sHd (aS s i) w else BADV
def nx_annot (s : AS) (p q a : Int32) : AS := match idx p (aM s) with
  | none => s
  | some i => match adx a q (sZ (aS s i)) with
    | none => s
    | some (b, w) => if treeB (sZ (aS s i)) (hdN (sH w (nI b) (aS s i))) = true then inx i (sH w (nI b)) s else s
theorem sH_le {x : SentT} (hx : wfS x) {b w : Nat} (hb : b ≤ sZ x) (hw : 1 ≤ w) {v : Nat} (hv : v ≤ sZ x) : hdN (sH w (nI b) x) v ≤ sZ x := by
  have hz := hx.1
  rw [sH_hd (by omega) (by omega)]
  split
  · exact hb
  · exact hx.hd_le hv
section OP7
variable {σ : St} {s : AS} {K : Int32 → St → Prop}
theorem c_annotate {p q a : Int32} (h : RC σ s) (hw : wf s) (hK : ∀ σ', RC σ' (nx_annot s p q a) → frM σ σ' → K (an_annot s p q a) σ') : P_X7_annotate p q a σ K := by
  unfold P_X7_annotate
  have hm := h.m4
  refine find_C h (fun hi => ⟨fun _ => ?_, fun b e => by cases e⟩) (fun j hj hp hi => ⟨fun e => (by cases e), fun b e => ?_⟩)
  · rw [an_annot, nx_annot, hi] at hK; exact hK σ h frM.rf
  · cases e
    have hx := hw.2.1.2 j hj
    have hz := hx.1
    have hso := h.sok (i := j) (by omega)
    have hrg := s_rng hso
    refine ⟨hso, hasArc_C (h.sent hj).1 (by omega) (fun hv => ⟨fun _ => ?_, fun z => absurd rfl z⟩) (fun b w b1 w1 w2 hne ha hq hv => ⟨fun z => absurd z (by decide), fun _ => ?_⟩)⟩
    · rw [an_annot, nx_annot, hi] at hK; dsimp only at hK; rw [hv] at hK; exact hK σ h frM.rf
    · rw [an_annot, nx_annot, hi] at hK; dsimp only at hK; rw [hv] at hK; dsimp only at hK
      subst ha
      subst hq
      have hw7 : vp_in (nI w) 7 := vp_in_nI (by omega) (by decide)
      refine ⟨hw7, fun v7 e7 => ⟨hw7, fun s9 e9 => ?_⟩⟩
      rw [ix_nI (by omega)] at e7 e9
      have hRC := RC_head (v := nI b) h hj (w := w) (by omega)
      have hsz : s9.1 (σ.2.2 j) 0 = nI (sZ (aS s j)) := by rw [e9, wI_ne (by omega)]; exact (h.sent hj).1
      rw [hsz]
      have hln := s_ln2 hso
      have hcap : treeB (sZ (aS s j)) (cap (sZ (aS s j)) (hdN (sH w (nI b) (aS s j)))) = treeB (sZ (aS s j)) (hdN (sH w (nI b) (aS s j))) := treeB_cap (fun v hv => sH_le hx b1 w1 hv) rfl
      refine formTree_C (t := hdN (sH w (nI b) (aS s j))) (by omega) (by rw [hln]; omega) (fun v v1 v2 => ?_) (by rw [hln]; decide) (fun ht => ⟨fun z => absurd z (by decide), fun _ => ?_⟩) (fun ht => ⟨fun _ => ⟨hw7, fun s13 e13 => ?_⟩, fun z => absurd rfl z⟩)
      · have hle := sH_le hx b1 w1 v2
        refine ⟨?_, by omega⟩
        rw [e9, sH_hd (by omega) (by omega)]
        show (if σ.2.2 j + 2 = σ.2.2 j + 2 ∧ v = w then nI b else σ.1 (σ.2.2 j + 2) v) = _
        by_cases e : v = w
        · rw [if_pos ⟨rfl, e⟩, if_pos e]
        · rw [if_neg (fun z => e z.2), if_neg e, ((h.sent hj).2.1 v v1 v2).2]
          exact (hx.hd v1 v2).1
      · rw [hcap] at ht
        rw [if_pos ht, if_pos ht] at hK
        rw [e7, ((h.sent hj).2.1 w w1 w2).2, e9]
        exact hK _ hRC (frM_wI (by omega))
      · rw [hcap] at ht
        rw [if_neg (by rw [ht]; decide), if_neg (by rw [ht]; decide)] at hK
        rw [ix_nI (by omega), e7, e9, wI_back] at e13
        rw [e13]
        exact hK σ h frM.rf
theorem m_annotate {p q a : Int32} (h : RM σ s) (hw : wf s) (hK : ∀ σ', RM σ' (nx_annot s p q a) → frK σ σ' → K (an_annot s p q a) σ') : P_X8_annotate p q a σ K := by
  unfold P_X8_annotate
  have hm := h.m4
  refine isArc_M h hw (fun hi => ⟨fun _ => ?_, fun z => absurd rfl z⟩) (fun i hi hp hx hv => ⟨fun _ => ?_, fun z => absurd rfl z⟩) (fun i b w hi hp hx b1 w1 w2 hne ha hq hv => ⟨fun z => absurd z (by decide), fun _ => ?_⟩)
  · rw [an_annot, nx_annot, hi] at hK; exact hK σ h frK.rf
  · rw [an_annot, nx_annot, hx] at hK; dsimp only at hK; rw [hv] at hK; exact hK σ h frK.rf
  · rw [an_annot, nx_annot, hx] at hK; dsimp only at hK; rw [hv] at hK; dsimp only at hK
    have hxx := hw.2.1.2 i hi
    have hz := hxx.1
    subst hp
    subst ha
    subst hq
    unfold P_X8_word
    rw [word_M]
    have hv28 : vp_in (nI (7 * i + w)) 28 := vp_in_nI (by omega) (by decide)
    refine ⟨hv28, fun v6 e6 => ⟨hv28, fun s8 e8 => ⟨vp_in_nI (by omega) (by decide), ?_⟩⟩⟩
    rw [ix_nI (by omega)] at e6 e8
    have hRM := RM_head (v := nI b) h (fun j hj => (hw.sz hj).2) hi w1 (w := w) (by omega)
    have hsz : s8.1 206 (ix (nI i)) = nI (sZ (aS s i)) := by rw [e8, wI_ne (by decide), ix_nI (by omega)]; exact h.sz hi
    rw [hsz, show (7 : Int32) * nI i = nI (7 * i) from by rw [show (7 : Int32) = nI 7 from rfl, pk_mul]]
    have hcap : treeB (sZ (aS s i)) (cap (sZ (aS s i)) (hdN (sH w (nI b) (aS s i)))) = treeB (sZ (aS s i)) (hdN (sH w (nI b) (aS s i))) := treeB_cap (fun v hv => sH_le hxx b1 w1 hv) rfl
    have hl208 : ln 208 = 28 := rfl
    refine isTree_M (t := hdN (sH w (nI b) (aS s i))) (by omega) (by omega) (by rw [hl208]; omega) (by decide) (fun v v1 v2 => ?_) (fun ht => ⟨fun z => absurd z (by decide), fun _ => ?_⟩) (fun ht => ⟨fun _ => ⟨hv28, fun s13 e13 => ?_⟩, fun z => absurd rfl z⟩)
    · have hle := sH_le hxx b1 w1 v2
      refine ⟨?_, by omega⟩
      rw [e8, sH_hd (by omega) (by omega)]
      show (if 208 = 208 ∧ 7 * i + v = 7 * i + w then nI b else σ.1 208 (7 * i + v)) = _
      by_cases e : v = w
      · rw [if_pos ⟨rfl, by rw [e]⟩, if_pos e]
      · rw [if_neg (fun z => e (by omega)), if_neg e, h.hd hi v1 v2]
        exact (hxx.hd v1 v2).1
    · rw [hcap] at ht
      rw [if_pos ht, if_pos ht] at hK
      rw [e6, h.hd hi w1 w2, e8]
      exact hK _ hRM (frK_wI (by decide))
    · rw [hcap] at ht
      rw [if_neg (by rw [ht]; decide), if_neg (by rw [ht]; decide)] at hK
      rw [ix_nI (by omega), e6, e8, wI_back] at e13
      rw [e13]
      exact hK σ h frK.rf
end OP7
/-! depth -/
def dpN (t : Nat → Nat) : Nat → Nat → Nat
  | 0, _ => 0
  | f + 1, w => if w = 0 then 0 else dpN t f (t w) + 1
theorem dpN_eq (t : Nat → Nat) : ∀ (f k w : Nat), k ≤ f → itN t k w = 0 → (∀ j, j < k → itN t j w ≠ 0) → dpN t f w = k
  | 0, k, w, hk, h0, h1 => by rw [Nat.le_zero.mp hk]; rfl
  | f + 1, 0, w, hk, h0, h1 => by
    have : w = 0 := h0
    rw [this]; rfl
  | f + 1, k + 1, w, hk, h0, h1 => by
    have hw : w ≠ 0 := h1 0 (Nat.succ_pos _)
    show (if w = 0 then 0 else dpN t f (t w) + 1) = k + 1
    rw [if_neg hw, dpN_eq t f k (t w) (by omega) h0 (fun j hj => h1 (j + 1) (by omega))]
def an_depth (s : AS) (p q : Int32) : Int32 := match idx p (aM s) with
  | none => BADI
  | some i => match wdx q (sZ (aS s i)) with
    | none => BADI
    | some w => nI (dpN (hdN (aS s i)) (sZ (aS s i)) w)
section OP8
variable {σ : St} {s : AS} {K : Int32 → St → Prop}
theorem cap_it {x : SentT} (hx : wfS x) (k : Nat) {v : Nat} (hv : v ≤ sZ x) : itN (cap (sZ x) (hdN x)) k v = itN (hdN x) k v := by
  refine itN_congr (n := sZ x) (fun v hv => ?_) k v hv
  by_cases e : v = 0
  · rw [e, cap_0, hdN_0]; exact ⟨rfl, Nat.zero_le _⟩
  · rw [cap_in e (hx.hd_le hv)]; exact ⟨rfl, hx.hd_le hv⟩
theorem c_depth {p q : Int32} (h : RC σ s) (hw : wf s) (hK : K (an_depth s p q) σ) : P_X7_depth p q σ K := by
  unfold P_X7_depth
  have hm := h.m4
  refine find_C h (fun hi => ⟨fun _ => ?_, fun b e => by cases e⟩) (fun j hj hp hi => ⟨fun e => (by cases e), fun b e => ?_⟩)
  · rw [an_depth, hi] at hK; exact hK
  · cases e
    have hx := hw.2.1.2 j hj
    have hz := hx.1
    have hso := h.sok (i := j) (by omega)
    have hln := s_ln2 hso
    refine ⟨hso, hasWord_C (h.sent hj).1 (by omega) (fun hv => ⟨fun _ => ?_, fun z => absurd rfl z⟩) (fun w w1 w2 hq hv => ⟨fun z => absurd z (by decide), fun _ => ?_⟩)⟩
    · rw [an_depth, hi] at hK; dsimp only at hK; rw [hv] at hK; exact hK
    · rw [an_depth, hi] at hK; dsimp only at hK; rw [hv] at hK; dsimp only at hK
      subst hq
      rw [(h.sent hj).1]
      refine steps_C (t := hdN (aS s j)) (by omega) (by rw [hln]; omega) w2 (fun v v1 v2 => ⟨by rw [((h.sent hj).2.1 v v1 v2).2]; exact (hx.hd v1 v2).1, by have := (hx.hd v1 v2).2.1; omega⟩) (fun k k1 k2 k3 => ?_) (fun hno => ?_) (by rw [hln]; decide)
      · rw [dpN_eq (hdN (aS s j)) (sZ (aS s j)) k w k1 (by rw [← cap_it hx k w2]; exact k2) (fun i hi => by rw [← cap_it hx i w2]; exact k3 i hi)] at hK
        exact hK
      · exact absurd (by rw [cap_it hx _ w2]; exact hx.2.2.1 w w1 w2) (hno (sZ (aS s j)) (Nat.le_refl _))
theorem m_depth {p q : Int32} (h : RM σ s) (hw : wf s) (hK : K (an_depth s p q) σ) : P_X8_depth p q σ K := by
  unfold P_X8_depth
  have hm := h.m4
  refine isWord_M h hw (fun hi => ⟨fun _ => ?_, fun z => absurd rfl z⟩) (fun i hi hp hx hv => ⟨fun _ => ?_, fun z => absurd rfl z⟩) (fun i w hi hp hx w1 w2 hq hv => ⟨fun z => absurd z (by decide), fun _ => ?_⟩)
  · rw [an_depth, hi] at hK; exact hK
  · rw [an_depth, hx] at hK; dsimp only at hK; rw [hv] at hK; exact hK
  · rw [an_depth, hx] at hK; dsimp only at hK; rw [hv] at hK; dsimp only at hK
    subst hp
    subst hq
    have hxx := hw.2.1.2 i hi
    have hz := hxx.1
    refine LpE_inv (fun s' => s'.2.2 = σ ∧ ∃ k, k ≤ sZ (aS s i) ∧ s'.1 = nI k ∧ s'.2.1 = nI (itN (hdN (aS s i)) k w) ∧ ∀ j, j < k → itN (hdN (aS s i)) j w ≠ 0) (fun s' => sZ (aS s i) + 1 - ix s'.1) ?_ _ ⟨rfl, 0, Nat.zero_le _, rfl, rfl, fun j hj => absurd hj (Nat.not_lt_zero _)⟩
    intro s2 c hI hc
    obtain ⟨u3, u4, σ'⟩ := s2
    obtain ⟨e1, k, hk, e2, e3, hj⟩ := hI
    dsimp only at e1 e2 e3
    subst e1 e2 e3
    dsimp only
    unfold F_X8_depth_17
    have hle : itN (hdN (aS s i)) k w ≤ sZ (aS s i) := by rw [← cap_it hxx k w2]; exact itN_cap_le w2 k
    refine ⟨fun z => ?_, fun z => ?_⟩
    · have h0 : itN (hdN (aS s i)) k w = 0 := by
        rcases Nat.eq_zero_or_pos (itN (hdN (aS s i)) k w) with h' | h'
        · exact h'
        · exact absurd z (nI_nle h' (by omega))
      rw [dpN_eq (hdN (aS s i)) (sZ (aS s i)) k w hk h0 hj] at hK
      exact hK
    · have hpos : 1 ≤ itN (hdN (aS s i)) k w := by
        rcases Nat.eq_zero_or_pos (itN (hdN (aS s i)) k w) with h' | h'
        · rw [h'] at z; exact absurd (by decide) z
        · exact h'
      unfold P_X8_word
      rw [word_M]
      refine ⟨vp_in_nI (by omega) (by decide), fun v6 e6 v7 e7 => ?_⟩
      rw [ix_nI (by omega), h.hd hi hpos hle, (hxx.hd hpos hle).1] at e6
      rw [nI_1] at e7
      have hkn : k < sZ (aS s i) := by
        rcases Nat.lt_or_ge k (sZ (aS s i)) with h' | h'
        · exact h'
        · have := hxx.2.2.1 w w1 w2
          rw [show k = sZ (aS s i) by omega] at hpos
          omega
      subst e6 e7
      refine hc _ ⟨rfl, k + 1, by omega, rfl, ?_, fun j hj' => ?_⟩ ?_
      · show nI _ = nI _
        rw [itN_succ]
      · rcases Nat.lt_or_ge j k with h' | h'
        · exact hj j h'
        · rw [show j = k by omega]; omega
      · show sZ (aS s i) + 1 - ix (nI (k + 1)) < sZ (aS s i) + 1 - ix (nI k)
        rw [ix_nI (by omega), ix_nI (by omega)]; omega
end OP8
/-! the text -/
def inT (t : Nat × (Nat → Int32)) (s : AS) : AS := (t, s.2)
theorem RC_text {σ σ' : St} {s : AS} {t : Nat × (Nat → Int32)} (h : RC σ s) (hf : ∀ k, dC k → k ≠ 1 → k ≠ 2 → σ'.1 k = σ.1 k) (h2 : σ'.2.2 = σ.2.2) (h1 : σ'.1 1 1 = nI t.1) (h3 : ∀ i, i < t.1 → σ'.1 2 i = t.2 i) : RC σ' (inT t s) := by
  have hm := h.m4
  obtain ⟨-, k3, ⟨h4, h5, h6⟩, ⟨h7, h8⟩, h9, h10, h11, h12, h13⟩ := h
  rw [RC, h2]
  have hRS : ∀ a x, sOk a → RS σ a x → RS σ' a x := fun a x ha r => by
    have := s_rng ha
    obtain ⟨r1, r2, r3⟩ := r
    refine ⟨by rw [hf a ⟨by omega, by omega⟩ (by omega) (by omega)]; exact r1, fun w w1 w2 => ?_, fun p p1 w w1 => ?_⟩
    · rw [hf _ ⟨by omega, by omega⟩ (by omega) (by omega), hf _ ⟨by omega, by omega⟩ (by omega) (by omega)]; exact r2 w w1 w2
    · rw [hf _ ⟨by omega, by omega⟩ (by omega) (by omega), hf _ ⟨by omega, by omega⟩ (by omega) (by omega)]; exact r3 p p1 w w1
  have hRW : ∀ a W, 4 ≤ a → a ≤ 110 → RW σ a W → RW σ' a W := fun a W ha1 ha2 r => by
    obtain ⟨r1, r2⟩ := r
    refine ⟨fun p p1 q q1 => ?_, fun p p1 q q1 q2 => ?_⟩
    · rw [hf _ ⟨by omega, by omega⟩ (by omega) (by omega)]; exact r1 p p1 q q1
    · rw [hf _ ⟨by omega, by omega⟩ (by omega) (by omega)]; exact r2 p p1 q q1 q2
  refine ⟨⟨h1, h3⟩, ⟨by rw [hf 0 (by decide) (by decide) (by decide)]; exact k3.1, k3.2⟩, ⟨h4, h5, fun i hi => ?_⟩, ⟨fun i hi => hRS _ _ (h4 i (by have : i < aM s := hi; omega)) (h7 i hi), fun i hi hi4 => ?_⟩, hRW 81 _ (by decide) (by decide) h9, fun j hj => ⟨by rw [hf 124 (by decide) (by decide) (by decide)]; exact (h10 j hj).1, hRW _ _ (by omega) (by omega) (h10 j hj).2⟩, by rw [hf 125 (by decide) (by decide) (by decide)]; exact h11, by rw [hf 125 (by decide) (by decide) (by decide)]; exact h12, by rw [hf 125 (by decide) (by decide) (by decide)]; exact h13⟩
  · have := s_rng (h4 i hi)
    rw [hf _ ⟨by omega, by omega⟩ (by omega) (by omega)]; exact h6 i hi
  · have := s_rng (h4 i hi4)
    obtain ⟨r1, r3⟩ := h8 i hi hi4
    refine ⟨by rw [hf _ ⟨by omega, by omega⟩ (by omega) (by omega)]; exact r1, fun p p1 w w1 => ?_⟩
    rw [hf _ ⟨by omega, by omega⟩ (by omega) (by omega), hf _ ⟨by omega, by omega⟩ (by omega) (by omega)]; exact r3 p p1 w w1
theorem RM_text {σ σ' : St} {s : AS} {t : Nat × (Nat → Int32)} (h : RM σ s) (hf : ∀ k, 205 < k → k ≤ 213 → σ'.1 k = σ.1 k) (h4 : ∀ j, j ≠ 1 → σ'.1 204 j = σ.1 204 j) (h1 : σ'.1 204 1 = nI t.1) (h3 : ∀ i, i < t.1 → σ'.1 205 i = t.2 i) : RM σ' (inT t s) := by
  obtain ⟨-, k3, h5, h6, h7, h8, h9, h10⟩ := h
  refine ⟨⟨h1, h3⟩, ⟨by rw [h4 2 (by decide)]; exact k3.1, k3.2⟩, fun i hi => ?_, fun k hk => by rw [hf 211 (by decide) (by decide)]; exact h6 k hk, fun j hj => ?_, by rw [h4 11 (by decide)]; exact h8, by rw [h4 12 (by decide)]; exact h9, by rw [h4 13 (by decide)]; exact h10⟩
  · rw [hf 206 (by decide) (by decide), hf 207 (by decide) (by decide), hf 208 (by decide) (by decide), hf 209 (by decide) (by decide), hf 210 (by decide) (by decide)]
    exact h5 i hi
  · rw [hf 212 (by decide) (by decide), hf 213 (by decide) (by decide)]
    exact h7 j hj
def an_append (s : AS) (c : Int32) : Int32 := if 0 ≤ c.toInt ∧ c.toInt ≤ 127 then (if aN s = 100 then FULLV else nI (aN s + 1)) else BADV
def nx_append (s : AS) (c : Int32) : AS := if 0 ≤ c.toInt ∧ c.toInt ≤ 127 then (if aN s = 100 then s else inT (aN s + 1, u1 (aT s) (aN s) c) s) else s
section OP9
variable {σ : St} {s : AS} {K : Int32 → St → Prop}
theorem c_append {c : Int32} (h : RC σ s) (hw : wf s) (hK : ∀ σ', RC σ' (nx_append s c) → frM σ σ' → K (an_append s c) σ') : P_X7_append c σ K := by
  unfold P_X7_append
  dsimp only [nx_append, an_append] at hK
  have hn := hw.1.1
  have hl := h.1.1
  have e127 : (127 : Int32).toInt = 127 := rfl
  rw [T_lt, T_le, lit_toInt0, e127]
  refine ⟨fun q => ?_, fun q => ⟨fun q2 => ?_, fun q2 => ?_⟩⟩
  · rw [if_neg (by omega), if_neg (by omega)] at hK; exact hK σ h frM.rf
  · have hcc : 0 ≤ c.toInt ∧ c.toInt ≤ 127 := ⟨by omega, q2⟩
    rw [if_pos hcc, if_pos hcc] at hK
    unfold P_X2_add
    rw [hl]
    have e100 : (100 : Int32) = nI 100 := rfl
    rw [e100]
    refine ⟨fun q3 => ⟨vp_in_nI (by have := (nI_ltI (a := aN s) (b := 100) (by omega) (by omega)).mp q3; omega) (by decide), fun s2 e2 s3 e3 => ⟨fun z => absurd z (by decide), fun _ => ?_⟩⟩, fun q3 => ⟨fun _ => ?_, fun z => absurd rfl z⟩⟩
    · have hlt : aN s < 100 := (nI_ltI (by omega) (by omega)).mp q3
      rw [if_neg (by omega), if_neg (by omega)] at hK
      rw [ix_nI (by omega)] at e2
      have e21 : s2.1 1 1 = nI (aN s) := by rw [e2, wI_ne (by decide)]; exact hl
      rw [e21, nI_1] at e3
      have e31 : s3.1 1 1 = nI (aN s + 1) := by rw [e3]; exact wI_self
      rw [e31]
      refine hK s3 ?_ ?_
      · refine RC_text h (fun k hk k1 k2 => ?_) ?_ e31 (fun i hi => ?_)
        · rw [e3, wI_ne k1, e2, wI_ne k2]
        · rw [e3, e2]; rfl
        · rw [e3, wI_ne (by decide), e2]
          show (if 2 = 2 ∧ i = aN s then c else σ.1 2 i) = (if i = aN s then c else aT s i)
          by_cases e : i = aN s
          · rw [if_pos ⟨rfl, e⟩, if_pos e]
          · rw [if_neg (fun z => e z.2), if_neg e]; exact h.1.2 i (by have : i < aN s + 1 := hi; omega)
      · rw [e3, e2]; exact (frM_wI (by decide)).tr (frM_wI (by decide))
    · have hge : ¬ aN s < 100 := fun hlt => q3 (nI_lt hlt (by decide))
      rw [if_pos (by omega), if_pos (by omega)] at hK; exact hK σ h frM.rf
  · rw [if_neg (by omega), if_neg (by omega)] at hK; exact hK σ h frM.rf
theorem m_append {c : Int32} (h : RM σ s) (hw : wf s) (hK : ∀ σ', RM σ' (nx_append s c) → frK σ σ' → K (an_append s c) σ') : P_X8_append c σ K := by
  unfold P_X8_append
  dsimp only [nx_append, an_append] at hK
  have hn := hw.1.1
  have hl := h.1.1
  refine in_N (A := 0) (B := 127) rfl rfl (fun q => ⟨fun _ => ?_, fun z => absurd rfl z⟩) (fun q => ⟨fun z => absurd z (by decide), fun _ => ?_⟩)
  · rw [if_neg q, if_neg q] at hK; exact hK σ h frK.rf
  · rw [if_pos q, if_pos q] at hK
    rw [hl, show (100 : Int32) = nI 100 from rfl, nI_eq (by omega) (by omega)]
    refine ⟨fun q3 => ?_, fun q3 => ⟨vp_in_nI (by omega) (by decide), fun s4 e4 s5 e5 => ?_⟩⟩
    · rw [if_pos q3, if_pos q3] at hK; exact hK σ h frK.rf
    · rw [if_neg q3, if_neg q3] at hK
      rw [ix_nI (by omega)] at e4
      have e21 : s4.1 204 1 = nI (aN s) := by rw [e4, wI_ne (by decide)]; exact hl
      rw [e21, nI_1] at e5
      have e31 : s5.1 204 1 = nI (aN s + 1) := by rw [e5]; exact wI_self
      rw [e31]
      refine hK s5 ?_ ?_
      · refine RM_text h (fun k hk k1 => ?_) (fun j hj => ?_) e31 (fun i hi => ?_)
        · rw [e5, wI_ne (by omega), e4, wI_ne (by omega)]
        · rw [e5, wI_ni hj, e4, wI_ne (by decide)]
        · rw [e5, wI_ne (by decide), e4]
          show (if 205 = 205 ∧ i = aN s then c else σ.1 205 i) = (if i = aN s then c else aT s i)
          by_cases e : i = aN s
          · rw [if_pos ⟨rfl, e⟩, if_pos e]
          · rw [if_neg (fun z => e z.2), if_neg e]; exact h.1.2 i (by have : i < aN s + 1 := hi; omega)
      · rw [e5, e4]; exact (frK_wI (by decide)).tr (frK_wI (by decide))
theorem c_clearText (h : RC σ s) (hK : ∀ σ', RC σ' (inT (0, aT s) s) → frM σ σ' → K (nI (aN s)) σ') : P_X7_clearText σ K := by
  unfold P_X7_clearText
  intro v1 e1 s2 e2
  rw [e1, h.1.1, e2]
  refine hK _ (RC_text h (fun k hk k1 k2 => wI_ne k1) rfl wI_self (fun i hi => absurd hi (Nat.not_lt_zero _))) (frM_wI (by decide))
theorem m_clearText (h : RM σ s) (hK : ∀ σ', RM σ' (inT (0, aT s) s) → frK σ σ' → K (nI (aN s)) σ') : P_X8_clearText σ K := by
  unfold P_X8_clearText
  intro v1 e1 s2 e2
  rw [e1, h.1.1, e2]
  refine hK _ (RM_text h (fun k hk k1 => wI_ne (by omega)) (fun j hj => wI_ni hj) wI_self (fun i hi => absurd hi (Nat.not_lt_zero _))) (frK_wI (by decide))
end OP9
