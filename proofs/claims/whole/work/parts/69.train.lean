/-! train, trainAll -/
def clp (v : Int32) : Int32 := if v ≤ 999 then (if -999 ≤ v then v else -999) else 999
def chg (W : Nat → Int32) (k : Nat) (b : Int32) : Nat → Int32 := u1 W k (clp (W k + b))
def trW (x : SentT) (r : List Nat) (W : Nat → Int32) : Nat → (Nat → Int32)
  | 0 => W
  | w + 1 => if hdN x (w + 1) = hL r (w + 1) then trW x r W w else chg (chg (chg (chg (trW x r W w) (8 * tgN x (hdN x (w + 1)) + tgN x (w + 1)) 1) (dPl (hdN x (w + 1)) (w + 1)) 1) (8 * tgN x (hL r (w + 1)) + tgN x (w + 1)) (-1)) (dPl (hL r (w + 1)) (w + 1)) (-1)
noncomputable def lrn (s : AS) (j : Nat) : Int32 × AS := match (RKf s j)[0]? with
  | none => (NONEV, s)
  | some r => (nI (sZ (aS s j) - agN r (hdN (aS s j)) (sZ (aS s j))), inW (fun _ => trW (aS s j) r (aW s) (sZ (aS s j))) s)
theorem clp_bd (v : Int32) : -999 ≤ (clp v).toInt ∧ (clp v).toInt ≤ 999 := by
  unfold clp
  by_cases h1 : v ≤ 999
  · rw [if_pos h1]
    by_cases h2 : -999 ≤ v
    · rw [if_pos h2]
      rw [T_le] at h1 h2
      have e1 : (999 : Int32).toInt = 999 := by decide
      have e2 : (-999 : Int32).toInt = -999 := by decide
      omega
    · rw [if_neg h2]; decide
  · rw [if_neg h1]; decide
theorem wfW_chg {W : Nat → Int32} (h : wfW W) (k : Nat) (b : Int32) : wfW (chg W k b) := by
  intro i
  unfold chg u1
  split
  · exact clp_bd _
  · exact h i
theorem wfW_tr {x : SentT} {r : List Nat} {W : Nat → Int32} (h : wfW W) : ∀ w, wfW (trW x r W w)
  | 0 => h
  | w + 1 => by
    rw [trW]
    split
    · exact wfW_tr h w
    · exact wfW_chg (wfW_chg (wfW_chg (wfW_chg (wfW_tr h w) _ _) _ _) _ _) _ _
theorem lrn_wf {s : AS} (hw : wf s) (j : Nat) : wf (lrn s j).2 ∧ aM (lrn s j).2 = aM s := by
  unfold lrn
  cases (RKf s j)[0]? with
  | none => exact ⟨hw, rfl⟩
  | some r => exact ⟨⟨hw.1, hw.2.1, wfW_tr hw.2.2.1 _, hw.2.2.2⟩, rfl⟩
section TRC
variable {σ : St} {s : AS} {K : Int32 → St → Prop}
theorem clamp_C {v : Int32} {K : Int32 → St → Prop} (hK : K (clp v) σ) : P_X6_clamp v σ K := by
  unfold P_X6_clamp
  intro v1 e1 v2 e2
  have c1 : (999 : Int32).toInt = 999 := by decide
  have c2 : (-999 : Int32).toInt = -999 := by decide
  have : v2 = clp v := by
    rw [e2, e1]
    unfold clp
    simp only [T_lt, T_le]
    by_cases h1 : v.toInt < (999 : Int32).toInt
    · rw [if_pos h1, if_pos (show v.toInt ≤ (999 : Int32).toInt by omega)]
      by_cases h2 : (-999 : Int32).toInt < v.toInt
      · rw [if_pos h2, if_pos (by omega)]
      · rw [if_neg h2]
        by_cases h3 : (-999 : Int32).toInt ≤ v.toInt
        · rw [if_pos h3]; exact Int32.toInt_inj.mp (by omega)
        · rw [if_neg h3]
    · rw [if_neg h1, if_pos (show (-999 : Int32).toInt < (999 : Int32).toInt by decide)]
      by_cases h2 : v.toInt ≤ (999 : Int32).toInt
      · rw [if_pos h2, if_pos (by omega)]; exact Int32.toInt_inj.mp (by omega)
      · rw [if_neg h2]
  rw [this]; exact hK
theorem nudge_C {K : St → Prop} {a h w : Nat} {b : Int32} {x : SentT} {W : Nat → Int32} (ha : sOk a) (hx : wfS x) (r : RS σ a x) (hr : σ.1 (a + 1) 0 = 8) (hW : RW σ 81 W) (hh : h ≤ sZ x) (hw1 : 1 ≤ w) (hw2 : w ≤ sZ x) (hne : h ≠ w) (hK : ∀ σ', RW σ' 81 (chg (chg W (8 * tgN x h + tgN x w) b) (dPl h w) b) → (∀ k, k < 81 ∨ 95 ≤ k → σ'.1 k = σ.1 k) → σ'.2 = σ.2 → K σ') : P_X6_nudge 81 a (nI h) (nI w) b σ K := by
  have hz := hx.1
  have hrg := s_rng ha
  unfold P_X6_nudge
  have h9 := hx.tg9 hh
  have h8 := (hx.tg hw1 hw2).2
  rw [ix_nI (by omega), ix_nI (by omega), tag_C hx r hr hh, tag_C hx r hr hw2]
  refine ⟨vp_in_nI (by omega) (by decide), vp_in_nI h9 (by decide), vp_in_nI (by omega) (by decide), fun v4 e4 => ?_⟩
  subst e4
  rw [ix_nI (by omega), ix_nI (by omega)]
  have e1 : σ.1 (81 + 1 + 1 + tgN x h) (tgN x w) = W (8 * tgN x h + tgN x w) := hW.1 _ h9 _ h8
  rw [e1]
  refine ⟨vp_in_nI h8 (by decide), clamp_C ⟨vp_in_nI h8 (by decide), fun s9 e9 => ?_⟩⟩
  have hW9 : RW s9 81 (chg W (8 * tgN x h + tgN x w) b) := by
    rw [e9]; exact RW_tag h9 h8 hW
  have f9 : ∀ k, k < 81 ∨ 95 ≤ k → s9.1 k = σ.1 k := fun k hk => by rw [e9, wI_ne (by omega)]
  have f92 : s9.2 = σ.2 := by rw [e9, wI_2]
  unfold P_X6_direction
  rw [nI_leI (by omega) (by omega)]
  refine ⟨fun c => ⟨vp_in_nI (n := 1) (by decide) (by decide), fun v13 e13 => ?_⟩, fun c => ⟨vp_in_nI (n := 0) (by decide) (by decide), fun v13 e13 => ?_⟩⟩
  · rw [abs_nI (by omega) (by omega), if_neg (by omega)] at e13
    subst e13
    refine ⟨vp_in_nI (by omega) (by decide), ?_⟩
    rw [ix_nI (by omega), show ix (1 : Int32) = 1 from rfl]
    have e2 : s9.1 (81 + 11 + 1 + 1) (h - w) = chg W (8 * tgN x h + tgN x w) b (71 + 6 * 1 + (h - w)) := hW9.2 1 (by decide) (h - w) (by omega) (by omega)
    rw [e2]
    refine clamp_C ⟨vp_in_nI (by omega) (by decide), fun s18 e18 => hK s18 ?_ (fun k hk => by rw [e18, wI_ne (by omega)]; exact f9 k hk) (by rw [e18, wI_2]; exact f92)⟩
    rw [e18, show dPl h w = 71 + 6 * 1 + (h - w) by unfold dPl; rw [if_neg (by omega)]]
    exact RW_dis (by decide) (by omega) (by omega) hW9
  · rw [abs_nI (by omega) (by omega), if_pos (by omega)] at e13
    subst e13
    refine ⟨vp_in_nI (by omega) (by decide), ?_⟩
    rw [ix_nI (by omega), show ix (0 : Int32) = 0 from rfl]
    have e2 : s9.1 (81 + 11 + 1 + 0) (w - h) = chg W (8 * tgN x h + tgN x w) b (71 + 6 * 0 + (w - h)) := hW9.2 0 (by decide) (w - h) (by omega) (by omega)
    rw [e2]
    refine clamp_C ⟨vp_in_nI (by omega) (by decide), fun s18 e18 => hK s18 ?_ (fun k hk => by rw [e18, wI_ne (by omega)]; exact f9 k hk) (by rw [e18, wI_2]; exact f92)⟩
    rw [e18, show dPl h w = 71 + 6 * 0 + (w - h) by unfold dPl; rw [if_pos (by omega)]]
    exact RW_dis (by decide) (by omega) (by omega) hW9
theorem learn_C {j : Nat} {K : Int32 → St → Prop} (h : RC σ s) (hw : wf s) (hj : j < aM s) (hK : ∀ σ', RC σ' (lrn s j).2 → frM σ σ' → σ'.2.2 = σ.2.2 → K (lrn s j).1 σ') : P_X7_learn (σ.2.2 j) σ K := by
  unfold P_X7_learn
  have hm := h.m4
  have hwS := hw.2.1.2 j hj
  have hz := hwS.1
  have hTR := wfS_TR hwS
  have hlen := RKf_len hw hj
  have hso := h.sok (i := j) (by omega)
  have hrg := s_rng hso
  unfold lrn at hK
  refine rank_C (k := 1) h hw hj (by omega) (by omega) (fun σ' of r1 r2 r0 _ r3 => ?_)
  rw [found_C r3, show (0 : Int32) = nI 0 from rfl, nI_eq (by omega) (by omega)]
  refine ⟨fun z => ?_, fun z => ?_⟩
  · rw [List.getElem?_eq_none (by omega)] at hK; exact hK σ' r1 r2 r0
  · have hi0 : 0 < (RKf s j).length := by omega
    rw [List.getElem?_eq_getElem hi0] at hK
    dsimp only at hK
    have hlm := (admL_mem.mp ((RKf_top hw hj).2 _ (List.getElem_mem hi0))).1
    have hl6 := (allT_mem.mp hlm).2
    rw [← r0]
    rw [← r0] at hso hrg
    refine LpE_for (S := Int32 × Int32 × St) (fun i t => (nI (i - agN (RKf s j)[0] (hdN (aS s j)) i), nI (i + 1), t)) (fun i σ2 => RC σ2 (inW (fun _ => trW (aS s j) (RKf s j)[0] (aW s) i) s) ∧ (∀ k, k < 81 ∨ 95 ≤ k → σ2.1 k = σ'.1 k) ∧ σ2.2 = σ'.2) (sZ (aS s j)) ?_ 0 σ' (by omega) ⟨r1, fun _ _ => rfl, rfl⟩
    intro i σ2 c hi2 ⟨g1, g2, g3⟩ hc
    dsimp only
    unfold F_X7_learn_23
    have hag := agN_le (RKf s j)[0] (hdN (aS s j)) i
    have hKS2 : KS σ2 1 (((RKf s j).take 1).map (WT (vS s j))) := ⟨r3.1, by rw [g2 126 (by omega)]; exact r3.2.1, fun y hy => by rw [g3]; exact r3.2.2 y hy⟩
    have hsent : RS σ2 (σ'.2.2 j) (aS s j) := by have := g1.sent (i := j) hj; rw [g3] at this; exact this
    have hroot : σ2.1 (σ'.2.2 j + 1) 0 = 8 := by have := g1.root (i := j) (by omega); rw [g3] at this; exact this
    rw [hsent.1, nI_ltI (by omega) (by omega)]
    refine ⟨fun y => ?_, fun y => headRk_C (i := 0) hw hj (by omega) hKS2 (by omega) hi0 (by omega) (by omega) ⟨vp_in_nI (by omega) (by decide), ?_⟩⟩
    · have e : i = sZ (aS s j) := by omega
      subst e
      exact hK σ2 g1 (r2.tr (fun k hk => ⟨g2 k (by omega), by rw [g3]⟩)) (by rw [g3]; exact r0)
    · have hh := hl6 (i + 1) (by omega) (by omega)
      have ht := hTR.ht (i + 1) (by omega) (by omega)
      rw [ix_nI (by omega), (hsent.2.1 (i + 1) (by omega) (by omega)).2, wfS_hd hwS (by omega) (by omega), nI_eq (by omega) (by omega), nI_1]
      have hcc := fun t' => hc t' (by omega)
      simp only [agN, trW] at hcc
      refine ⟨fun q v5 e5 => ?_, fun q => ⟨vp_in_nI (by omega) (by decide), ?_⟩⟩
      · have hq : hdN (aS s j) (i + 1) = hL (RKf s j)[0] (i + 1) := q.symm
        simp only [if_pos q, if_pos hq, show i + 1 - (agN (RKf s j)[0] (hdN (aS s j)) i + 1) = i - agN (RKf s j)[0] (hdN (aS s j)) i by omega] at hcc
        rw [e5]; exact hcc σ2 ⟨g1, g2, g3⟩
      · have hq : ¬ hdN (aS s j) (i + 1) = hL (RKf s j)[0] (i + 1) := fun e => q e.symm
        simp only [if_neg q, if_neg hq] at hcc
        refine nudge_C hso hwS hsent hroot g1.wts ht.1 (by omega) (by omega) ht.2 (fun σ3 w1 w2 w3 => ?_)
        have hs3 : RS σ3 (σ'.2.2 j) (aS s j) := by
          obtain ⟨q1, q2, q3⟩ := hsent
          refine ⟨by rw [w2 _ (by omega)]; exact q1, fun u u1 u2 => ?_, fun p p1 u u1 => ?_⟩
          · rw [w2 _ (by omega), w2 _ (by omega)]; exact q2 u u1 u2
          · rw [w2 _ (by omega), w2 _ (by omega)]; exact q3 p p1 u u1
        refine nudge_C hso hwS hs3 (by rw [w2 _ (by omega)]; exact hroot) w1 hh.1 (by omega) (by omega) hh.2 (fun σ4 y1 y2 y3 v9 e9 v10 e10 => ?_)
        rw [nI_1] at e9
        rw [e9, e10]
        have := hcc σ4 ⟨RC_wts' (s := s) r1 (fun k _ hk => (y2 k hk).trans ((w2 k hk).trans (g2 k hk))) (by rw [y3, w3, g3]) y1, fun k hk => (y2 k hk).trans ((w2 k hk).trans (g2 k hk)), by rw [y3, w3, g3]⟩
        rw [show i + 1 - (agN (RKf s j)[0] (hdN (aS s j)) i + 0) = i - agN (RKf s j)[0] (hdN (aS s j)) i + 1 by omega] at this
        exact this
theorem changes_M {K : St → Prop} {k : Nat} {b : Int32} {W : Nat → Int32} (h : RM σ (inW (fun _ => W) s)) (hk : k < 84) (hK : ∀ σ', RM σ' (inW (fun _ => chg W k b) s) → (σ'.2 = σ.2 ∧ ∀ c, c ≠ 211 → σ'.1 c = σ.1 c) → K σ') : P_X8_changes (nI k) b σ K := by
  unfold P_X8_changes
  have hWk : σ.1 211 k = W k := h.wts hk
  rw [ix_nI (by omega), hWk]
  have hfin : ∀ s4, s4 = wI σ 211 k (clp (W k + b)) → K s4 := fun s4 e4 => by
    refine hK s4 ?_ ⟨by rw [e4, wI_2], fun c hc => by rw [e4, wI_ne hc]⟩
    rw [e4]
    exact RM_wts h hk
  refine ⟨vp_in_nI hk (by decide), fun v2 e2 => ?_⟩
  subst e2
  refine ⟨fun y => ⟨fun y2 => ⟨vp_in_nI hk (by decide), fun s4 e4 => hfin s4 ?_⟩, fun y2 => ⟨vp_in_nI hk (by decide), fun s4 e4 => hfin s4 ?_⟩⟩, fun y => ⟨vp_in_nI hk (by decide), fun s4 e4 => hfin s4 ?_⟩⟩
  · unfold clp; rw [if_pos y, if_pos y2]; exact e4
  · unfold clp; rw [if_pos y, if_neg y2]; exact e4
  · unfold clp; rw [if_neg y]; exact e4
theorem tagPlOf_M {j h w : Nat} {K : Int32 → St → Prop} {W : Nat → Int32} (hr : RM σ (inW (fun _ => W) s)) (hw : wf s) (hW : wfW W) (hj : j < aM s) (hh : h ≤ sZ (aS s j)) (hw2 : w ≤ sZ (aS s j)) (hK : K (nI (8 * tgN (aS s j) h + tgN (aS s j) w)) σ) : P_X8_tagPlaceOf (nI j) (nI h) (nI w) σ K := by
  unfold P_X8_tagPlaceOf
  have hw' : wf (inW (fun _ => W) s) := ⟨hw.1, hw.2.1, hW, hw.2.2.2⟩
  refine tagOf_M (s := inW (fun _ => W) s) hr hw' hj hh (tagOf_M (s := inW (fun _ => W) s) hr hw' hj hw2 ?_)
  unfold P_X8_tagPlace
  rw [tagPl_M]; exact hK
theorem disPlOf_M {h w : Nat} {K : Int32 → St → Prop} (hh : h < 1000) (hw : w < 1000) (hK : K (nI (dPl h w)) σ) : P_X8_distancePlaceOf (nI h) (nI w) σ K := by
  unfold P_X8_distancePlaceOf P_X8_distancePlace
  rw [nI_leI (by omega) (by omega)]
  unfold dPl at hK
  refine ⟨fun c => ?_, fun c => ?_⟩
  · rw [if_neg (by omega)] at hK
    rw [pk_sub (by omega), show (1 : Int32) = nI 1 from rfl, disPl_M]; exact hK
  · rw [if_pos (by omega)] at hK
    rw [pk_sub (by omega), show (0 : Int32) = nI 0 from rfl, disPl_M]; exact hK
theorem trains_M {j : Nat} {K : Int32 → St → Prop} (h : RM σ s) (hw : wf s) (hj : j < aM s) (hK : ∀ σ', RM σ' (lrn s j).2 → frK σ σ' → K (lrn s j).1 σ') : P_X8_trains (nI j) σ K := by
  unfold P_X8_trains
  have hm := h.m4
  have hwS := hw.2.1.2 j hj
  have hz := hwS.1
  have hTR := wfS_TR hwS
  have hlen := RKf_len hw hj
  unfold lrn at hK
  refine lookR h hw hj (fun σ' r1 r2 _ _ r3 _ => ?_)
  rw [r3.1, show (0 : Int32) = nI 0 from rfl, nI_eq (by omega) (by omega)]
  refine ⟨fun z => ?_, fun z => ?_⟩
  · rw [List.getElem?_eq_none (by omega)] at hK; exact hK σ' r1 (frY_K r2)
  · have hi0 : 0 < (RKf s j).length := by omega
    rw [List.getElem?_eq_getElem hi0] at hK
    dsimp only at hK
    have hlm := (admL_mem.mp ((RKf_top hw hj).2 _ (List.getElem_mem hi0))).1
    have hl6 := (allT_mem.mp hlm).2
    refine LpE_for (S := Int32 × Int32 × St) (fun i t => (nI (i - agN (RKf s j)[0] (hdN (aS s j)) i), nI (i + 1), t)) (fun i σ2 => RM σ2 (inW (fun _ => trW (aS s j) (RKf s j)[0] (aW s) i) s) ∧ (∀ c, c ≠ 211 → σ2.1 c = σ'.1 c) ∧ σ2.2 = σ'.2) (sZ (aS s j)) ?_ 0 σ' (by omega) ⟨r1, fun _ _ => rfl, rfl⟩
    intro i σ2 c hi2 ⟨g1, g2, g3⟩ hc
    dsimp only
    unfold F_X8_trains_19 P_X8_word
    have hag := agN_le (RKf s j)[0] (hdN (aS s j)) i
    refine ⟨vp_in_nI (by omega) (by decide), ?_⟩
    rw [ix_nI (by omega), g2 206 (by omega), r1.sz hj, nI_ltI (by omega) (by omega), pl7]
    dsimp only
    refine ⟨fun y => ?_, fun y => ?_⟩
    · have e : i = sZ (aS s j) := by omega
      subst e
      exact hK σ2 g1 ((frY_K r2).tr ⟨fun k hk => ⟨g2 k (by omega), by rw [g3]⟩, by rw [g3]⟩)
    · have hh := hl6 (i + 1) (by omega) (by omega)
      have ht := hTR.ht (i + 1) (by omega) (by omega)
      have h221 := (r3.2.2 0 hi0).2 (i + 1) (by omega) (by omega)
      rw [Nat.mul_zero, Nat.zero_add] at h221
      rw [ix_nI (by omega), ix_nI (by omega), g2 208 (by omega), g2 221 (by omega), r1.hd hj (by omega) (by omega), wfS_hd hwS (by omega) (by omega), h221]
      refine ⟨vp_in_nI (by omega) (by decide), fun v6 e6 => ⟨vp_in_nI (by omega) (by decide), fun v8 e8 => ?_⟩⟩
      subst e6 e8
      rw [nI_eq (by omega) (by omega), nI_1]
      have hcc := fun t' => hc t' (by omega)
      simp only [agN, trW] at hcc
      refine ⟨fun q v9 e9 => ?_, fun q => ?_⟩
      · have hq : hL (RKf s j)[0] (i + 1) = hdN (aS s j) (i + 1) := q.symm
        simp only [if_pos q, if_pos hq, show i + 1 - (agN (RKf s j)[0] (hdN (aS s j)) i + 1) = i - agN (RKf s j)[0] (hdN (aS s j)) i by omega] at hcc
        rw [e9]; exact hcc σ2 ⟨g1, g2, g3⟩
      · have hq : ¬ hL (RKf s j)[0] (i + 1) = hdN (aS s j) (i + 1) := fun e => q e.symm
        simp only [if_neg q, if_neg hq] at hcc
        have tg1 := hwS.tg9 ht.1
        have tg2 := hwS.tg9 hh.1
        have tg3 := (hwS.tg (w := i + 1) (by omega) (by omega)).2
        have hd1 : dPl (hdN (aS s j) (i + 1)) (i + 1) < 84 := by unfold dPl; split <;> omega
        have hd2 : dPl (hL (RKf s j)[0] (i + 1)) (i + 1) < 84 := by unfold dPl; split <;> omega
        have hW0 : wfW (trW (aS s j) (RKf s j)[0] (aW s) i) := wfW_tr hw.2.2.1 i
        refine tagPlOf_M g1 hw hW0 hj ht.1 (by omega) (changes_M g1 (by omega) (fun σ3 a1 a2 => disPlOf_M (by omega) (by omega) (changes_M a1 hd1 (fun σ4 b1 b2 => tagPlOf_M b1 hw (wfW_chg (wfW_chg hW0 _ _) _ _) hj hh.1 (by omega) (changes_M b1 (by omega) (fun σ5 c1 c2 => disPlOf_M (by omega) (by omega) (changes_M c1 hd2 (fun σ6 d1 d2 v22 e22 v23 e23 => ?_))))))))
        rw [nI_1] at e22
        rw [e22, e23]
        have := hcc σ6 ⟨d1, fun c hc => (d2.2 c hc).trans ((c2.2 c hc).trans ((b2.2 c hc).trans ((a2.2 c hc).trans (g2 c hc)))), d2.1.trans (c2.1.trans (b2.1.trans (a2.1.trans g3)))⟩
        rw [show i + 1 - (agN (RKf s j)[0] (hdN (aS s j)) i + 0) = i - agN (RKf s j)[0] (hdN (aS s j)) i + 1 by omega] at this
        exact this
noncomputable def an_train (s : AS) (p : Int32) : Int32 := match idx p (aM s) with
  | none => BADI
  | some j => (lrn s j).1
noncomputable def nx_train (s : AS) (p : Int32) : AS := match idx p (aM s) with
  | none => s
  | some j => (lrn s j).2
theorem c_train {p : Int32} (h : RC σ s) (hw : wf s) (hK : ∀ σ', RC σ' (nx_train s p) → frM σ σ' → K (an_train s p) σ') : P_X7_train p σ K := by
  unfold P_X7_train
  have hm := h.m4
  refine find_C h (fun hi => ⟨fun _ => ?_, fun b e => by cases e⟩) (fun j hj hp hi => ⟨fun e => (by cases e), fun b e => ?_⟩)
  · rw [an_train, nx_train, hi] at hK; exact hK σ h frM.rf
  · cases e
    rw [an_train, nx_train, hi] at hK
    exact ⟨h.sok (by omega), learn_C h hw hj (fun σ' r1 r2 _ => hK σ' r1 r2)⟩
theorem m_train {p : Int32} (h : RM σ s) (hw : wf s) (hK : ∀ σ', RM σ' (nx_train s p) → frK σ σ' → K (an_train s p) σ') : P_X8_train p σ K := by
  unfold P_X8_train
  refine isSent_M h (fun hi => ⟨fun _ => ?_, fun z => absurd rfl z⟩) (fun j hj hp hi => ⟨fun z => absurd z (by decide), fun _ => ?_⟩)
  · rw [an_train, nx_train, hi] at hK; exact hK σ h frK.rf
  · subst hp
    rw [an_train, nx_train, hi] at hK
    exact trains_M h hw hj (fun σ' r1 r2 => hK σ' r1 r2)
end TRC
