/-! checksum -/
def mxW (W : Nat → Int32) : Nat → Int64 → Int64
  | 0, h => h
  | k + 1, h => 31 * mxW W k h + Int32.toInt64 (W k)
noncomputable def mxH (s : AS) (j : Nat) : Nat → Int64 → Int64
  | 0, h => h
  | w + 1, h => 31 * (31 * (31 * mxH s j w h + Int32.toInt64 (sTg (aS s j) (w + 1))) + Int32.toInt64 (sHd (aS s j) (w + 1))) + Int32.toInt64 (an_rkHead s j 0 (w + 1))
noncomputable def cksS (s : AS) (j : Nat) (h : Int64) : Int64 := 31 * (31 * (31 * (31 * (31 * mxH s j (sZ (aS s j)) (31 * h + Int32.toInt64 (nI (sZ (aS s j)))) + Int32.toInt64 (an_rkScore s j 0)) + Int32.toInt64 (nI (admL s j).length)) + wAll s j) + Int32.toInt64 (nI (crA (hdN (aS s j)) (sZ (aS s j) + 1)))) + Int32.toInt64 (nI (movesL (sZ (aS s j)) (hdN (aS s j))).length)
noncomputable def cksA (s : AS) : Nat → Int64
  | 0 => 403 + Int32.toInt64 (nI (aM s))
  | j + 1 => cksS s j (cksA s j)
noncomputable def an_checksum (s : AS) : Int64 := mxW (aW s) 84 (cksA s (aM s))
section CKS
variable {σ : St} {s : AS}
theorem mixInto_C {K : Int64 → St → Prop} {W : Nat → Int32} {h0 : Int64} (hW : RW σ 81 W) (hK : K (mxW W 84 h0) σ) : P_X6_mixInto 81 h0 σ K := by
  unfold P_X6_mixInto
  refine LpE_for (S := Int64 × Int32 × St) (T := Unit) (fun i _ => (mxW W (8 * i) h0, nI i, σ)) (fun _ _ => True) 9 ?_ 0 () (by omega) trivial
  intro i _ c hi _ hc
  dsimp only
  unfold F_X6_mixInto_5
  rw [show (8 : Int32) = nI 8 from rfl, nI_ltI (by omega) (by omega)]
  refine ⟨fun z => ?_, fun z => ?_⟩
  · have hi9 : i = 9 := by omega
    subst hi9
    refine LpE_for (S := Int64 × Int32 × St) (T := Unit) (fun i _ => (mxW W (72 + 6 * i) h0, nI i, σ)) (fun _ _ => True) 2 ?_ 0 () (by omega) trivial
    intro d _ c2 hd _ hc2
    dsimp only
    unfold F_X6_mixInto_53
    rw [show (2 : Int32) = nI 2 from rfl, nI_leI (by omega) (by omega)]
    refine ⟨fun y => ?_, fun y => ?_⟩
    · have : d = 2 := by omega
      subst this; exact hK
    · refine LpE_for (S := Int64 × Int32 × St) (T := Unit) (fun k _ => (mxW W (72 + 6 * d + k) h0, nI (k + 1), σ)) (fun _ _ => True) 6 ?_ 0 () (by omega) trivial
      intro k _ c3 hk _ hc3
      dsimp only
      unfold F_X6_mixInto_62
      rw [show (6 : Int32) = nI 6 from rfl, nI_ltI (by omega) (by omega), nI_1]
      refine ⟨fun q v1 e1 => ?_, fun q => ⟨vp_in_nI (by omega) (by decide), vp_in_nI (by omega) (by decide), ?_⟩⟩
      · have hk6 : k = 6 := by omega
        have := hc2 () (by omega) trivial
        rw [e1, hk6]; exact this
      · unfold P_X7_mix
        intro v6 e6
        rw [nI_1] at e6
        have := hc3 () (by omega) trivial
        rw [ix_nI (by omega), ix_nI (by omega), show 81 + 11 + 1 + d = 81 + 12 + d by omega, hW.2 d (by omega) (k + 1) (by omega) (by omega), show 71 + 6 * d + (k + 1) = 72 + 6 * d + k by omega, e6]
        exact this
  · refine LpE_for (S := Int64 × Int32 × St) (T := Unit) (fun k _ => (mxW W (8 * i + k) h0, nI k, σ)) (fun _ _ => True) 8 ?_ 0 () (by omega) trivial
    intro k _ c3 hk _ hc3
    dsimp only
    unfold F_X6_mixInto_15
    rw [show (8 : Int32) = nI 8 from rfl, nI_leI (by omega) (by omega), nI_1]
    refine ⟨fun q v7 e7 => ?_, fun q => ⟨vp_in_nI (by omega) (by decide), vp_in_nI (by omega) (by decide), ?_⟩⟩
    · have hk8 : k = 8 := by omega
      have := hc () (by omega) trivial
      rw [e7, hk8, show 8 * i + 8 = 8 * (i + 1) by omega]; exact this
    · unfold P_X7_mix
      intro v12 e12
      rw [nI_1] at e12
      have := hc3 () (by omega) trivial
      rw [ix_nI (by omega), ix_nI (by omega), show 81 + 1 + 1 + i = 81 + 2 + i by omega, hW.1 i (by omega) k (by omega), e12]
      exact this
theorem mixSent_C {K : Int64 → St → Prop} {j : Nat} {h0 : Int64} (h : RC σ s) (hw : wf s) (hj : j < aM s) (hK : ∀ σ', RC σ' s → frM σ σ' → σ'.2.2 = σ.2.2 → K (cksS s j h0) σ') : P_X7_mixSentence h0 (σ.2.2 j) σ K := by
  have hm := h.m4
  have hwS := hw.2.1.2 j hj
  have hz := hwS.1
  have hlen := RKf_len hw hj
  unfold P_X7_mixSentence
  refine rank_C (k := 1) h hw hj (by omega) (by omega) (fun σ1 of r1 m1 e1 _ hKS => ?_)
  have fin : ∀ (t1 : Int64), t1 = Int32.toInt64 (an_rkScore s j 0) → J_X7_mixSentence_133 K (σ.2.2 j) (mxH s j (sZ (aS s j)) (31 * h0 + Int32.toInt64 (nI (sZ (aS s j))))) t1 σ1 := by
    intro t1 et
    unfold J_X7_mixSentence_133
    simp only [P_X7_mix]
    rw [et, ← e1]
    refine countTrees_C r1 hw hj (fun σ2 f2 r2 => ?_)
    rw [show σ1.2.2 j = σ2.2.2 j by rw [f2.2.2.2]]
    refine sumW_C r2 hw hj (fun σ3 _ _ _ f3 r3 _ _ _ => ?_)
    rw [show σ2.2.2 j = σ3.2.2 j by rw [f3.2.2.2]]
    refine countCr_C hwS (r3.sent hj) ?_
    refine countTr_C hwS (r3.sent hj) (r3.sok (by omega)) (fun σ4 f4 _ => ?_)
    have k1 : frM σ3 σ4 := fun k hk => ⟨f4.2 k (by omega), by rw [f4.1]⟩
    have k2 : RC σ4 s := RC_fr r3 ⟨fun k hk => ⟨f4.2 k (by have := hk.1; omega), by rw [f4.1]⟩, by rw [f4.1]⟩
    exact hK σ4 k2 (((m1.tr (frU_M f2)).tr (frU_M f3)).tr k1) (by rw [f4.1, f3.2.2.2, f2.2.2.2, e1])
  have hs1 := r1.sent hj
  rw [e1] at hs1
  have j21 : ∀ t0 : Int32, (t0 = 0 ↔ (RKf s j).length = 0) → J_X7_mixSentence_21 K h0 (σ.2.2 j) t0 σ1 := by
    intro t0 ht
    unfold J_X7_mixSentence_21 P_X7_mix
    rw [hs1.1]
    refine LpE_for (S := Int64 × Int32 × St) (T := Unit) (fun i _ => (mxH s j i (31 * h0 + Int32.toInt64 (nI (sZ (aS s j)))), nI (i + 1), σ1)) (fun _ _ => True) (sZ (aS s j)) ?_ 0 () (by omega) trivial
    intro i _ c hi _ hc
    dsimp only
    unfold F_X7_mixSentence_37
    rw [hs1.1, nI_ltI (by omega) (by omega), ht]
    refine ⟨fun z => ?_, fun z => ⟨vp_in_nI (by omega) (by decide), ?_⟩⟩
    · have hin : i = sZ (aS s j) := by omega
      subst hin
      refine ⟨fun y => fin _ ?_, fun y => scoreRk_C (i := 0) hw hj (by omega) hKS (by omega) (by omega) (fin _ ?_)⟩
      · unfold an_rkScore; rw [List.getElem?_eq_none (by omega)]; exact (show (-1000004 : Int64) = Int32.toInt64 (-1000004) by decide)
      · unfold an_rkScore; rw [List.getElem?_eq_getElem (by omega)]
    · unfold P_X7_mix
      have hT := hs1.2.1 (i + 1) (by omega) (by omega)
      have := hc () (by omega) trivial
      refine ⟨vp_in_nI (by omega) (by decide), ?_⟩
      rw [ix_nI (by omega), hT.1, hT.2]
      have j100 : ∀ t1 : Int64, t1 = Int32.toInt64 (an_rkHead s j 0 (i + 1)) → J_X7_mixSentence_100 K c (σ.2.2 j) t0 (nI (i + 1)) (31 * (31 * mxH s j i (31 * h0 + Int32.toInt64 (nI (sZ (aS s j)))) + Int32.toInt64 (sTg (aS s j) (i + 1))) + Int32.toInt64 (sHd (aS s j) (i + 1))) t1 σ1 := by
        intro t1 et
        unfold J_X7_mixSentence_100 P_X7_mix
        intro v32 e32
        rw [nI_1] at e32
        rw [e32, et]; exact this
      refine ⟨fun y => j100 _ ?_, fun y => headRk_C (i := 0) hw hj (by omega) hKS (by omega) (by omega) (by omega) (by omega) (j100 _ ?_)⟩
      · unfold an_rkHead; rw [List.getElem?_eq_none (by omega)]; exact (show (-1000004 : Int64) = Int32.toInt64 (-1000004) by decide)
      · unfold an_rkHead; rw [List.getElem?_eq_getElem (by omega)]
  rw [found_C hKS, show (0 : Int32) = nI 0 from rfl, nI_leI (by omega) (by omega)]
  refine ⟨fun z => j21 _ ⟨fun _ => by omega, fun _ => rfl⟩, fun z => j21 _ ⟨fun y => absurd y (by decide), fun y => by omega⟩⟩
theorem c_checksum {K : Int64 → St → Prop} (h : RC σ s) (hw : wf s) (hK : ∀ σ', RC σ' s → frM σ σ' → K (an_checksum s) σ') : P_X7_checksum σ K := by
  have hm := h.m4
  unfold P_X7_checksum P_X7_mix
  rw [h.cnt, show (31 : Int64) * 13 + Int32.toInt64 (nI (aM s)) = cksA s 0 from rfl]
  refine LpE_for (S := Int64 × Int32 × St) (fun i t => (cksA s i, nI i, t)) (fun i σ' => RC σ' s ∧ frM σ σ') (aM s) ?_ 0 σ (by omega) ⟨h, frM.rf⟩
  intro i σ1 c hi ⟨r1, m1⟩ hc
  dsimp only
  unfold F_X7_checksum_14
  rw [r1.cnt, nI_leI (by omega) (by omega)]
  refine ⟨fun z => ?_, fun z => ⟨vp_in_nI (by omega) (by decide), ?_⟩⟩
  · have : i = aM s := by omega
    subst this
    exact mixInto_C r1.wts (hK σ1 r1 m1)
  · rw [ix_nI (by omega)]
    refine ⟨r1.sok (by omega), mixSent_C r1 hw (by omega) (fun σ2 r2 m2 _ v9 e9 => ?_)⟩
    rw [nI_1] at e9
    rw [e9]
    exact hc σ2 (by omega) ⟨r2, m1.tr m2⟩
theorem m_checksum {K : Int64 → St → Prop} (h : RM σ s) (hw : wf s) (hK : ∀ σ', RM σ' s → frK σ σ' → K (an_checksum s) σ') : P_X8_checksum σ K := by
  have hm := h.m4
  unfold P_X8_checksum
  intro v1 e1
  rw [h.cnt] at e1
  rw [e1, show (403 : Int64) + Int32.toInt64 (nI (aM s)) = cksA s 0 from rfl]
  refine LpE_for (S := Int64 × Int32 × St) (fun i t => (cksA s i, nI i, t)) (fun i σ' => RM σ' s ∧ frK σ σ') (aM s) ?_ 0 σ (by omega) ⟨h, frK.rf⟩
  intro j σ1 c hj ⟨r1, m1⟩ hc
  dsimp only
  unfold F_X8_checksum_12
  rw [r1.cnt, nI_leI (by omega) (by omega)]
  refine ⟨fun z => ?_, fun z => ?_⟩
  · have : j = aM s := by omega
    subst this
    refine LpE_for (S := Int64 × Int32 × St) (T := Unit) (fun k _ => (mxW (aW s) k (cksA s (aM s)), nI k, σ1)) (fun _ _ => True) 84 ?_ 0 () (by omega) trivial
    intro k _ c2 hk _ hc2
    dsimp only
    unfold F_X8_checksum_223
    rw [show (84 : Int32) = nI 84 from rfl, nI_leI (by omega) (by omega)]
    refine ⟨fun y => ?_, fun y => ⟨vp_in_nI (by omega) (by decide), fun v3 e3 v4 e4 => ?_⟩⟩
    · have : k = 84 := by omega
      subst this
      exact hK σ1 r1 m1
    · rw [ix_nI (by omega), r1.wts (by omega)] at e3
      rw [nI_1] at e4
      have := hc2 () (by omega) trivial
      rw [e3, e4]; exact this
  · have hjM : j < aM s := by omega
    have hwS := hw.2.1.2 j hjM
    have hz := hwS.1
    have hlen := RKf_len hw hjM
    refine lookR r1 hw hjM (fun σ2 r2 f2 _ lk rk _ => ⟨vp_in_nI (by omega) (by decide), fun v7 e7 => ?_⟩)
    rw [ix_nI (by omega), r2.sz hjM] at e7
    rw [e7]
    refine LpE_for (S := Int64 × Int32 × St) (T := Unit) (fun i _ => (mxH s j i (31 * cksA s j + Int32.toInt64 (nI (sZ (aS s j)))), nI (i + 1), σ2)) (fun _ _ => True) (sZ (aS s j)) ?_ 0 () (by omega) trivial
    intro i _ c2 hi _ hc2
    dsimp only
    unfold F_X8_checksum_42
    refine ⟨vp_in_nI (by omega) (by decide), ?_⟩
    rw [ix_nI (by omega), r2.sz hjM, nI_ltI (by omega) (by omega)]
    refine ⟨fun y => ?_, fun y => ?_⟩
    · have hin : i = sZ (aS s j) := by omega
      subst hin
      have fin : ∀ t1 : Int32, t1 = an_rkScore s j 0 → J_X8_checksum_147 K c (nI j) (31 * mxH s j (sZ (aS s j)) (31 * cksA s j + Int32.toInt64 (nI (sZ (aS s j))))) t1 σ2 := by
        intro t1 et
        unfold J_X8_checksum_147
        intro v9 e9 v10 e10 v11 e11
        rw [lk.ct] at e10
        rw [lk.wa] at e11
        refine ⟨vp_in_nI (by omega) (by decide), ?_⟩
        rw [show (7 : Int32) = nI 7 from rfl, pk_mul, ix_nI (by omega), r2.sz hjM]
        refine crossed_M (t := hdN (aS s j)) hz.1 hz.2 (by omega) (show 7 * j + sZ (aS s j) < 28 by omega) (by decide) (fun v v1 v2 => ⟨by rw [r2.hd hjM v1 v2]; exact (hwS.hd v1 v2).1, (hwS.hd v1 v2).2.1⟩) ?_
        intro v15 e15
        refine moves_R r2 hw hjM (fun σ3 r3 f3 k3 v17 e17 v18 e18 => ?_)
        rw [k3.1] at e17
        rw [nI_1] at e18
        have := hc σ3 (by omega) ⟨r3, m1.tr ((frY_K f2).tr (frV_K f3))⟩
        rw [e18, e17, e15, e11, e10, e9, et]; exact this
      unfold RKc at rk
      rw [show σ2.1 204 21 = nI (RKf s j).length from rk.1, show (0 : Int32) = nI 0 from rfl, nI_leI (by omega) (by omega), ix_nI (by omega)]
      refine ⟨fun q => fin _ ?_, fun q => fin _ ?_⟩
      · unfold an_rkScore; rw [List.getElem?_eq_none (by omega)]
      · unfold an_rkScore; rw [List.getElem?_eq_getElem (by omega)]; exact (rk.2.2 0 (by omega)).1
    · unfold P_X8_word
      rw [pl7]
      dsimp only
      refine ⟨vp_in_nI (by omega) (by decide), fun v22 e22 => ⟨vp_in_nI (by omega) (by decide), fun v26 e26 => ?_⟩⟩
      rw [ix_nI (by omega), r2.tg hjM (by omega) (by omega)] at e22
      rw [ix_nI (by omega), r2.hd hjM (by omega) (by omega)] at e26
      have := hc2 () (by omega) trivial
      rw [show σ2.1 204 21 = nI (RKf s j).length from rk.1, show (0 : Int32) = nI 0 from rfl, nI_leI (by omega) (by omega)]
      refine ⟨fun q v27 e27 v28 e28 => ?_, fun q => ⟨vp_in_nI (by omega) (by decide), fun v30 e30 v31 e31 => ?_⟩⟩
      · rw [nI_1] at e28
        have e : an_rkHead s j 0 (i + 1) = -1000004 := by unfold an_rkHead; rw [List.getElem?_eq_none (by omega)]
        rw [mxH, e] at this
        rw [e28, e27, e26, e22]; exact this
      · rw [nI_1] at e31
        have hr := (rk.2.2 0 (by omega)).2 (i + 1) (by omega) (by omega)
        rw [Nat.mul_zero, Nat.zero_add] at hr
        rw [ix_nI (by omega), hr] at e30
        have e : an_rkHead s j 0 (i + 1) = nI (hL (RKf s j)[0] (i + 1)) := by unfold an_rkHead; rw [List.getElem?_eq_getElem (by omega)]
        rw [mxH, e] at this
        rw [e31, e30, e26, e22]; exact this
end CKS
