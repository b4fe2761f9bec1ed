/-! correct, acceptBest, regret, margin -/
def agN (r : List Nat) (t : Nat → Nat) : Nat → Nat
  | 0 => 0
  | w + 1 => agN r t w + (if hL r (w + 1) = t (w + 1) then 1 else 0)
theorem agN_le (r : List Nat) (t : Nat → Nat) : ∀ n, agN r t n ≤ n
  | 0 => Nat.le_refl _
  | n + 1 => by have := agN_le r t n; rw [agN]; split <;> omega
theorem agN_all {r : List Nat} {t : Nat → Nat} : ∀ n, agN r t n = n ↔ ∀ w, 1 ≤ w → w ≤ n → hL r w = t w
  | 0 => ⟨fun _ w w1 w2 => by omega, fun _ => rfl⟩
  | n + 1 => by
    have ih := agN_all (r := r) (t := t) n
    have hl := agN_le r t n
    rw [agN]
    constructor
    · intro h w w1 w2
      by_cases e : hL r (n + 1) = t (n + 1)
      · rw [if_pos e] at h
        by_cases q : w = n + 1
        · rw [q]; exact e
        · exact ih.mp (by omega) w w1 (by omega)
      · rw [if_neg e] at h; omega
    · intro h
      rw [if_pos (h (n + 1) (by omega) (by omega)), ih.mpr (fun w w1 w2 => h w w1 (by omega))]
noncomputable def an_correct (s : AS) (p : Int32) : Int32 := match idx p (aM s) with
  | none => BADI
  | some j => match (RKf s j)[0]? with
    | none => NONEV
    | some r => nI (agN r (hdN (aS s j)) (sZ (aS s j)))
def accS (j : Nat) (r : List Nat) (s : AS) : Nat → AS
  | 0 => s
  | w + 1 => inx j (sH (w + 1) (nI (hL r (w + 1)))) (accS j r s w)
noncomputable def an_accept (s : AS) (p : Int32) : Int32 := match idx p (aM s) with
  | none => BADI
  | some j => match (RKf s j)[0]? with
    | none => NONEV
    | some r => nI (sZ (aS s j) - agN r (hdN (aS s j)) (sZ (aS s j)))
noncomputable def nx_accept (s : AS) (p : Int32) : AS := match idx p (aM s) with
  | none => s
  | some j => match (RKf s j)[0]? with
    | none => s
    | some r => accS j r s (sZ (aS s j))
theorem accS_M {j : Nat} {r : List Nat} {s : AS} : ∀ w, aM (accS j r s w) = aM s ∧ ∀ i, sZ (aS (accS j r s w) i) = sZ (aS s i)
  | 0 => ⟨rfl, fun _ => rfl⟩
  | w + 1 => by
    obtain ⟨h1, h2⟩ := accS_M (j := j) (r := r) (s := s) w
    refine ⟨h1, fun i => ?_⟩
    rw [← h2 i]
    show sZ (u1 (aS (accS j r s w)) j _ i) = _
    unfold u1
    by_cases e : i = j
    · rw [if_pos e, e]; rfl
    · rw [if_neg e]
section RK2
variable {σ : St} {s : AS} {K : Int32 → St → Prop}
theorem agree_C {j k : Nat} {K : Int32 → St → Prop} (h : RC σ s) (hw : wf s) (hj : j < aM s) (hk6 : k ≤ 6) (hk1 : 1 ≤ k) (hKS : KS σ k (((RKf s j).take k).map (WT (vS s j)))) (hi : 0 < (RKf s j).length) (hK : K (nI (agN (RKf s j)[0] (hdN (aS s j)) (sZ (aS s j)))) σ) : P_X7_countAgreeing (σ.2.2 j) σ K := by
  unfold P_X7_countAgreeing
  have hm := h.m4
  have hwS := hw.2.1.2 j hj
  have hz := hwS.1
  have hTR := wfS_TR hwS
  have hlm := (admL_mem.mp ((RKf_top hw hj).2 _ (List.getElem_mem hi))).1
  have hl6 := (allT_mem.mp hlm).2
  refine LpE_for (S := Int32 × Int32 × St) (T := Unit) (fun i _ => (nI (agN (RKf s j)[0] (hdN (aS s j)) i), nI (i + 1), σ)) (fun _ _ => True) (sZ (aS s j)) ?_ 0 () (by omega) trivial
  intro i _ c hi2 _ hc
  dsimp only
  unfold F_X7_countAgreeing_4
  have hag := agN_le (RKf s j)[0] (hdN (aS s j)) i
  rw [(h.sent hj).1, nI_ltI (by omega) (by omega)]
  refine ⟨fun z => ?_, fun z => headRk_C (i := 0) hw hj hk6 hKS (by omega) hi (by omega) (by omega) ⟨vp_in_nI (by omega) (by decide), ?_⟩⟩
  · rw [show i = sZ (aS s j) by omega]; exact hK
  · have hh := hl6 (i + 1) (by omega) (by omega)
    have ht := (hTR.ht (i + 1) (by omega) (by omega)).1
    rw [ix_nI (by omega), ((h.sent hj).2.1 (i + 1) (by omega) (by omega)).2, wfS_hd hwS (by omega) (by omega), nI_eq (by omega) (by omega), nI_1, nI_1]
    have := hc () (by omega) trivial
    rw [agN] at this
    refine ⟨fun q v5 e5 v6 e6 => ?_, fun q v4 e4 => ?_⟩
    · rw [if_pos q] at this; rw [e5, e6]; exact this
    · rw [if_neg q] at this; rw [e4]; exact this
theorem right_M {j : Nat} {K : Int32 → St → Prop} (h : RM σ s) (hw : wf s) (hj : j < aM s) (hR : RKc (scI (aW s) (aS s j)) (sZ (aS s j)) σ (RKf s j)) (hi : 0 < (RKf s j).length) (hK : K (nI (agN (RKf s j)[0] (hdN (aS s j)) (sZ (aS s j)))) σ) : P_X8_right (nI j) σ K := by
  unfold P_X8_right
  have hm := h.m4
  have hwS := hw.2.1.2 j hj
  have hz := hwS.1
  have hTR := wfS_TR hwS
  have hlm := (admL_mem.mp ((RKf_top hw hj).2 _ (List.getElem_mem hi))).1
  have hl6 := (allT_mem.mp hlm).2
  refine LpE_for (S := Int32 × Int32 × St) (T := Unit) (fun i _ => (nI (agN (RKf s j)[0] (hdN (aS s j)) i), nI (i + 1), σ)) (fun _ _ => True) (sZ (aS s j)) ?_ 0 () (by omega) trivial
  intro i _ c hi2 _ hc
  dsimp only
  unfold F_X8_right_4
  have hag := agN_le (RKf s j)[0] (hdN (aS s j)) i
  refine ⟨vp_in_nI (by omega) (by decide), ?_⟩
  rw [ix_nI (by omega), h.sz hj, nI_ltI (by omega) (by omega)]
  refine ⟨fun z => ?_, fun z => ⟨vp_in_nI (by omega) (by decide), ?_⟩⟩
  · rw [show i = sZ (aS s j) by omega]; exact hK
  · unfold P_X8_word
    rw [pl7]
    dsimp only
    have hh := hl6 (i + 1) (by omega) (by omega)
    have ht := (hTR.ht (i + 1) (by omega) (by omega)).1
    have h221 := (hR.2.2 0 hi).2 (i + 1) (by omega) (by omega)
    rw [Nat.mul_zero, Nat.zero_add] at h221
    rw [ix_nI (by omega), ix_nI (by omega), h221, h.hd hj (by omega) (by omega), wfS_hd hwS (by omega) (by omega), nI_eq (by omega) (by omega), nI_1, nI_1]
    have := hc () (by omega) trivial
    rw [agN] at this
    refine ⟨vp_in_nI (by omega) (by decide), fun q v8 e8 v9 e9 => ?_, fun q v6 e6 v7 e7 => ?_⟩
    · rw [if_pos q] at this; rw [e8, e9]; exact this
    · rw [if_neg q] at this
      have z0 : ∀ a : Nat, nI a + (0 : Int32) = nI a := fun a => nI_add a 0
      rw [e6, e7, z0]; exact this
theorem c_correct {p : Int32} (h : RC σ s) (hw : wf s) (hK : ∀ σ', RC σ' s → frM σ σ' → K (an_correct s p) σ') : P_X7_correct p σ K := by
  unfold P_X7_correct
  have hm := h.m4
  refine find_C h (fun hi => ⟨fun _ => ?_, fun b e => by cases e⟩) (fun j hj hp hi => ⟨fun e => (by cases e), fun b e => ?_⟩)
  · rw [an_correct, hi] at hK; exact hK σ h frM.rf
  · cases e
    rw [an_correct, hi] at hK
    dsimp only at hK
    have hlen := RKf_len hw hj
    refine ⟨h.sok (by omega), rank_C (k := 1) h hw hj (by omega) (by omega) (fun σ' of r1 r2 r0 _ r3 => ?_)⟩
    rw [found_C r3, show (0 : Int32) = nI 0 from rfl, nI_eq (by omega) (by omega)]
    have hk := hK σ' r1 r2
    refine ⟨fun z => ?_, fun z => ?_⟩
    · rw [List.getElem?_eq_none (by omega)] at hk; exact hk
    · rw [List.getElem?_eq_getElem (by omega)] at hk
      rw [← r0]
      exact agree_C r1 hw hj (by omega) (by omega) r3 (by omega) hk
theorem m_correct {p : Int32} (h : RM σ s) (hw : wf s) (hK : ∀ σ', RM σ' s → frK σ σ' → K (an_correct s p) σ') : P_X8_correct p σ K := by
  unfold P_X8_correct
  refine isSent_M h (fun hi => ⟨fun _ => ?_, fun z => absurd rfl z⟩) (fun j hj hp hi => ⟨fun z => absurd z (by decide), fun _ => ?_⟩)
  · rw [an_correct, hi] at hK; exact hK σ h frK.rf
  · subst hp
    rw [an_correct, hi] at hK
    dsimp only at hK
    have hlen := RKf_len hw hj
    refine lookR h hw hj (fun σ' r1 r2 _ _ r3 _ => ?_)
    have hk := hK σ' r1 (frY_K r2)
    rw [r3.1, show (0 : Int32) = nI 0 from rfl, nI_leI (by omega) (by omega)]
    refine ⟨fun z => ?_, fun z => ?_⟩
    · rw [List.getElem?_eq_none (by omega)] at hk; exact hk
    · rw [List.getElem?_eq_getElem (by omega)] at hk
      exact right_M r1 hw hj r3 (by omega) hk
theorem c_acceptBest {p : Int32} (h : RC σ s) (hw : wf s) (hK : ∀ σ', RC σ' (nx_accept s p) → frM σ σ' → K (an_accept s p) σ') : P_X7_acceptBest p σ K := by
  unfold P_X7_acceptBest
  have hm := h.m4
  refine find_C h (fun hi => ⟨fun _ => ?_, fun b e => by cases e⟩) (fun j hj hp hi => ⟨fun e => (by cases e), fun b e => ?_⟩)
  · rw [an_accept, nx_accept, hi] at hK; exact hK σ h frM.rf
  · cases e
    rw [an_accept, nx_accept, hi] at hK
    dsimp only at hK
    have hlen := RKf_len hw hj
    have hz := hw.sz hj
    have hso := h.sok (i := j) (by omega)
    have hrg := s_rng hso
    refine ⟨hso, rank_C (k := 1) h hw hj (by omega) (by omega) (fun σ' of r1 r2 r0 _ r3 => ?_)⟩
    rw [found_C r3, show (0 : Int32) = nI 0 from rfl, nI_eq (by omega) (by omega)]
    refine ⟨fun z => ?_, fun z => ?_⟩
    · rw [List.getElem?_eq_none (by omega)] at hK; exact hK σ' r1 r2
    · have hi0 : 0 < (RKf s j).length := by omega
      rw [List.getElem?_eq_getElem hi0] at hK
      dsimp only at hK
      rw [← r0]
      have hag := agN_le (RKf s j)[0] (hdN (aS s j)) (sZ (aS s j))
      refine agree_C r1 hw hj (by omega) (by omega) r3 hi0 (fun v7 e7 => ?_)
      rw [(r1.sent hj).1, pk_sub (by omega)] at e7
      subst e7
      refine LpE_for (S := Int32 × St) (fun i t => (nI (i + 1), t)) (fun i σ2 => RC σ2 (accS j (RKf s j)[0] s i) ∧ frM σ' σ2 ∧ σ2.2 = σ'.2 ∧ (∀ c, c ≠ σ'.2.2 j + 2 → σ2.1 c = σ'.1 c)) (sZ (aS s j)) ?_ 0 σ' (by omega) ⟨r1, frM.rf, rfl, fun _ _ => rfl⟩
      intro i σ2 c hi2 ⟨g1, g2, g3, g4⟩ hc
      dsimp only
      unfold F_X7_acceptBest_46
      obtain ⟨a1, a2⟩ := accS_M (j := j) (r := (RKf s j)[0]) (s := s) i
      have hKS2 : KS σ2 1 (((RKf s j).take 1).map (WT (vS s j))) := ⟨r3.1, by rw [g4 126 (by rw [r0]; omega)]; exact r3.2.1, fun y hy => by rw [g3]; exact r3.2.2 y hy⟩
      have hsz : σ2.1 (σ'.2.2 j) 0 = nI (sZ (aS s j)) := by rw [g4 _ (by omega)]; exact (r1.sent hj).1
      rw [hsz, nI_ltI (by omega) (by omega)]
      refine ⟨fun y => ?_, fun y => headRk_C (i := 0) hw hj (by omega) hKS2 (by omega) hi0 (by omega) (by omega) ⟨vp_in_nI (by omega) (by decide), fun s11 e11 v12 e12 => ?_⟩⟩
      · have e : i = sZ (aS s j) := by omega
        subst e
        exact hK σ2 g1 (r2.tr g2)
      · rw [nI_1] at e12
        rw [ix_nI (by omega)] at e11
        rw [e12]
        have hj2 : j < aM (accS j (RKf s j)[0] s i) := by rw [a1]; exact hj
        have hh := RC_head (w := i + 1) (v := nI (hL (RKf s j)[0] (i + 1))) g1 hj2 (by omega)
        rw [g3, ← e11] at hh
        refine hc s11 (by omega) ⟨hh, g2.tr (fun k hk => ⟨by rw [e11, wI_ne (by rw [r0]; omega)], by rw [e11, wI_2]⟩), by rw [e11, wI_2]; exact g3, fun c hc => by rw [e11, wI_ne hc]; exact g4 c hc⟩
theorem m_acceptBest {p : Int32} (h : RM σ s) (hw : wf s) (hK : ∀ σ', RM σ' (nx_accept s p) → frK σ σ' → K (an_accept s p) σ') : P_X8_acceptBest p σ K := by
  unfold P_X8_acceptBest
  have hm := h.m4
  refine isSent_M h (fun hi => ⟨fun _ => ?_, fun z => absurd rfl z⟩) (fun j hj hp hi => ⟨fun z => absurd z (by decide), fun _ => ?_⟩)
  · rw [an_accept, nx_accept, hi] at hK; exact hK σ h frK.rf
  · subst hp
    rw [an_accept, nx_accept, hi] at hK
    dsimp only at hK
    have hlen := RKf_len hw hj
    have hz := hw.sz hj
    refine lookR h hw hj (fun σ' r1 r2 _ _ r3 _ => ?_)
    rw [r3.1, show (0 : Int32) = nI 0 from rfl, nI_eq (by omega) (by omega)]
    refine ⟨fun z => ?_, fun z => ⟨vp_in_nI (by omega) (by decide), ?_⟩⟩
    · rw [List.getElem?_eq_none (by omega)] at hK; exact hK σ' r1 (frY_K r2)
    · have hi0 : 0 < (RKf s j).length := by omega
      rw [List.getElem?_eq_getElem hi0] at hK
      dsimp only at hK
      have hag := agN_le (RKf s j)[0] (hdN (aS s j)) (sZ (aS s j))
      refine right_M r1 hw hj r3 hi0 (fun v7 e7 => ?_)
      rw [ix_nI (by omega), r1.sz hj, pk_sub (by omega)] at e7
      subst e7
      refine LpE_for (S := Int32 × St) (fun i t => (nI (i + 1), t)) (fun i σ2 => RM σ2 (accS j (RKf s j)[0] s i) ∧ frK σ' σ2 ∧ ∀ c, c ≠ 208 → σ2.1 c = σ'.1 c) (sZ (aS s j)) ?_ 0 σ' (by omega) ⟨r1, frK.rf, fun _ _ => rfl⟩
      intro i σ2 c hi2 ⟨g1, g2, g4⟩ hc
      dsimp only
      unfold F_X8_acceptBest_41 P_X8_word
      obtain ⟨a1, a2⟩ := accS_M (j := j) (r := (RKf s j)[0]) (s := s) i
      refine ⟨vp_in_nI (by omega) (by decide), ?_⟩
      rw [ix_nI (by omega), g4 206 (by omega), r1.sz hj, nI_ltI (by omega) (by omega), pl7]
      dsimp only
      refine ⟨fun y => ?_, fun y => ⟨vp_in_nI (by omega) (by decide), vp_in_nI (by omega) (by decide), fun s13 e13 v14 e14 => ?_⟩⟩
      · have e : i = sZ (aS s j) := by omega
        subst e
        exact hK σ2 g1 ((frY_K r2).tr g2)
      · rw [nI_1] at e14
        have h221 := (r3.2.2 0 hi0).2 (i + 1) (by omega) (by omega)
        rw [Nat.mul_zero, Nat.zero_add] at h221
        rw [ix_nI (by omega), ix_nI (by omega), g4 221 (by omega), h221] at e13
        rw [e14]
        have hj2 : j < aM (accS j (RKf s j)[0] s i) := by rw [a1]; exact hj
        have hh := RM_head (w := i + 1) (v := nI (hL (RKf s j)[0] (i + 1))) g1 (fun i' hi' => by rw [a2 i']; rw [a1] at hi'; exact (hw.sz hi').2) hj2 (by omega) (by omega)
        rw [← e13] at hh
        exact hc s13 (by omega) ⟨hh, g2.tr ⟨fun k hk => ⟨by rw [e13, wI_ne (by omega)], by rw [e13, wI_2]⟩, by rw [e13, wI_2]⟩, fun c hc => by rw [e13, wI_ne hc]; exact g4 c hc⟩
end RK2
