def P_J6_bitCount_0f7a4 (p0 : Int32) (σ : St) (K : Int32 → St → Prop) : Prop := ∀ v1 : Int32, v1 = (p0 - ((ushr p0 1) &&& 1431655765)) → (∀ v2 : Int32, v2 = ((v1 &&& 858993459) + ((ushr v1 2) &&& 858993459)) → (∀ v3 : Int32, v3 = ((v2 + (ushr v2 4)) &&& 252645135) → (∀ v4 : Int32, v4 = (v3 + (ushr v3 8)) → (∀ v5 : Int32, v5 = (v4 + (ushr v4 16)) → (K (v5 &&& 63) σ)))))
set_option maxHeartbeats 4000000 in
set_option maxRecDepth 100000 in
theorem m_J6_bitCount_0f7a4 (l : Launch) (ad : Nat → Nat) (D : va_G) (ca : Nat → ClassId) (had : adOk ad) (p0 : Int32)  (σ : St) (K : Int32 → St → Prop) (hp : P_J6_bitCount_0f7a4 p0 σ K) : CtI l ad D ca yJ6_bitCount_0f7a4 cJ6_bitCount_0f7a4 1 .int 0 [.int p0] σ K := CtI_of (av := fun ad => [.int p0]) (by decide +kernel) had (Nat.le_of_ble_eq_true rfl) (fun κ C hret => by
  have C : Ok κ RJ6 cJ6_bitCount_0f7a4 1 0 := C
  show GG κ 0 [(0, .int p0)] [] σ
  unfold P_J6_bitCount_0f7a4 at hp
  refine x_iload_n 0 C rfl (dJ6_bitCount_0f7a4_p0 0 rfl) ?_
  refine x_iload_n 0 C rfl (dJ6_bitCount_0f7a4_p0 1 rfl) ?_
  refine x_iconst (v := 1) C (by decide) (dJ6_bitCount_0f7a4_p0 2 rfl) ?_
  refine x_iushr C (dJ6_bitCount_0f7a4_p0 3 rfl) ?_
  refine x_ldcw C tw_384 (dJ6_bitCount_0f7a4_p0 4 rfl) ?_
  refine x_iand C (dJ6_bitCount_0f7a4_p0 5 rfl) ?_
  refine x_isub C (dJ6_bitCount_0f7a4_p0 6 rfl) ?_
  refine x_topI (fun v1 ev1 => ?_)
  have hp := hp v1 ev1
  refine x_istore_n (loc' := [(0, .int v1)]) C rfl (by decide) rfl (dJ6_bitCount_0f7a4_p0 7 rfl) ?_
  refine x_iload_n 0 C rfl (dJ6_bitCount_0f7a4_p0 8 rfl) ?_
  refine x_ldcw C tw_385 (dJ6_bitCount_0f7a4_p0 9 rfl) ?_
  refine x_iand C (dJ6_bitCount_0f7a4_p0 10 rfl) ?_
  refine x_iload_n 0 C rfl (dJ6_bitCount_0f7a4_p0 11 rfl) ?_
  refine x_iconst (v := 2) C (by decide) (dJ6_bitCount_0f7a4_p0 12 rfl) ?_
  refine x_iushr C (dJ6_bitCount_0f7a4_p0 13 rfl) ?_
  refine x_ldcw C tw_385 (dJ6_bitCount_0f7a4_p0 14 rfl) ?_
  refine x_iand C (dJ6_bitCount_0f7a4_p0 15 rfl) ?_
  refine x_iadd C (dJ6_bitCount_0f7a4_p0 16 rfl) ?_
  refine x_topI (fun v2 ev2 => ?_)
  have hp := hp v2 ev2
  refine x_istore_n (loc' := [(0, .int v2)]) C rfl (by decide) rfl (dJ6_bitCount_0f7a4_p0 17 rfl) ?_
  refine x_iload_n 0 C rfl (dJ6_bitCount_0f7a4_p0 18 rfl) ?_
  refine x_iload_n 0 C rfl (dJ6_bitCount_0f7a4_p0 19 rfl) ?_
  refine x_iconst (v := 4) C (by decide) (dJ6_bitCount_0f7a4_p0 20 rfl) ?_
  refine x_iushr C (dJ6_bitCount_0f7a4_p0 21 rfl) ?_
  refine x_iadd C (dJ6_bitCount_0f7a4_p0 22 rfl) ?_
  refine x_ldcw C tw_386 (dJ6_bitCount_0f7a4_p0 23 rfl) ?_
  refine x_iand C (dJ6_bitCount_0f7a4_p0 24 rfl) ?_
  refine x_topI (fun v3 ev3 => ?_)
  have hp := hp v3 ev3
  refine x_istore_n (loc' := [(0, .int v3)]) C rfl (by decide) rfl (dJ6_bitCount_0f7a4_p0 25 rfl) ?_
  refine x_iload_n 0 C rfl (dJ6_bitCount_0f7a4_p0 26 rfl) ?_
  refine x_iload_n 0 C rfl (dJ6_bitCount_0f7a4_p0 27 rfl) ?_
  refine x_bipush (v := 8) C (by decide) (dJ6_bitCount_0f7a4_p0 28 rfl) ?_
  refine x_iushr C (dJ6_bitCount_0f7a4_p0 29 rfl) ?_
  refine x_iadd C (dJ6_bitCount_0f7a4_p0 30 rfl) ?_
  refine x_topI (fun v4 ev4 => ?_)
  have hp := hp v4 ev4
  refine x_istore_n (loc' := [(0, .int v4)]) C rfl (by decide) rfl (dJ6_bitCount_0f7a4_p0 31 rfl) ?_
  refine x_iload_n 0 C rfl (dJ6_bitCount_0f7a4_p0 32 rfl) ?_
  refine x_iload_n 0 C rfl (dJ6_bitCount_0f7a4_p0 33 rfl) ?_
  refine x_bipush (v := 16) C (by decide) (dJ6_bitCount_0f7a4_p0 34 rfl) ?_
  refine x_iushr C (dJ6_bitCount_0f7a4_p0 35 rfl) ?_
  refine x_iadd C (dJ6_bitCount_0f7a4_p0 36 rfl) ?_
  refine x_topI (fun v5 ev5 => ?_)
  have hp := hp v5 ev5
  refine x_istore_n (loc' := [(0, .int v5)]) C rfl (by decide) rfl (dJ6_bitCount_0f7a4_p0 37 rfl) ?_
  refine x_iload_n 0 C rfl (dJ6_bitCount_0f7a4_p0 38 rfl) ?_
  refine x_bipush (v := 63) C (by decide) (dJ6_bitCount_0f7a4_p0 39 rfl) ?_
  refine x_iand C (dJ6_bitCount_0f7a4_p0 40 rfl) ?_
  exact hret _ _ _ _ (dJ6_bitCount_0f7a4_p0 41 rfl) (nar_i _) hp)
def P_J9_floorDiv_f86c9 (p0 : Int64) (p2 : Int64) (σ : St) (K : Int64 → St → Prop) : Prop := ¬ p2 = 0 ∧ (∀ v2 : Int64, v2 = (p0 / p2) → ((0 ≤ (p0 ^^^ p2) → (K v2 σ)) ∧ (¬ (0 ≤ (p0 ^^^ p2)) → (((v2 * p2) = p0 → (K v2 σ)) ∧ (¬ ((v2 * p2) = p0) → (K (v2 - 1) σ))))))
set_option maxHeartbeats 4000000 in
set_option maxRecDepth 100000 in
theorem m_J9_floorDiv_f86c9 (l : Launch) (ad : Nat → Nat) (D : va_G) (ca : Nat → ClassId) (had : adOk ad) (p0 : Int64) (p2 : Int64)  (σ : St) (K : Int64 → St → Prop) (hp : P_J9_floorDiv_f86c9 p0 p2 σ K) : CtL l ad D ca yJ9_floorDiv_f86c9 cJ9_floorDiv_f86c9 6 0 [.long p0, .long p2] σ K := CtL_of (av := fun ad => [.long p0, .long p2]) (by decide +kernel) had (Nat.le_of_ble_eq_true rfl) (fun κ C hret => by
  have C : Ok κ RJ9 cJ9_floorDiv_f86c9 6 0 := C
  show GG κ 0 [(0, .long p0), (2, .long p2)] [] σ
  unfold P_J9_floorDiv_f86c9 at hp
  refine x_lload_n 0 C rfl (dJ9_floorDiv_f86c9_p0 0 rfl) ?_
  refine x_lload_n 1 C rfl (dJ9_floorDiv_f86c9_p0 1 rfl) ?_
  obtain ⟨h1, hp⟩ := hp
  refine x_ldiv C h1 (dJ9_floorDiv_f86c9_p0 2 rfl) ?_
  refine x_topL (fun v2 ev2 => ?_)
  have hp := hp v2 ev2
  refine x_lstore (loc' := [(4, .long v2), (0, .long p0), (2, .long p2)]) C (by decide) rfl (dJ9_floorDiv_f86c9_p0 3 rfl) ?_
  refine x_lload_n 1 C rfl (dJ9_floorDiv_f86c9_p0 4 rfl) ?_
  refine x_lload_n 2 C rfl (dJ9_floorDiv_f86c9_p0 5 rfl) ?_
  refine x_lxor C (dJ9_floorDiv_f86c9_p0 6 rfl) ?_
  refine x_lconst (v := 0) C (by decide) (dJ9_floorDiv_f86c9_p0 7 rfl) ?_
  refine x_lcmp C (dJ9_floorDiv_f86c9_p0 8 rfl) ?_
  refine x_if_ge (tgt := 27) C (dJ9_floorDiv_f86c9_p0 9 rfl) (by decide) (fun hc => ?_) (fun hc => ?_)
  · have hp := hp.1 (lgc_ge.mp hc)
    refine x_lload 0 C rfl (dJ9_floorDiv_f86c9_p0 20 rfl) ?_
    exact hret _ _ _ _ (dJ9_floorDiv_f86c9_p0 21 rfl) hp
  · have hp := hp.2 (fun q => hc (lgc_ge.mpr q))
    refine x_lload 0 C rfl (dJ9_floorDiv_f86c9_p0 10 rfl) ?_
    refine x_lload_n 2 C rfl (dJ9_floorDiv_f86c9_p0 11 rfl) ?_
    refine x_lmul C (dJ9_floorDiv_f86c9_p0 12 rfl) ?_
    refine x_lload_n 1 C rfl (dJ9_floorDiv_f86c9_p0 13 rfl) ?_
    refine x_lcmp C (dJ9_floorDiv_f86c9_p0 14 rfl) ?_
    refine x_if_eq (tgt := 27) C (dJ9_floorDiv_f86c9_p0 15 rfl) (by decide) (fun hc => ?_) (fun hc => ?_)
    · have hp := hp.1 (lgc_eq.mp hc)
      refine x_lload 0 C rfl (dJ9_floorDiv_f86c9_p0 20 rfl) ?_
      exact hret _ _ _ _ (dJ9_floorDiv_f86c9_p0 21 rfl) hp
    · have hp := hp.2 (fun q => hc (lgc_eq.mpr q))
      refine x_lload 0 C rfl (dJ9_floorDiv_f86c9_p0 16 rfl) ?_
      refine x_lconst (v := 1) C (by decide) (dJ9_floorDiv_f86c9_p0 17 rfl) ?_
      refine x_lsub C (dJ9_floorDiv_f86c9_p0 18 rfl) ?_
      exact hret _ _ _ _ (dJ9_floorDiv_f86c9_p0 19 rfl) hp)
def P_X0_addWord (p0 : Nat) (p1 : Int32) (p2 : Int32) (σ : St) (K : St → Prop) : Prop := (6 ≤ (σ.1 p0 0) → (K σ)) ∧ (¬ (6 ≤ (σ.1 p0 0)) → (∀ s1 : St, s1 = wI σ p0 0 ((σ.1 p0 0) + 1) → (vp_in (s1.1 p0 0) 7 ∧ ∀ s3 : St, s3 = wI s1 (p0 + 1) (ix (s1.1 p0 0)) p1 → (vp_in (s3.1 p0 0) 7 ∧ ∀ s5 : St, s5 = wI s3 (p0 + 2) (ix (s3.1 p0 0)) p2 → (K s5)))))
set_option maxHeartbeats 4000000 in
set_option maxRecDepth 100000 in
theorem m_X0_addWord (l : Launch) (ad : Nat → Nat) (D : va_G) (ca : Nat → ClassId) (had : adOk ad) (p0 : Nat) (p1 : Int32) (p2 : Int32) (hp0 : sOk p0) (σ : St) (K : St → Prop) (hp : P_X0_addWord p0 p1 p2 σ K) : CtV l ad D ca yX0_addWord cX0_addWord 3 0 [.ref (ad p0), .int p1, .int p2] σ K := CtV_of (av := fun ad => [.ref (ad p0), .int p1, .int p2]) (by decide +kernel) had (Nat.le_of_ble_eq_true rfl) (fun κ C hret => by
  have C : Ok κ RX0 cX0_addWord 3 0 := C
  show GG κ 0 [(0, .ref (kad κ p0)), (1, .int p1), (2, .int p2)] [] σ
  unfold P_X0_addWord at hp
  refine x_aload_n 0 C rfl (dX0_addWord_p0 0 rfl) ?_
  refine gX0_0 C (s_kd hp0) (s_lt hp0) tw_49 (dX0_addWord_p0 1 rfl) ?_
  refine x_bipush (v := 6) C (by decide) (dX0_addWord_p0 2 rfl) ?_
  refine x_icmp_ge (tgt := 39) C (dX0_addWord_p0 3 rfl) (by decide) (fun hc => ?_) (fun hc => ?_)
  · have hp := hp.1 hc
    exact hret _ _ _ (dX0_addWord_p0 22 rfl) hp
  · have hp := hp.2 hc
    refine x_aload_n 0 C rfl (dX0_addWord_p0 4 rfl) ?_
    refine x_dup C rfl (dX0_addWord_p0 5 rfl) ?_
    refine gX0_0 C (s_kd hp0) (s_lt hp0) tw_49 (dX0_addWord_p0 6 rfl) ?_
    refine x_iconst (v := 1) C (by decide) (dX0_addWord_p0 7 rfl) ?_
    refine x_iadd C (dX0_addWord_p0 8 rfl) ?_
    refine qX0_0 C (s_kd hp0) (s_lt hp0) tw_49 (dX0_addWord_p0 9 rfl) ?_
    refine x_nmS (fun s1 es1 => ?_)
    have hp := hp s1 es1
    refine x_aload_n 0 C rfl (dX0_addWord_p0 10 rfl) ?_
    refine gX0_1 (b := p0 + 1) C (s_kd hp0) (s_lt hp0) (s_m1 hp0) tw_52 (dX0_addWord_p0 11 rfl) ?_
    refine x_aload_n 0 C rfl (dX0_addWord_p0 12 rfl) ?_
    refine gX0_0 C (s_kd hp0) (s_lt hp0) tw_49 (dX0_addWord_p0 13 rfl) ?_
    refine x_iload_n 1 C rfl (dX0_addWord_p0 14 rfl) ?_
    obtain ⟨h2, hp⟩ := hp
    refine x_iast C (s_kd1 hp0) (s_lt1 hp0) (vp_ln (s_ln1 hp0) h2) (dX0_addWord_p0 15 rfl) ?_
    refine x_nmS (fun s3 es3 => ?_)
    have hp := hp s3 es3
    refine x_aload_n 0 C rfl (dX0_addWord_p0 16 rfl) ?_
    refine gX0_2 (b := p0 + 2) C (s_kd hp0) (s_lt hp0) (s_m2 hp0) tw_55 (dX0_addWord_p0 17 rfl) ?_
    refine x_aload_n 0 C rfl (dX0_addWord_p0 18 rfl) ?_
    refine gX0_0 C (s_kd hp0) (s_lt hp0) tw_49 (dX0_addWord_p0 19 rfl) ?_
    refine x_iload_n 2 C rfl (dX0_addWord_p0 20 rfl) ?_
    obtain ⟨h4, hp⟩ := hp
    refine x_iast C (s_kd2 hp0) (s_lt2 hp0) (vp_ln (s_ln2 hp0) h4) (dX0_addWord_p0 21 rfl) ?_
    refine x_nmS (fun s5 es5 => ?_)
    have hp := hp s5 es5
    exact hret _ _ _ (dX0_addWord_p0 22 rfl) hp)
def F_X0_blank_15 (K : St → Prop) (c7 : (Int32 × St) → Prop) (c15 : (Int32 × St) → Prop) (u0 : Nat) (u1 : Int32) (u2 : Int32) (σ : St) : Prop := (7 ≤ u2 → ∀ v2 : Int32, v2 = u1 + 1 → c7 (v2, σ)) ∧ (¬ (7 ≤ u2) → vp_in u1 7 ∧ (vp_in u2 7 ∧ ∀ s5 : St, s5 = wI σ ((u0 + 3) + 1 + ix u1) (ix u2) 0 → vp_in u1 7 ∧ (vp_in u2 7 ∧ ∀ s8 : St, s8 = wI s5 ((u0 + 11) + 1 + ix u1) (ix u2) 0 → ∀ v9 : Int32, v9 = u2 + 1 → c15 (v9, s8))))
set_option maxHeartbeats 4000000 in
set_option maxRecDepth 100000 in
theorem F_X0_blank_15_w {κ : Kap} {K : St → Prop} {c7 : (Int32 × St) → Prop} {c15 : (Int32 × St) → Prop} (C : Ok κ RX0 cX0_blank 3 0) (hret : RetV κ cX0_blank K) (u0 : Nat) (u1 : Int32) (u2 : Int32) (hu0 : sOk u0)   (σ : St) (hc7 : ∀ (u1 : Int32) (σ : St), c7 (u1, σ) → GG κ 7 [(0, .ref (kad κ u0)), (1, .int u1)] [] σ) (hc15 : ∀ (u2 : Int32) (σ : St), c15 (u2, σ) → GG κ 15 [(0, .ref (kad κ u0)), (1, .int u1), (2, .int u2)] [] σ) (hp : F_X0_blank_15 K c7 c15 u0 u1 u2 σ) : GG κ 15 [(0, .ref (kad κ u0)), (1, .int u1), (2, .int u2)] [] σ := by
  unfold F_X0_blank_15 at hp
  refine x_iload_n 2 C rfl (dX0_blank_p0 10 rfl) ?_
  refine x_bipush (v := 7) C (by decide) (dX0_blank_p0 11 rfl) ?_
  refine x_icmp_ge (tgt := 45) C (dX0_blank_p0 12 rfl) (by decide) (fun hc => ?_) (fun hc => ?_)
  · have hp := hp.1 hc
    obtain ⟨v2, ev2⟩ : ∃ z : Int32, z = u1 + 1 := ⟨_, rfl⟩
    have hp := hp v2 ev2
    refine x_iinc (v := v2) (loc' := [(1, .int v2), (0, .ref (kad κ u0)), (2, .int u2)]) 1 C rfl (by rw [ev2]; rfl) (by decide) rfl (dX0_blank_p0 29 rfl) ?_
    refine x_goto (tgt := 7) C (dX0_blank_p0 30 rfl) (by decide) ?_
    refine x_loc (loc' := [(0, .ref (kad κ u0)), (1, .int v2)]) [1, 0] rfl ?_
    exact hc7 v2 σ hp
  · have hp := hp.2 hc
    refine x_aload_n 0 C rfl (dX0_blank_p0 13 rfl) ?_
    refine gX0_3 (b := u0 + 3) C (s_kd hu0) (s_lt hu0) (s_m3 hu0) tw_58 (dX0_blank_p0 14 rfl) ?_
    refine x_iload_n 1 C rfl (dX0_blank_p0 15 rfl) ?_
    obtain ⟨h3, hp⟩ := hp
    refine x_aald (c := 13) (b := (u0 + 3) + 1 + ix u1) C (s_kd3 hu0) (by decide) rfl rfl (s_lt3 hu0) (vp_ln (s_ln3 hu0) h3) (row_mr13 (s_kd3 hu0) (s_lt3 hu0) (vp_ln (s_ln3 hu0) h3)) (dX0_blank_p0 16 rfl) ?_
    refine x_iload_n 2 C rfl (dX0_blank_p0 17 rfl) ?_
    refine x_iconst (v := 0) C (by decide) (dX0_blank_p0 18 rfl) ?_
    obtain ⟨h4, hp⟩ := hp
    refine x_iast C (row_kd13 (s_kd3 hu0) (s_lt3 hu0) (vp_ln (s_ln3 hu0) h3)) (row_lt13 (s_kd3 hu0) (s_lt3 hu0) (vp_ln (s_ln3 hu0) h3)) (vp_ln ((row_ln13 (s_kd3 hu0) (s_lt3 hu0) (vp_ln (s_ln3 hu0) h3)).trans (s_iln3 hu0)) h4) (dX0_blank_p0 19 rfl) ?_
    refine x_nmS (fun s5 es5 => ?_)
    have hp := hp s5 es5
    refine x_aload_n 0 C rfl (dX0_blank_p0 20 rfl) ?_
    refine gX0_4 (b := u0 + 11) C (s_kd hu0) (s_lt hu0) (s_m4 hu0) tw_60 (dX0_blank_p0 21 rfl) ?_
    refine x_iload_n 1 C rfl (dX0_blank_p0 22 rfl) ?_
    obtain ⟨h6, hp⟩ := hp
    refine x_aald (c := 13) (b := (u0 + 11) + 1 + ix u1) C (s_kd4 hu0) (by decide) rfl rfl (s_lt4 hu0) (vp_ln (s_ln4 hu0) h6) (row_mr13 (s_kd4 hu0) (s_lt4 hu0) (vp_ln (s_ln4 hu0) h6)) (dX0_blank_p0 23 rfl) ?_
    refine x_iload_n 2 C rfl (dX0_blank_p0 24 rfl) ?_
    refine x_iconst (v := 0) C (by decide) (dX0_blank_p0 25 rfl) ?_
    obtain ⟨h7, hp⟩ := hp
    refine x_iast C (row_kd13 (s_kd4 hu0) (s_lt4 hu0) (vp_ln (s_ln4 hu0) h6)) (row_lt13 (s_kd4 hu0) (s_lt4 hu0) (vp_ln (s_ln4 hu0) h6)) (vp_ln ((row_ln13 (s_kd4 hu0) (s_lt4 hu0) (vp_ln (s_ln4 hu0) h6)).trans (s_iln4 hu0)) h7) (dX0_blank_p0 26 rfl) ?_
    refine x_nmS (fun s8 es8 => ?_)
    have hp := hp s8 es8
    obtain ⟨v9, ev9⟩ : ∃ z : Int32, z = u2 + 1 := ⟨_, rfl⟩
    have hp := hp v9 ev9
    refine x_iinc (v := v9) (loc' := [(2, .int v9), (0, .ref (kad κ u0)), (1, .int u1)]) 2 C rfl (by rw [ev9]; rfl) (by decide) rfl (dX0_blank_p0 27 rfl) ?_
    refine x_goto (tgt := 15) C (dX0_blank_p0 28 rfl) (by decide) ?_
    refine x_loc (loc' := [(0, .ref (kad κ u0)), (1, .int u1), (2, .int v9)]) [1, 2, 0] rfl ?_
    exact hc15 v9 s8 hp
def F_X0_blank_7 (K : St → Prop) (c7 : (Int32 × St) → Prop) (u0 : Nat) (u1 : Int32) (σ : St) : Prop := (7 ≤ u1 → (K σ)) ∧ (¬ (7 ≤ u1) → (LpE (fun c s => F_X0_blank_15 K c7 c u0 u1 s.1 s.2) (0, σ)))
set_option maxHeartbeats 4000000 in
set_option maxRecDepth 100000 in
theorem F_X0_blank_7_w {κ : Kap} {K : St → Prop} {c7 : (Int32 × St) → Prop} (C : Ok κ RX0 cX0_blank 3 0) (hret : RetV κ cX0_blank K) (u0 : Nat) (u1 : Int32) (hu0 : sOk u0)  (σ : St) (hc7 : ∀ (u1 : Int32) (σ : St), c7 (u1, σ) → GG κ 7 [(0, .ref (kad κ u0)), (1, .int u1)] [] σ) (hp : F_X0_blank_7 K c7 u0 u1 σ) : GG κ 7 [(0, .ref (kad κ u0)), (1, .int u1)] [] σ := by
  unfold F_X0_blank_7 at hp
  refine x_iload_n 1 C rfl (dX0_blank_p0 5 rfl) ?_
  refine x_bipush (v := 7) C (by decide) (dX0_blank_p0 6 rfl) ?_
  refine x_icmp_ge (tgt := 51) C (dX0_blank_p0 7 rfl) (by decide) (fun hc => ?_) (fun hc => ?_)
  · have hp := hp.1 hc
    exact hret _ _ _ (dX0_blank_p0 31 rfl) hp
  · have hp := hp.2 hc
    refine x_iconst (v := 0) C (by decide) (dX0_blank_p0 8 rfl) ?_
    refine x_istore_n (loc' := [(2, .int 0), (0, .ref (kad κ u0)), (1, .int u1)]) C rfl (by decide) rfl (dX0_blank_p0 9 rfl) ?_
    refine x_loc (loc' := [(0, .ref (kad κ u0)), (1, .int u1), (2, .int 0)]) [1, 2, 0] rfl ?_
    exact LpE_GG (S := (Int32 × St)) (F := fun c s => F_X0_blank_15 K c7 c u0 u1 s.1 s.2) (W := fun s => GG κ 15 [(0, .ref (kad κ u0)), (1, .int u1), (2, .int s.1)] [] s.2) (fun c s hcc hp => F_X0_blank_15_w C hret u0 u1 s.1 hu0 s.2 hc7 (fun u2 σ h => hcc (u2, σ) h) hp) hp
def P_X0_blank (p0 : Nat) (σ : St) (K : St → Prop) : Prop := ∀ s1 : St, s1 = wI σ p0 0 0 → (LpE (fun c s => F_X0_blank_7 K  c p0 s.1 s.2) (0, s1))
set_option maxHeartbeats 4000000 in
set_option maxRecDepth 100000 in
theorem m_X0_blank (l : Launch) (ad : Nat → Nat) (D : va_G) (ca : Nat → ClassId) (had : adOk ad) (p0 : Nat) (hp0 : sOk p0) (σ : St) (K : St → Prop) (hp : P_X0_blank p0 σ K) : CtV l ad D ca yX0_blank cX0_blank 3 0 [.ref (ad p0)] σ K := CtV_of (av := fun ad => [.ref (ad p0)]) (by decide +kernel) had (Nat.le_of_ble_eq_true rfl) (fun κ C hret => by
  have C : Ok κ RX0 cX0_blank 3 0 := C
  show GG κ 0 [(0, .ref (kad κ p0))] [] σ
  unfold P_X0_blank at hp
  refine x_aload_n 0 C rfl (dX0_blank_p0 0 rfl) ?_
  refine x_iconst (v := 0) C (by decide) (dX0_blank_p0 1 rfl) ?_
  refine qX0_0 C (s_kd hp0) (s_lt hp0) tw_49 (dX0_blank_p0 2 rfl) ?_
  refine x_nmS (fun s1 es1 => ?_)
  have hp := hp s1 es1
  refine x_iconst (v := 0) C (by decide) (dX0_blank_p0 3 rfl) ?_
  refine x_istore_n (loc' := [(1, .int 0), (0, .ref (kad κ p0))]) C rfl (by decide) rfl (dX0_blank_p0 4 rfl) ?_
  refine x_loc (loc' := [(0, .ref (kad κ p0)), (1, .int 0)]) [1, 0] rfl ?_
  exact LpE_GG (S := (Int32 × St)) (F := fun c s => F_X0_blank_7 K  c p0 s.1 s.2) (W := fun s => GG κ 7 [(0, .ref (kad κ p0)), (1, .int s.1)] [] s.2) (fun c s hcc hp => F_X0_blank_7_w C hret p0 s.1 hp0 s.2  (fun u1 σ h => hcc (u1, σ) h) hp) hp)
def P_X0_hasWord (p0 : Nat) (p1 : Int32) (σ : St) (K : Int32 → St → Prop) : Prop := (p1 < 1 → (K 0 σ)) ∧ (¬ (p1 < 1) → (((σ.1 p0 0) < p1 → (K 0 σ)) ∧ (¬ ((σ.1 p0 0) < p1) → (K 1 σ))))
set_option maxHeartbeats 4000000 in
set_option maxRecDepth 100000 in
theorem m_X0_hasWord (l : Launch) (ad : Nat → Nat) (D : va_G) (ca : Nat → ClassId) (had : adOk ad) (p0 : Nat) (p1 : Int32) (hp0 : sOk p0) (σ : St) (K : Int32 → St → Prop) (hp : P_X0_hasWord p0 p1 σ K) : CtI l ad D ca yX0_hasWord cX0_hasWord 2 .boolean 0 [.ref (ad p0), .int p1] σ K := CtI_of (av := fun ad => [.ref (ad p0), .int p1]) (by decide +kernel) had (Nat.le_of_ble_eq_true rfl) (fun κ C hret => by
  have C : Ok κ RX0 cX0_hasWord 2 0 := C
  show GG κ 0 [(0, .ref (kad κ p0)), (1, .int p1)] [] σ
  unfold P_X0_hasWord at hp
  refine x_iload_n 1 C rfl (dX0_hasWord_p0 0 rfl) ?_
  refine x_iconst (v := 1) C (by decide) (dX0_hasWord_p0 1 rfl) ?_
  refine x_icmp_lt (tgt := 17) C (dX0_hasWord_p0 2 rfl) (by decide) (fun hc => ?_) (fun hc => ?_)
  · have hp := hp.1 hc
    refine x_iconst (v := 0) C (by decide) (dX0_hasWord_p0 9 rfl) ?_
    exact hret _ _ _ _ (dX0_hasWord_p0 10 rfl) (nar_z isB0) hp
  · have hp := hp.2 hc
    refine x_iload_n 1 C rfl (dX0_hasWord_p0 3 rfl) ?_
    refine x_aload_n 0 C rfl (dX0_hasWord_p0 4 rfl) ?_
    refine gX0_0 C (s_kd hp0) (s_lt hp0) tw_49 (dX0_hasWord_p0 5 rfl) ?_
    refine x_icmp_gt (tgt := 17) C (dX0_hasWord_p0 6 rfl) (by decide) (fun hc => ?_) (fun hc => ?_)
    · have hp := hp.1 hc
      refine x_iconst (v := 0) C (by decide) (dX0_hasWord_p0 9 rfl) ?_
      exact hret _ _ _ _ (dX0_hasWord_p0 10 rfl) (nar_z isB0) hp
    · have hp := hp.2 hc
      refine x_iconst (v := 1) C (by decide) (dX0_hasWord_p0 7 rfl) ?_
      refine x_goto (tgt := 18) C (dX0_hasWord_p0 8 rfl) (by decide) ?_
      exact hret _ _ _ _ (dX0_hasWord_p0 10 rfl) (nar_z isB1) hp)
def P_X0_hasArc (p0 : Nat) (p1 : Int32) (p2 : Int32) (σ : St) (K : Int32 → St → Prop) : Prop := P_X0_hasWord p0 p2 σ (fun r2 s1 => (r2 = 0 → (K 0 s1)) ∧ (¬ (r2 = 0) → ((p1 < 0 → (K 0 s1)) ∧ (¬ (p1 < 0) → (((s1.1 p0 0) < p1 → (K 0 s1)) ∧ (¬ ((s1.1 p0 0) < p1) → ((p1 = p2 → (K 0 s1)) ∧ (¬ (p1 = p2) → (K 1 s1)))))))))
set_option maxHeartbeats 4000000 in
set_option maxRecDepth 100000 in
theorem m_X0_hasArc (l : Launch) (ad : Nat → Nat) (D : va_G) (ca : Nat → ClassId) (had : adOk ad) (p0 : Nat) (p1 : Int32) (p2 : Int32) (hp0 : sOk p0) (σ : St) (K : Int32 → St → Prop) (hp : P_X0_hasArc p0 p1 p2 σ K) : CtI l ad D ca yX0_hasArc cX0_hasArc 3 .boolean 1 [.ref (ad p0), .int p1, .int p2] σ K := CtI_of (av := fun ad => [.ref (ad p0), .int p1, .int p2]) (by decide +kernel) had (Nat.le_of_ble_eq_true rfl) (fun κ C hret => by
  have C : Ok κ RX0 cX0_hasArc 3 1 := C
  show GG κ 0 [(0, .ref (kad κ p0)), (1, .int p1), (2, .int p2)] [] σ
  unfold P_X0_hasArc at hp
  refine x_aload_n 0 C rfl (dX0_hasArc_p0 0 rfl) ?_
  refine x_iload_n 2 C rfl (dX0_hasArc_p0 1 rfl) ?_
  refine x_cvI (As := [.int p2]) (st := []) C LRX0_30 (ci := 0) rfl (s_kd hp0) (by decide) (s_lt hp0) (m_X0_hasWord (kL κ) (kad κ) (kD κ) (kca κ) C.ado p0 p2 hp0 σ _ hp) rfl (by decide) rfl (by decide) (dX0_hasArc_p0 2 rfl) (fun r2 s1 hp => ?_)
  refine x_if_eq (tgt := 29) C (dX0_hasArc_p0 3 rfl) (by decide) (fun hc => ?_) (fun hc => ?_)
  · have hp := hp.1 hc
    refine x_iconst (v := 0) C (by decide) (dX0_hasArc_p0 15 rfl) ?_
    exact hret _ _ _ _ (dX0_hasArc_p0 16 rfl) (nar_z isB0) hp
  · have hp := hp.2 hc
    refine x_iload_n 1 C rfl (dX0_hasArc_p0 4 rfl) ?_
    refine x_if_lt (tgt := 29) C (dX0_hasArc_p0 5 rfl) (by decide) (fun hc => ?_) (fun hc => ?_)
    · have hp := hp.1 hc
      refine x_iconst (v := 0) C (by decide) (dX0_hasArc_p0 15 rfl) ?_
      exact hret _ _ _ _ (dX0_hasArc_p0 16 rfl) (nar_z isB0) hp
    · have hp := hp.2 hc
      refine x_iload_n 1 C rfl (dX0_hasArc_p0 6 rfl) ?_
      refine x_aload_n 0 C rfl (dX0_hasArc_p0 7 rfl) ?_
      refine gX0_0 C (s_kd hp0) (s_lt hp0) tw_49 (dX0_hasArc_p0 8 rfl) ?_
      refine x_icmp_gt (tgt := 29) C (dX0_hasArc_p0 9 rfl) (by decide) (fun hc => ?_) (fun hc => ?_)
      · have hp := hp.1 hc
        refine x_iconst (v := 0) C (by decide) (dX0_hasArc_p0 15 rfl) ?_
        exact hret _ _ _ _ (dX0_hasArc_p0 16 rfl) (nar_z isB0) hp
      · have hp := hp.2 hc
        refine x_iload_n 1 C rfl (dX0_hasArc_p0 10 rfl) ?_
        refine x_iload_n 2 C rfl (dX0_hasArc_p0 11 rfl) ?_
        refine x_icmp_eq (tgt := 29) C (dX0_hasArc_p0 12 rfl) (by decide) (fun hc => ?_) (fun hc => ?_)
        · have hp := hp.1 hc
          refine x_iconst (v := 0) C (by decide) (dX0_hasArc_p0 15 rfl) ?_
          exact hret _ _ _ _ (dX0_hasArc_p0 16 rfl) (nar_z isB0) hp
        · have hp := hp.2 hc
          refine x_iconst (v := 1) C (by decide) (dX0_hasArc_p0 13 rfl) ?_
          refine x_goto (tgt := 30) C (dX0_hasArc_p0 14 rfl) (by decide) ?_
          exact hret _ _ _ _ (dX0_hasArc_p0 16 rfl) (nar_z isB1) hp)
def J_X0_headChoices_45 (K : Int32 → St → Prop) (c7 : (Int32 × Int32 × Int32 × St) → Prop) (u0 : Nat) (u1 : Int32) (u2 : Int32) (u3 : Int32) (u4 : Int32) (σ : St) : Prop := (u4 = u1 → ∀ v3 : Int32, v3 = u4 + 1 → c7 (u2, u3, v3, σ)) ∧ (¬ (u4 = u1) → vp_in u4 7 ∧ vp_in u1 7 ∧ (((σ.1 ((u0 + 11) + 1 + ix u4) (ix u1)) = 0 → (∀ v7 : Int32, v7 = (u2 ||| (1 <<< (u4 &&& 31))) → ∀ v8 : Int32, v8 = u4 + 1 → c7 (v7, u3, v8, σ))) ∧ (¬ ((σ.1 ((u0 + 11) + 1 + ix u4) (ix u1)) = 0) → ∀ v6 : Int32, v6 = u4 + 1 → c7 (u2, u3, v6, σ))))
set_option maxHeartbeats 4000000 in
set_option maxRecDepth 100000 in
theorem J_X0_headChoices_45_w {κ : Kap} {K : Int32 → St → Prop} {c7 : (Int32 × Int32 × Int32 × St) → Prop} (C : Ok κ RX0 cX0_headChoices 5 1) (hret : RetI κ cX0_headChoices .int K) (u0 : Nat) (u1 : Int32) (u2 : Int32) (u3 : Int32) (u4 : Int32) (hu0 : sOk u0)     (σ : St) (hc7 : ∀ (u2 : Int32) (u3 : Int32) (u4 : Int32) (σ : St), c7 (u2, u3, u4, σ) → GG κ 7 [(0, .ref (kad κ u0)), (1, .int u1), (2, .int u2), (3, .int u3), (4, .int u4)] [] σ) (hp : J_X0_headChoices_45 K c7 u0 u1 u2 u3 u4 σ) : GG κ 45 [(0, .ref (kad κ u0)), (1, .int u1), (2, .int u2), (3, .int u3), (4, .int u4)] [] σ := by
  unfold J_X0_headChoices_45 at hp
  refine x_iload 4 C rfl (dX0_headChoices_p0 28 rfl) ?_
  refine x_iload_n 1 C rfl (dX0_headChoices_p0 29 rfl) ?_
  refine x_icmp_eq (tgt := 70) C (dX0_headChoices_p0 30 rfl) (by decide) (fun hc => ?_) (fun hc => ?_)
  · have hp := hp.1 hc
    obtain ⟨v3, ev3⟩ : ∃ z : Int32, z = u4 + 1 := ⟨_, rfl⟩
    have hp := hp v3 ev3
    refine x_iinc (v := v3) (loc' := [(4, .int v3), (0, .ref (kad κ u0)), (1, .int u1), (2, .int u2), (3, .int u3)]) 4 C rfl (by rw [ev3]; rfl) (by decide) rfl (dX0_headChoices_p0 44 rfl) ?_
    refine x_goto (tgt := 7) C (dX0_headChoices_p0 45 rfl) (by decide) ?_
    refine x_loc (loc' := [(0, .ref (kad κ u0)), (1, .int u1), (2, .int u2), (3, .int u3), (4, .int v3)]) [1, 2, 3, 4, 0] rfl ?_
    exact hc7 u2 u3 v3 σ hp
  · have hp := hp.2 hc
    refine x_aload_n 0 C rfl (dX0_headChoices_p0 31 rfl) ?_
    refine gX0_4 (b := u0 + 11) C (s_kd hu0) (s_lt hu0) (s_m4 hu0) tw_60 (dX0_headChoices_p0 32 rfl) ?_
    refine x_iload 4 C rfl (dX0_headChoices_p0 33 rfl) ?_
    obtain ⟨h4, hp⟩ := hp
    refine x_aald (c := 13) (b := (u0 + 11) + 1 + ix u4) C (s_kd4 hu0) (by decide) rfl rfl (s_lt4 hu0) (vp_ln (s_ln4 hu0) h4) (row_mr13 (s_kd4 hu0) (s_lt4 hu0) (vp_ln (s_ln4 hu0) h4)) (dX0_headChoices_p0 34 rfl) ?_
    refine x_iload_n 1 C rfl (dX0_headChoices_p0 35 rfl) ?_
    obtain ⟨h5, hp⟩ := hp
    refine x_iald C (row_kd13 (s_kd4 hu0) (s_lt4 hu0) (vp_ln (s_ln4 hu0) h4)) (row_lt13 (s_kd4 hu0) (s_lt4 hu0) (vp_ln (s_ln4 hu0) h4)) (vp_ln ((row_ln13 (s_kd4 hu0) (s_lt4 hu0) (vp_ln (s_ln4 hu0) h4)).trans (s_iln4 hu0)) h5) (dX0_headChoices_p0 36 rfl) ?_
    refine x_if_ne (tgt := 70) C (dX0_headChoices_p0 37 rfl) (by decide) (fun hc => ?_) (fun hc => ?_)
    · have hp := hp.2 hc
      obtain ⟨v6, ev6⟩ : ∃ z : Int32, z = u4 + 1 := ⟨_, rfl⟩
      have hp := hp v6 ev6
      refine x_iinc (v := v6) (loc' := [(4, .int v6), (0, .ref (kad κ u0)), (1, .int u1), (2, .int u2), (3, .int u3)]) 4 C rfl (by rw [ev6]; rfl) (by decide) rfl (dX0_headChoices_p0 44 rfl) ?_
      refine x_goto (tgt := 7) C (dX0_headChoices_p0 45 rfl) (by decide) ?_
      refine x_loc (loc' := [(0, .ref (kad κ u0)), (1, .int u1), (2, .int u2), (3, .int u3), (4, .int v6)]) [1, 2, 3, 4, 0] rfl ?_
      exact hc7 u2 u3 v6 σ hp
    · have hp := hp.1 hc
      refine x_iload_n 2 C rfl (dX0_headChoices_p0 38 rfl) ?_
      refine x_iconst (v := 1) C (by decide) (dX0_headChoices_p0 39 rfl) ?_
      refine x_iload 4 C rfl (dX0_headChoices_p0 40 rfl) ?_
      refine x_ishl C (dX0_headChoices_p0 41 rfl) ?_
      refine x_ior C (dX0_headChoices_p0 42 rfl) ?_
      refine x_topI (fun v7 ev7 => ?_)
      have hp := hp v7 ev7
      refine x_istore_n (loc' := [(2, .int v7), (0, .ref (kad κ u0)), (1, .int u1), (3, .int u3), (4, .int u4)]) C rfl (by decide) rfl (dX0_headChoices_p0 43 rfl) ?_
      obtain ⟨v8, ev8⟩ : ∃ z : Int32, z = u4 + 1 := ⟨_, rfl⟩
      have hp := hp v8 ev8
      refine x_iinc (v := v8) (loc' := [(4, .int v8), (2, .int v7), (0, .ref (kad κ u0)), (1, .int u1), (3, .int u3)]) 4 C rfl (by rw [ev8]; rfl) (by decide) rfl (dX0_headChoices_p0 44 rfl) ?_
      refine x_goto (tgt := 7) C (dX0_headChoices_p0 45 rfl) (by decide) ?_
      refine x_loc (loc' := [(0, .ref (kad κ u0)), (1, .int u1), (2, .int v7), (3, .int u3), (4, .int v8)]) [2, 3, 1, 4, 0] rfl ?_
      exact hc7 v7 u3 v8 σ hp
def F_X0_headChoices_7 (K : Int32 → St → Prop) (c7 : (Int32 × Int32 × Int32 × St) → Prop) (u0 : Nat) (u1 : Int32) (u2 : Int32) (u3 : Int32) (u4 : Int32) (σ : St) : Prop := ((σ.1 u0 0) < u4 → ((u3 = 0 → (K u2 σ)) ∧ (¬ (u3 = 0) → P_J6_bitCount_0f7a4 u3 σ (fun r2 s1 => (r2 = 1 → (K u3 s1)) ∧ (¬ (r2 = 1) → (K 0 s1)))))) ∧ (¬ ((σ.1 u0 0) < u4) → ((u4 = u1 → (J_X0_headChoices_45 K c7 u0 u1 u2 u3 u4 σ)) ∧ (¬ (u4 = u1) → vp_in u4 7 ∧ vp_in u1 7 ∧ (((σ.1 ((u0 + 11) + 1 + ix u4) (ix u1)) = 1 → (∀ v11 : Int32, v11 = (u3 ||| (1 <<< (u4 &&& 31))) → ∀ v12 : Int32, v12 = u4 + 1 → c7 (u2, v11, v12, σ))) ∧ (¬ ((σ.1 ((u0 + 11) + 1 + ix u4) (ix u1)) = 1) → (J_X0_headChoices_45 K c7 u0 u1 u2 u3 u4 σ))))))
set_option maxHeartbeats 4000000 in
set_option maxRecDepth 100000 in
theorem F_X0_headChoices_7_w {κ : Kap} {K : Int32 → St → Prop} {c7 : (Int32 × Int32 × Int32 × St) → Prop} (C : Ok κ RX0 cX0_headChoices 5 1) (hret : RetI κ cX0_headChoices .int K) (u0 : Nat) (u1 : Int32) (u2 : Int32) (u3 : Int32) (u4 : Int32) (hu0 : sOk u0)     (σ : St) (hc7 : ∀ (u2 : Int32) (u3 : Int32) (u4 : Int32) (σ : St), c7 (u2, u3, u4, σ) → GG κ 7 [(0, .ref (kad κ u0)), (1, .int u1), (2, .int u2), (3, .int u3), (4, .int u4)] [] σ) (hp : F_X0_headChoices_7 K c7 u0 u1 u2 u3 u4 σ) : GG κ 7 [(0, .ref (kad κ u0)), (1, .int u1), (2, .int u2), (3, .int u3), (4, .int u4)] [] σ := by
  unfold F_X0_headChoices_7 at hp
  refine x_iload 4 C rfl (dX0_headChoices_p0 6 rfl) ?_
  refine x_aload_n 0 C rfl (dX0_headChoices_p0 7 rfl) ?_
  refine gX0_0 C (s_kd hu0) (s_lt hu0) tw_49 (dX0_headChoices_p0 8 rfl) ?_
  refine x_icmp_gt (tgt := 76) C (dX0_headChoices_p0 9 rfl) (by decide) (fun hc => ?_) (fun hc => ?_)
  · have hp := hp.1 hc
    refine x_iload_n 3 C rfl (dX0_headChoices_p0 46 rfl) ?_
    refine x_if_ne (tgt := 82) C (dX0_headChoices_p0 47 rfl) (by decide) (fun hc => ?_) (fun hc => ?_)
    · have hp := hp.2 hc
      refine x_iload_n 3 C rfl (dX0_headChoices_p0 50 rfl) ?_
      refine x_csI (As := [.int u3]) (st := []) C LRX0_34 (m_J6_bitCount_0f7a4 (kL κ) (kad κ) (kD κ) (kca κ) C.ado u3  σ _ hp) rfl (by decide) rfl (by decide) (dX0_headChoices_p0 51 rfl) (fun r2 s1 hp => ?_)
      refine x_iconst (v := 1) C (by decide) (dX0_headChoices_p0 52 rfl) ?_
      refine x_icmp_ne (tgt := 94) C (dX0_headChoices_p0 53 rfl) (by decide) (fun hc => ?_) (fun hc => ?_)
      · have hp := hp.2 hc
        refine x_iconst (v := 0) C (by decide) (dX0_headChoices_p0 56 rfl) ?_
        exact hret _ _ _ _ (dX0_headChoices_p0 57 rfl) (nar_i _) hp
      · have hp := hp.1 hc
        refine x_iload_n 3 C rfl (dX0_headChoices_p0 54 rfl) ?_
        refine x_goto (tgt := 95) C (dX0_headChoices_p0 55 rfl) (by decide) ?_
        exact hret _ _ _ _ (dX0_headChoices_p0 57 rfl) (nar_i _) hp
    · have hp := hp.1 hc
      refine x_iload_n 2 C rfl (dX0_headChoices_p0 48 rfl) ?_
      exact hret _ _ _ _ (dX0_headChoices_p0 49 rfl) (nar_i _) hp
  · have hp := hp.2 hc
    refine x_iload 4 C rfl (dX0_headChoices_p0 10 rfl) ?_
    refine x_iload_n 1 C rfl (dX0_headChoices_p0 11 rfl) ?_
    refine x_icmp_eq (tgt := 45) C (dX0_headChoices_p0 12 rfl) (by decide) (fun hc => ?_) (fun hc => ?_)
    · have hp := hp.1 hc
      exact J_X0_headChoices_45_w C hret u0 u1 u2 u3 u4 hu0 σ hc7 hp
    · have hp := hp.2 hc
      refine x_aload_n 0 C rfl (dX0_headChoices_p0 13 rfl) ?_
      refine gX0_4 (b := u0 + 11) C (s_kd hu0) (s_lt hu0) (s_m4 hu0) tw_60 (dX0_headChoices_p0 14 rfl) ?_
      refine x_iload 4 C rfl (dX0_headChoices_p0 15 rfl) ?_
      obtain ⟨h9, hp⟩ := hp
      refine x_aald (c := 13) (b := (u0 + 11) + 1 + ix u4) C (s_kd4 hu0) (by decide) rfl rfl (s_lt4 hu0) (vp_ln (s_ln4 hu0) h9) (row_mr13 (s_kd4 hu0) (s_lt4 hu0) (vp_ln (s_ln4 hu0) h9)) (dX0_headChoices_p0 16 rfl) ?_
      refine x_iload_n 1 C rfl (dX0_headChoices_p0 17 rfl) ?_
      obtain ⟨h10, hp⟩ := hp
      refine x_iald C (row_kd13 (s_kd4 hu0) (s_lt4 hu0) (vp_ln (s_ln4 hu0) h9)) (row_lt13 (s_kd4 hu0) (s_lt4 hu0) (vp_ln (s_ln4 hu0) h9)) (vp_ln ((row_ln13 (s_kd4 hu0) (s_lt4 hu0) (vp_ln (s_ln4 hu0) h9)).trans (s_iln4 hu0)) h10) (dX0_headChoices_p0 18 rfl) ?_
      refine x_iconst (v := 1) C (by decide) (dX0_headChoices_p0 19 rfl) ?_
      refine x_icmp_ne (tgt := 45) C (dX0_headChoices_p0 20 rfl) (by decide) (fun hc => ?_) (fun hc => ?_)
      · have hp := hp.2 hc
        exact J_X0_headChoices_45_w C hret u0 u1 u2 u3 u4 hu0 σ hc7 hp
      · have hp := hp.1 hc
        refine x_iload_n 3 C rfl (dX0_headChoices_p0 21 rfl) ?_
        refine x_iconst (v := 1) C (by decide) (dX0_headChoices_p0 22 rfl) ?_
        refine x_iload 4 C rfl (dX0_headChoices_p0 23 rfl) ?_
        refine x_ishl C (dX0_headChoices_p0 24 rfl) ?_
        refine x_ior C (dX0_headChoices_p0 25 rfl) ?_
        refine x_topI (fun v11 ev11 => ?_)
        have hp := hp v11 ev11
        refine x_istore_n (loc' := [(3, .int v11), (0, .ref (kad κ u0)), (1, .int u1), (2, .int u2), (4, .int u4)]) C rfl (by decide) rfl (dX0_headChoices_p0 26 rfl) ?_
        refine x_goto (tgt := 70) C (dX0_headChoices_p0 27 rfl) (by decide) ?_
        obtain ⟨v12, ev12⟩ : ∃ z : Int32, z = u4 + 1 := ⟨_, rfl⟩
        have hp := hp v12 ev12
        refine x_iinc (v := v12) (loc' := [(4, .int v12), (3, .int v11), (0, .ref (kad κ u0)), (1, .int u1), (2, .int u2)]) 4 C rfl (by rw [ev12]; rfl) (by decide) rfl (dX0_headChoices_p0 44 rfl) ?_
        refine x_goto (tgt := 7) C (dX0_headChoices_p0 45 rfl) (by decide) ?_
        refine x_loc (loc' := [(0, .ref (kad κ u0)), (1, .int u1), (2, .int u2), (3, .int v11), (4, .int v12)]) [2, 3, 4, 1, 0] rfl ?_
        exact hc7 u2 v11 v12 σ hp
def P_X0_headChoices (p0 : Nat) (p1 : Int32) (σ : St) (K : Int32 → St → Prop) : Prop := LpE (fun c s => F_X0_headChoices_7 K  c p0 p1 s.1 s.2.1 s.2.2.1 s.2.2.2) (0, 0, 0, σ)
set_option maxHeartbeats 4000000 in
set_option maxRecDepth 100000 in
theorem m_X0_headChoices (l : Launch) (ad : Nat → Nat) (D : va_G) (ca : Nat → ClassId) (had : adOk ad) (p0 : Nat) (p1 : Int32) (hp0 : sOk p0) (σ : St) (K : Int32 → St → Prop) (hp : P_X0_headChoices p0 p1 σ K) : CtI l ad D ca yX0_headChoices cX0_headChoices 5 .int 1 [.ref (ad p0), .int p1] σ K := CtI_of (av := fun ad => [.ref (ad p0), .int p1]) (by decide +kernel) had (Nat.le_of_ble_eq_true rfl) (fun κ C hret => by
  have C : Ok κ RX0 cX0_headChoices 5 1 := C
  show GG κ 0 [(0, .ref (kad κ p0)), (1, .int p1)] [] σ
  unfold P_X0_headChoices at hp
  refine x_iconst (v := 0) C (by decide) (dX0_headChoices_p0 0 rfl) ?_
  refine x_istore_n (loc' := [(2, .int 0), (0, .ref (kad κ p0)), (1, .int p1)]) C rfl (by decide) rfl (dX0_headChoices_p0 1 rfl) ?_
  refine x_iconst (v := 0) C (by decide) (dX0_headChoices_p0 2 rfl) ?_
  refine x_istore_n (loc' := [(3, .int 0), (2, .int 0), (0, .ref (kad κ p0)), (1, .int p1)]) C rfl (by decide) rfl (dX0_headChoices_p0 3 rfl) ?_
  refine x_iconst (v := 0) C (by decide) (dX0_headChoices_p0 4 rfl) ?_
  refine x_istore (loc' := [(4, .int 0), (3, .int 0), (2, .int 0), (0, .ref (kad κ p0)), (1, .int p1)]) C (by decide) rfl (dX0_headChoices_p0 5 rfl) ?_
  refine x_loc (loc' := [(0, .ref (kad κ p0)), (1, .int p1), (2, .int 0), (3, .int 0), (4, .int 0)]) [3, 4, 2, 1, 0] rfl ?_
  exact LpE_GG (S := (Int32 × Int32 × Int32 × St)) (F := fun c s => F_X0_headChoices_7 K  c p0 p1 s.1 s.2.1 s.2.2.1 s.2.2.2) (W := fun s => GG κ 7 [(0, .ref (kad κ p0)), (1, .int p1), (2, .int s.1), (3, .int s.2.1), (4, .int s.2.2.1)] [] s.2.2.2) (fun c s hcc hp => F_X0_headChoices_7_w C hret p0 p1 s.1 s.2.1 s.2.2.1 hp0 s.2.2.2  (fun u2 u3 u4 σ h => hcc (u2, u3, u4, σ) h) hp) hp)
