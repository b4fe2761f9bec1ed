def P_J6_bitCount_0f7a4 (p0 : Int32) (σ : St) (K : Int32 → St → Prop) : Prop := ∀ v1 : Int32, v1 = (p0 - ((ushr p0 1) &&& 1431655765)) → (∀ v2 : Int32, v2 = ((v1 &&& 858993459) + ((ushr v1 2) &&& 858993459)) → (∀ v3 : Int32, v3 = ((v2 + (ushr v2 4)) &&& 252645135) → (∀ v4 : Int32, v4 = (v3 + (ushr v3 8)) → (∀ v5 : Int32, v5 = (v4 + (ushr v4 16)) → (K (v5 &&& 63) σ)))))
set_option maxHeartbeats 4000000 in
set_option maxRecDepth 100000 in
theorem m_J6_bitCount_0f7a4 (l : Launch) (ad : Nat → Nat) (D : va_G) (ca : Nat → ClassId) (had : adOk ad) (p0 : Int32)  (σ : St) (K : Int32 → St → Prop) (hp : P_J6_bitCount_0f7a4 p0 σ K) : CtI l ad D ca yJ6_bitCount_0f7a4 cJ6_bitCount_0f7a4 1 .int 0 [.int p0] σ K := CtI_of (av := fun ad => [.int p0]) (plainFor_of_name (by decide)) had (Nat.le_of_ble_eq_true rfl) (fun κ C hret => by
  have C : Ok κ RJ6 cJ6_bitCount_0f7a4 1 0 := C
  show GG κ 0 [(0, .int p0)] [] σ
  unfold P_J6_bitCount_0f7a4 at hp
  refine x_iload_n 0 C rfl (dJ6_bitCount_0f7a4_p0 0 rfl) ?_
  refine x_iload_n 0 C rfl (dJ6_bitCount_0f7a4_p0 1 rfl) ?_
  refine x_iconst (v := 1) C (by decide) (dJ6_bitCount_0f7a4_p0 2 rfl) ?_
  refine x_iushr C (dJ6_bitCount_0f7a4_p0 3 rfl) ?_
  refine x_ldcw C tw_384 (dJ6_bitCount_0f7a4_p0 4 rfl) ?_
  refine x_iand C (dJ6_bitCount_0f7a4_p0 5 rfl) ?_
  refine x_isub C (dJ6_bitCount_0f7a4_p0 6 rfl) ?_
  refine x_topI (fun v1 ev1 => ?_)
  have hp := hp v1 ev1
  refine x_istore_n (loc' := [(0, .int v1)]) C rfl (by decide) rfl (dJ6_bitCount_0f7a4_p0 7 rfl) ?_
  refine x_iload_n 0 C rfl (dJ6_bitCount_0f7a4_p0 8 rfl) ?_
  refine x_ldcw C tw_385 (dJ6_bitCount_0f7a4_p0 9 rfl) ?_
  refine x_iand C (dJ6_bitCount_0f7a4_p0 10 rfl) ?_
  refine x_iload_n 0 C rfl (dJ6_bitCount_0f7a4_p0 11 rfl) ?_
  refine x_iconst (v := 2) C (by decide) (dJ6_bitCount_0f7a4_p0 12 rfl) ?_
  refine x_iushr C (dJ6_bitCount_0f7a4_p0 13 rfl) ?_
  refine x_ldcw C tw_385 (dJ6_bitCount_0f7a4_p0 14 rfl) ?_
  refine x_iand C (dJ6_bitCount_0f7a4_p0 15 rfl) ?_
  refine x_iadd C (dJ6_bitCount_0f7a4_p0 16 rfl) ?_
  refine x_topI (fun v2 ev2 => ?_)
  have hp := hp v2 ev2
  refine x_istore_n (loc' := [(0, .int v2)]) C rfl (by decide) rfl (dJ6_bitCount_0f7a4_p0 17 rfl) ?_
  refine x_iload_n 0 C rfl (dJ6_bitCount_0f7a4_p0 18 rfl) ?_
  refine x_iload_n 0 C rfl (dJ6_bitCount_0f7a4_p0 19 rfl) ?_
  refine x_iconst (v := 4) C (by decide) (dJ6_bitCount_0f7a4_p0 20 rfl) ?_
  refine x_iushr C (dJ6_bitCount_0f7a4_p0 21 rfl) ?_
  refine x_iadd C (dJ6_bitCount_0f7a4_p0 22 rfl) ?_
  refine x_ldcw C tw_386 (dJ6_bitCount_0f7a4_p0 23 rfl) ?_
  refine x_iand C (dJ6_bitCount_0f7a4_p0 24 rfl) ?_
  refine x_topI (fun v3 ev3 => ?_)
  have hp := hp v3 ev3
  refine x_istore_n (loc' := [(0, .int v3)]) C rfl (by decide) rfl (dJ6_bitCount_0f7a4_p0 25 rfl) ?_
  refine x_iload_n 0 C rfl (dJ6_bitCount_0f7a4_p0 26 rfl) ?_
  refine x_iload_n 0 C rfl (dJ6_bitCount_0f7a4_p0 27 rfl) ?_
  refine x_bipush (v := 8) C (by decide) (dJ6_bitCount_0f7a4_p0 28 rfl) ?_
  refine x_iushr C (dJ6_bitCount_0f7a4_p0 29 rfl) ?_
  refine x_iadd C (dJ6_bitCount_0f7a4_p0 30 rfl) ?_
  refine x_topI (fun v4 ev4 => ?_)
  have hp := hp v4 ev4
  refine x_istore_n (loc' := [(0, .int v4)]) C rfl (by decide) rfl (dJ6_bitCount_0f7a4_p0 31 rfl) ?_
  refine x_iload_n 0 C rfl (dJ6_bitCount_0f7a4_p0 32 rfl) ?_
  refine x_iload_n 0 C rfl (dJ6_bitCount_0f7a4_p0 33 rfl) ?_
  refine x_bipush (v := 16) C (by decide) (dJ6_bitCount_0f7a4_p0 34 rfl) ?_
  refine x_iushr C (dJ6_bitCount_0f7a4_p0 35 rfl) ?_
  refine x_iadd C (dJ6_bitCount_0f7a4_p0 36 rfl) ?_
  refine x_topI (fun v5 ev5 => ?_)
  have hp := hp v5 ev5
  refine x_istore_n (loc' := [(0, .int v5)]) C rfl (by decide) rfl (dJ6_bitCount_0f7a4_p0 37 rfl) ?_
  refine x_iload_n 0 C rfl (dJ6_bitCount_0f7a4_p0 38 rfl) ?_
  refine x_bipush (v := 63) C (by decide) (dJ6_bitCount_0f7a4_p0 39 rfl) ?_
  refine x_iand C (dJ6_bitCount_0f7a4_p0 40 rfl) ?_
  exact hret _ _ _ _ (dJ6_bitCount_0f7a4_p0 41 rfl) (nar_i _) hp)
def P_J9_floorDiv_f86c9 (p0 : Int64) (p2 : Int64) (σ : St) (K : Int64 → St → Prop) : Prop := ¬ p2 = 0 ∧ (∀ v2 : Int64, v2 = (p0 / p2) → ((0 ≤ (p0 ^^^ p2) → (K v2 σ)) ∧ (¬ (0 ≤ (p0 ^^^ p2)) → (((v2 * p2) = p0 → (K v2 σ)) ∧ (¬ ((v2 * p2) = p0) → (K (v2 - 1) σ))))))
set_option maxHeartbeats 4000000 in
set_option maxRecDepth 100000 in
theorem m_J9_floorDiv_f86c9 (l : Launch) (ad : Nat → Nat) (D : va_G) (ca : Nat → ClassId) (had : adOk ad) (p0 : Int64) (p2 : Int64)  (σ : St) (K : Int64 → St → Prop) (hp : P_J9_floorDiv_f86c9 p0 p2 σ K) : CtL l ad D ca yJ9_floorDiv_f86c9 cJ9_floorDiv_f86c9 6 0 [.long p0, .long p2] σ K := CtL_of (av := fun ad => [.long p0, .long p2]) (by decide +kernel) had (Nat.le_of_ble_eq_true rfl) (fun κ C hret => by
  have C : Ok κ RJ9 cJ9_floorDiv_f86c9 6 0 := C
  show GG κ 0 [(0, .long p0), (2, .long p2)] [] σ
  unfold P_J9_floorDiv_f86c9 at hp
  refine x_lload_n 0 C rfl (dJ9_floorDiv_f86c9_p0 0 rfl) ?_
  refine x_lload_n 1 C rfl (dJ9_floorDiv_f86c9_p0 1 rfl) ?_
  obtain ⟨h1, hp⟩ := hp
  refine x_ldiv C h1 (dJ9_floorDiv_f86c9_p0 2 rfl) ?_
  refine x_topL (fun v2 ev2 => ?_)
  have hp := hp v2 ev2
  refine x_lstore (loc' := [(4, .long v2), (0, .long p0), (2, .long p2)]) C (by decide) rfl (dJ9_floorDiv_f86c9_p0 3 rfl) ?_
  refine x_lload_n 1 C rfl (dJ9_floorDiv_f86c9_p0 4 rfl) ?_
  refine x_lload_n 2 C rfl (dJ9_floorDiv_f86c9_p0 5 rfl) ?_
  refine x_lxor C (dJ9_floorDiv_f86c9_p0 6 rfl) ?_
  refine x_lconst (v := 0) C (by decide) (dJ9_floorDiv_f86c9_p0 7 rfl) ?_
  refine x_lcmp C (dJ9_floorDiv_f86c9_p0 8 rfl) ?_
  refine x_if_ge (tgt := 27) C (dJ9_floorDiv_f86c9_p0 9 rfl) (by decide) (fun hc => ?_) (fun hc => ?_)
  · have hp := hp.1 (lgc_ge.mp hc)
    refine x_lload 0 C rfl (dJ9_floorDiv_f86c9_p0 20 rfl) ?_
    exact hret _ _ _ _ (dJ9_floorDiv_f86c9_p0 21 rfl) hp
  · have hp := hp.2 (fun q => hc (lgc_ge.mpr q))
    refine x_lload 0 C rfl (dJ9_floorDiv_f86c9_p0 10 rfl) ?_
    refine x_lload_n 2 C rfl (dJ9_floorDiv_f86c9_p0 11 rfl) ?_
    refine x_lmul C (dJ9_floorDiv_f86c9_p0 12 rfl) ?_
    refine x_lload_n 1 C rfl (dJ9_floorDiv_f86c9_p0 13 rfl) ?_
    refine x_lcmp C (dJ9_floorDiv_f86c9_p0 14 rfl) ?_
    refine x_if_eq (tgt := 27) C (dJ9_floorDiv_f86c9_p0 15 rfl) (by decide) (fun hc => ?_) (fun hc => ?_)
    · have hp := hp.1 (lgc_eq.mp hc)
      refine x_lload 0 C rfl (dJ9_floorDiv_f86c9_p0 20 rfl) ?_
      exact hret _ _ _ _ (dJ9_floorDiv_f86c9_p0 21 rfl) hp
    · have hp := hp.2 (fun q => hc (lgc_eq.mpr q))
      refine x_lload 0 C rfl (dJ9_floorDiv_f86c9_p0 16 rfl) ?_
      refine x_lconst (v := 1) C (by decide) (dJ9_floorDiv_f86c9_p0 17 rfl) ?_
      refine x_lsub C (dJ9_floorDiv_f86c9_p0 18 rfl) ?_
      exact hret _ _ _ _ (dJ9_floorDiv_f86c9_p0 19 rfl) hp)
def P_J9_floorMod_f86c9 (p0 : Int64) (p2 : Int64) (σ : St) (K : Int64 → St → Prop) : Prop := ¬ p2 = 0 ∧ (∀ v2 : Int64, v2 = (p0 - p0 / p2 * p2) → ((0 ≤ (p0 ^^^ p2) → (K v2 σ)) ∧ (¬ (0 ≤ (p0 ^^^ p2)) → ((v2 = 0 → (K v2 σ)) ∧ (¬ (v2 = 0) → (K (v2 + p2) σ))))))
set_option maxHeartbeats 4000000 in
set_option maxRecDepth 100000 in
theorem m_J9_floorMod_f86c9 (l : Launch) (ad : Nat → Nat) (D : va_G) (ca : Nat → ClassId) (had : adOk ad) (p0 : Int64) (p2 : Int64)  (σ : St) (K : Int64 → St → Prop) (hp : P_J9_floorMod_f86c9 p0 p2 σ K) : CtL l ad D ca yJ9_floorMod_f86c9 cJ9_floorMod_f86c9 6 0 [.long p0, .long p2] σ K := CtL_of (av := fun ad => [.long p0, .long p2]) (by decide +kernel) had (Nat.le_of_ble_eq_true rfl) (fun κ C hret => by
  have C : Ok κ RJ9 cJ9_floorMod_f86c9 6 0 := C
  show GG κ 0 [(0, .long p0), (2, .long p2)] [] σ
  unfold P_J9_floorMod_f86c9 at hp
  refine x_lload_n 0 C rfl (dJ9_floorMod_f86c9_p0 0 rfl) ?_
  refine x_lload_n 1 C rfl (dJ9_floorMod_f86c9_p0 1 rfl) ?_
  obtain ⟨h1, hp⟩ := hp
  refine x_lrem C h1 (dJ9_floorMod_f86c9_p0 2 rfl) ?_
  refine x_topL (fun v2 ev2 => ?_)
  have hp := hp v2 ev2
  refine x_lstore (loc' := [(4, .long v2), (0, .long p0), (2, .long p2)]) C (by decide) rfl (dJ9_floorMod_f86c9_p0 3 rfl) ?_
  refine x_lload_n 1 C rfl (dJ9_floorMod_f86c9_p0 4 rfl) ?_
  refine x_lload_n 2 C rfl (dJ9_floorMod_f86c9_p0 5 rfl) ?_
  refine x_lxor C (dJ9_floorMod_f86c9_p0 6 rfl) ?_
  refine x_lconst (v := 0) C (by decide) (dJ9_floorMod_f86c9_p0 7 rfl) ?_
  refine x_lcmp C (dJ9_floorMod_f86c9_p0 8 rfl) ?_
  refine x_if_ge (tgt := 25) C (dJ9_floorMod_f86c9_p0 9 rfl) (by decide) (fun hc => ?_) (fun hc => ?_)
  · have hp := hp.1 (lgc_ge.mp hc)
    refine x_lload 0 C rfl (dJ9_floorMod_f86c9_p0 18 rfl) ?_
    exact hret _ _ _ _ (dJ9_floorMod_f86c9_p0 19 rfl) hp
  · have hp := hp.2 (fun q => hc (lgc_ge.mpr q))
    refine x_lload 0 C rfl (dJ9_floorMod_f86c9_p0 10 rfl) ?_
    refine x_lconst (v := 0) C (by decide) (dJ9_floorMod_f86c9_p0 11 rfl) ?_
    refine x_lcmp C (dJ9_floorMod_f86c9_p0 12 rfl) ?_
    refine x_if_eq (tgt := 25) C (dJ9_floorMod_f86c9_p0 13 rfl) (by decide) (fun hc => ?_) (fun hc => ?_)
    · have hp := hp.1 (lgc_eq.mp hc)
      refine x_lload 0 C rfl (dJ9_floorMod_f86c9_p0 18 rfl) ?_
      exact hret _ _ _ _ (dJ9_floorMod_f86c9_p0 19 rfl) hp
    · have hp := hp.2 (fun q => hc (lgc_eq.mpr q))
      refine x_lload 0 C rfl (dJ9_floorMod_f86c9_p0 14 rfl) ?_
      refine x_lload_n 2 C rfl (dJ9_floorMod_f86c9_p0 15 rfl) ?_
      refine x_ladd C (dJ9_floorMod_f86c9_p0 16 rfl) ?_
      exact hret _ _ _ _ (dJ9_floorMod_f86c9_p0 17 rfl) hp)
def P_X0_addWord (p0 : Nat) (p1 : Int32) (p2 : Int32) (σ : St) (K : St → Prop) : Prop := (6 ≤ (σ.1 p0 0) → (K σ)) ∧ (¬ (6 ≤ (σ.1 p0 0)) → (∀ s1 : St, s1 = wI σ p0 0 ((σ.1 p0 0) + 1) → (vp_in (s1.1 p0 0) 7 ∧ ∀ s3 : St, s3 = wI s1 (p0 + 1) (ix (s1.1 p0 0)) p1 → (vp_in (s3.1 p0 0) 7 ∧ ∀ s5 : St, s5 = wI s3 (p0 + 2) (ix (s3.1 p0 0)) p2 → (K s5)))))
set_option maxHeartbeats 4000000 in
set_option maxRecDepth 100000 in
theorem m_X0_addWord (l : Launch) (ad : Nat → Nat) (D : va_G) (ca : Nat → ClassId) (had : adOk ad) (p0 : Nat) (p1 : Int32) (p2 : Int32) (hp0 : sOk p0) (σ : St) (K : St → Prop) (hp : P_X0_addWord p0 p1 p2 σ K) : CtV l ad D ca yX0_addWord cX0_addWord 3 0 [.ref (ad p0), .int p1, .int p2] σ K := CtV_of (av := fun ad => [.ref (ad p0), .int p1, .int p2]) (plainFor_of_name (by decide)) had (Nat.le_of_ble_eq_true rfl) (fun κ C hret => by
  have C : Ok κ RX0 cX0_addWord 3 0 := C
  show GG κ 0 [(0, .ref (kad κ p0)), (1, .int p1), (2, .int p2)] [] σ
  unfold P_X0_addWord at hp
  refine x_aload_n 0 C rfl (dX0_addWord_p0 0 rfl) ?_
  refine gX0_0 C (s_kd hp0) (s_lt hp0) tw_49 (dX0_addWord_p0 1 rfl) ?_
  refine x_bipush (v := 6) C (by decide) (dX0_addWord_p0 2 rfl) ?_
  refine x_icmp_ge (tgt := 39) C (dX0_addWord_p0 3 rfl) (by decide) (fun hc => ?_) (fun hc => ?_)
  · have hp := hp.1 hc
    exact hret _ _ _ (dX0_addWord_p0 22 rfl) hp
  · have hp := hp.2 hc
    refine x_aload_n 0 C rfl (dX0_addWord_p0 4 rfl) ?_
    refine x_dup C rfl (dX0_addWord_p0 5 rfl) ?_
    refine gX0_0 C (s_kd hp0) (s_lt hp0) tw_49 (dX0_addWord_p0 6 rfl) ?_
    refine x_iconst (v := 1) C (by decide) (dX0_addWord_p0 7 rfl) ?_
    refine x_iadd C (dX0_addWord_p0 8 rfl) ?_
    refine qX0_0 C (s_kd hp0) (s_lt hp0) tw_49 (dX0_addWord_p0 9 rfl) ?_
    refine x_nmS (fun s1 es1 => ?_)
    have hp := hp s1 es1
    refine x_aload_n 0 C rfl (dX0_addWord_p0 10 rfl) ?_
    refine gX0_1 (b := p0 + 1) C (s_kd hp0) (s_lt hp0) (s_m1 hp0) tw_52 (dX0_addWord_p0 11 rfl) ?_
    refine x_aload_n 0 C rfl (dX0_addWord_p0 12 rfl) ?_
    refine gX0_0 C (s_kd hp0) (s_lt hp0) tw_49 (dX0_addWord_p0 13 rfl) ?_
    refine x_iload_n 1 C rfl (dX0_addWord_p0 14 rfl) ?_
    obtain ⟨h2, hp⟩ := hp
    refine x_iast C (s_kd1 hp0) (s_lt1 hp0) (vp_ln (s_ln1 hp0) h2) (dX0_addWord_p0 15 rfl) ?_
    refine x_nmS (fun s3 es3 => ?_)
    have hp := hp s3 es3
    refine x_aload_n 0 C rfl (dX0_addWord_p0 16 rfl) ?_
    refine gX0_2 (b := p0 + 2) C (s_kd hp0) (s_lt hp0) (s_m2 hp0) tw_55 (dX0_addWord_p0 17 rfl) ?_
    refine x_aload_n 0 C rfl (dX0_addWord_p0 18 rfl) ?_
    refine gX0_0 C (s_kd hp0) (s_lt hp0) tw_49 (dX0_addWord_p0 19 rfl) ?_
    refine x_iload_n 2 C rfl (dX0_addWord_p0 20 rfl) ?_
    obtain ⟨h4, hp⟩ := hp
    refine x_iast C (s_kd2 hp0) (s_lt2 hp0) (vp_ln (s_ln2 hp0) h4) (dX0_addWord_p0 21 rfl) ?_
    refine x_nmS (fun s5 es5 => ?_)
    have hp := hp s5 es5
    exact hret _ _ _ (dX0_addWord_p0 22 rfl) hp)
def F_X0_blank_15 (K : St → Prop) (c7 : (Int32 × St) → Prop) (c15 : (Int32 × St) → Prop) (u0 : Nat) (u1 : Int32) (u2 : Int32) (σ : St) : Prop := (7 ≤ u2 → ∀ v2 : Int32, v2 = u1 + 1 → c7 (v2, σ)) ∧ (¬ (7 ≤ u2) → vp_in u1 7 ∧ (vp_in u2 7 ∧ ∀ s5 : St, s5 = wI σ ((u0 + 3) + 1 + ix u1) (ix u2) 0 → vp_in u1 7 ∧ (vp_in u2 7 ∧ ∀ s8 : St, s8 = wI s5 ((u0 + 11) + 1 + ix u1) (ix u2) 0 → ∀ v9 : Int32, v9 = u2 + 1 → c15 (v9, s8))))
set_option maxHeartbeats 4000000 in
set_option maxRecDepth 100000 in
theorem F_X0_blank_15_w {κ : Kap} {K : St → Prop} {c7 : (Int32 × St) → Prop} {c15 : (Int32 × St) → Prop} (C : Ok κ RX0 cX0_blank 3 0) (hret : RetV κ cX0_blank K) (u0 : Nat) (u1 : Int32) (u2 : Int32) (hu0 : sOk u0)   (σ : St) (hc7 : ∀ (u1 : Int32) (σ : St), c7 (u1, σ) → GG κ 7 [(0, .ref (kad κ u0)), (1, .int u1)] [] σ) (hc15 : ∀ (u2 : Int32) (σ : St), c15 (u2, σ) → GG κ 15 [(0, .ref (kad κ u0)), (1, .int u1), (2, .int u2)] [] σ) (hp : F_X0_blank_15 K c7 c15 u0 u1 u2 σ) : GG κ 15 [(0, .ref (kad κ u0)), (1, .int u1), (2, .int u2)] [] σ := by
  unfold F_X0_blank_15 at hp
  refine x_iload_n 2 C rfl (dX0_blank_p0 10 rfl) ?_
  refine x_bipush (v := 7) C (by decide) (dX0_blank_p0 11 rfl) ?_
  refine x_icmp_ge (tgt := 45) C (dX0_blank_p0 12 rfl) (by decide) (fun hc => ?_) (fun hc => ?_)
  · have hp := hp.1 hc
    obtain ⟨v2, ev2⟩ : ∃ z : Int32, z = u1 + 1 := ⟨_, rfl⟩
    have hp := hp v2 ev2
    refine x_iinc (v := v2) (loc' := [(1, .int v2), (0, .ref (kad κ u0)), (2, .int u2)]) 1 C rfl (by rw [ev2]; rfl) (by decide) rfl (dX0_blank_p0 29 rfl) ?_
    refine x_goto (tgt := 7) C (dX0_blank_p0 30 rfl) (by decide) ?_
    refine x_loc (loc' := [(0, .ref (kad κ u0)), (1, .int v2)]) [1, 0] rfl ?_
    exact hc7 v2 σ hp
  · have hp := hp.2 hc
    refine x_aload_n 0 C rfl (dX0_blank_p0 13 rfl) ?_
    refine gX0_3 (b := u0 + 3) C (s_kd hu0) (s_lt hu0) (s_m3 hu0) tw_58 (dX0_blank_p0 14 rfl) ?_
    refine x_iload_n 1 C rfl (dX0_blank_p0 15 rfl) ?_
    obtain ⟨h3, hp⟩ := hp
    refine x_aald (c := 13) (b := (u0 + 3) + 1 + ix u1) C (s_kd3 hu0) (by decide) rfl rfl (s_lt3 hu0) (vp_ln (s_ln3 hu0) h3) (row_mr13 (s_kd3 hu0) (s_lt3 hu0) (vp_ln (s_ln3 hu0) h3)) (dX0_blank_p0 16 rfl) ?_
    refine x_iload_n 2 C rfl (dX0_blank_p0 17 rfl) ?_
    refine x_iconst (v := 0) C (by decide) (dX0_blank_p0 18 rfl) ?_
    obtain ⟨h4, hp⟩ := hp
    refine x_iast C (row_kd13 (s_kd3 hu0) (s_lt3 hu0) (vp_ln (s_ln3 hu0) h3)) (row_lt13 (s_kd3 hu0) (s_lt3 hu0) (vp_ln (s_ln3 hu0) h3)) (vp_ln ((row_ln13 (s_kd3 hu0) (s_lt3 hu0) (vp_ln (s_ln3 hu0) h3)).trans (s_iln3 hu0)) h4) (dX0_blank_p0 19 rfl) ?_
    refine x_nmS (fun s5 es5 => ?_)
    have hp := hp s5 es5
    refine x_aload_n 0 C rfl (dX0_blank_p0 20 rfl) ?_
    refine gX0_4 (b := u0 + 11) C (s_kd hu0) (s_lt hu0) (s_m4 hu0) tw_60 (dX0_blank_p0 21 rfl) ?_
    refine x_iload_n 1 C rfl (dX0_blank_p0 22 rfl) ?_
    obtain ⟨h6, hp⟩ := hp
    refine x_aald (c := 13) (b := (u0 + 11) + 1 + ix u1) C (s_kd4 hu0) (by decide) rfl rfl (s_lt4 hu0) (vp_ln (s_ln4 hu0) h6) (row_mr13 (s_kd4 hu0) (s_lt4 hu0) (vp_ln (s_ln4 hu0) h6)) (dX0_blank_p0 23 rfl) ?_
    refine x_iload_n 2 C rfl (dX0_blank_p0 24 rfl) ?_
    refine x_iconst (v := 0) C (by decide) (dX0_blank_p0 25 rfl) ?_
    obtain ⟨h7, hp⟩ := hp
    refine x_iast C (row_kd13 (s_kd4 hu0) (s_lt4 hu0) (vp_ln (s_ln4 hu0) h6)) (row_lt13 (s_kd4 hu0) (s_lt4 hu0) (vp_ln (s_ln4 hu0) h6)) (vp_ln ((row_ln13 (s_kd4 hu0) (s_lt4 hu0) (vp_ln (s_ln4 hu0) h6)).trans (s_iln4 hu0)) h7) (dX0_blank_p0 26 rfl) ?_
    refine x_nmS (fun s8 es8 => ?_)
    have hp := hp s8 es8
    obtain ⟨v9, ev9⟩ : ∃ z : Int32, z = u2 + 1 := ⟨_, rfl⟩
    have hp := hp v9 ev9
    refine x_iinc (v := v9) (loc' := [(2, .int v9), (0, .ref (kad κ u0)), (1, .int u1)]) 2 C rfl (by rw [ev9]; rfl) (by decide) rfl (dX0_blank_p0 27 rfl) ?_
    refine x_goto (tgt := 15) C (dX0_blank_p0 28 rfl) (by decide) ?_
    refine x_loc (loc' := [(0, .ref (kad κ u0)), (1, .int u1), (2, .int v9)]) [1, 2, 0] rfl ?_
    exact hc15 v9 s8 hp
def F_X0_blank_7 (K : St → Prop) (c7 : (Int32 × St) → Prop) (u0 : Nat) (u1 : Int32) (σ : St) : Prop := (7 ≤ u1 → (K σ)) ∧ (¬ (7 ≤ u1) → (LpE (fun c s => F_X0_blank_15 K c7 c u0 u1 s.1 s.2) (0, σ)))
set_option maxHeartbeats 4000000 in
set_option maxRecDepth 100000 in
theorem F_X0_blank_7_w {κ : Kap} {K : St → Prop} {c7 : (Int32 × St) → Prop} (C : Ok κ RX0 cX0_blank 3 0) (hret : RetV κ cX0_blank K) (u0 : Nat) (u1 : Int32) (hu0 : sOk u0)  (σ : St) (hc7 : ∀ (u1 : Int32) (σ : St), c7 (u1, σ) → GG κ 7 [(0, .ref (kad κ u0)), (1, .int u1)] [] σ) (hp : F_X0_blank_7 K c7 u0 u1 σ) : GG κ 7 [(0, .ref (kad κ u0)), (1, .int u1)] [] σ := by
  unfold F_X0_blank_7 at hp
  refine x_iload_n 1 C rfl (dX0_blank_p0 5 rfl) ?_
  refine x_bipush (v := 7) C (by decide) (dX0_blank_p0 6 rfl) ?_
  refine x_icmp_ge (tgt := 51) C (dX0_blank_p0 7 rfl) (by decide) (fun hc => ?_) (fun hc => ?_)
  · have hp := hp.1 hc
    exact hret _ _ _ (dX0_blank_p0 31 rfl) hp
  · have hp := hp.2 hc
    refine x_iconst (v := 0) C (by decide) (dX0_blank_p0 8 rfl) ?_
    refine x_istore_n (loc' := [(2, .int 0), (0, .ref (kad κ u0)), (1, .int u1)]) C rfl (by decide) rfl (dX0_blank_p0 9 rfl) ?_
    refine x_loc (loc' := [(0, .ref (kad κ u0)), (1, .int u1), (2, .int 0)]) [1, 2, 0] rfl ?_
    exact LpE_GG (S := (Int32 × St)) (F := fun c s => F_X0_blank_15 K c7 c u0 u1 s.1 s.2) (W := fun s => GG κ 15 [(0, .ref (kad κ u0)), (1, .int u1), (2, .int s.1)] [] s.2) (fun c s hcc hp => F_X0_blank_15_w C hret u0 u1 s.1 hu0 s.2 hc7 (fun u2 σ h => hcc (u2, σ) h) hp) hp
def P_X0_blank (p0 : Nat) (σ : St) (K : St → Prop) : Prop := ∀ s1 : St, s1 = wI σ p0 0 0 → (LpE (fun c s => F_X0_blank_7 K  c p0 s.1 s.2) (0, s1))
set_option maxHeartbeats 4000000 in
set_option maxRecDepth 100000 in
theorem m_X0_blank (l : Launch) (ad : Nat → Nat) (D : va_G) (ca : Nat → ClassId) (had : adOk ad) (p0 : Nat) (hp0 : sOk p0) (σ : St) (K : St → Prop) (hp : P_X0_blank p0 σ K) : CtV l ad D ca yX0_blank cX0_blank 3 0 [.ref (ad p0)] σ K := CtV_of (av := fun ad => [.ref (ad p0)]) (plainFor_of_name (by decide)) had (Nat.le_of_ble_eq_true rfl) (fun κ C hret => by
  have C : Ok κ RX0 cX0_blank 3 0 := C
  show GG κ 0 [(0, .ref (kad κ p0))] [] σ
  unfold P_X0_blank at hp
  refine x_aload_n 0 C rfl (dX0_blank_p0 0 rfl) ?_
  refine x_iconst (v := 0) C (by decide) (dX0_blank_p0 1 rfl) ?_
  refine qX0_0 C (s_kd hp0) (s_lt hp0) tw_49 (dX0_blank_p0 2 rfl) ?_
  refine x_nmS (fun s1 es1 => ?_)
  have hp := hp s1 es1
  refine x_iconst (v := 0) C (by decide) (dX0_blank_p0 3 rfl) ?_
  refine x_istore_n (loc' := [(1, .int 0), (0, .ref (kad κ p0))]) C rfl (by decide) rfl (dX0_blank_p0 4 rfl) ?_
  refine x_loc (loc' := [(0, .ref (kad κ p0)), (1, .int 0)]) [1, 0] rfl ?_
  exact LpE_GG (S := (Int32 × St)) (F := fun c s => F_X0_blank_7 K  c p0 s.1 s.2) (W := fun s => GG κ 7 [(0, .ref (kad κ p0)), (1, .int s.1)] [] s.2) (fun c s hcc hp => F_X0_blank_7_w C hret p0 s.1 hp0 s.2  (fun u1 σ h => hcc (u1, σ) h) hp) hp)
def P_X0_hasWord (p0 : Nat) (p1 : Int32) (σ : St) (K : Int32 → St → Prop) : Prop := (p1 < 1 → (K 0 σ)) ∧ (¬ (p1 < 1) → (((σ.1 p0 0) < p1 → (K 0 σ)) ∧ (¬ ((σ.1 p0 0) < p1) → (K 1 σ))))
set_option maxHeartbeats 4000000 in
set_option maxRecDepth 100000 in
theorem m_X0_hasWord (l : Launch) (ad : Nat → Nat) (D : va_G) (ca : Nat → ClassId) (had : adOk ad) (p0 : Nat) (p1 : Int32) (hp0 : sOk p0) (σ : St) (K : Int32 → St → Prop) (hp : P_X0_hasWord p0 p1 σ K) : CtI l ad D ca yX0_hasWord cX0_hasWord 2 .boolean 0 [.ref (ad p0), .int p1] σ K := CtI_of (av := fun ad => [.ref (ad p0), .int p1]) (plainFor_of_name (by decide)) had (Nat.le_of_ble_eq_true rfl) (fun κ C hret => by
  have C : Ok κ RX0 cX0_hasWord 2 0 := C
  show GG κ 0 [(0, .ref (kad κ p0)), (1, .int p1)] [] σ
  unfold P_X0_hasWord at hp
  refine x_iload_n 1 C rfl (dX0_hasWord_p0 0 rfl) ?_
  refine x_iconst (v := 1) C (by decide) (dX0_hasWord_p0 1 rfl) ?_
  refine x_icmp_lt (tgt := 17) C (dX0_hasWord_p0 2 rfl) (by decide) (fun hc => ?_) (fun hc => ?_)
  · have hp := hp.1 hc
    refine x_iconst (v := 0) C (by decide) (dX0_hasWord_p0 9 rfl) ?_
    exact hret _ _ _ _ (dX0_hasWord_p0 10 rfl) (nar_z isB0) hp
  · have hp := hp.2 hc
    refine x_iload_n 1 C rfl (dX0_hasWord_p0 3 rfl) ?_
    refine x_aload_n 0 C rfl (dX0_hasWord_p0 4 rfl) ?_
    refine gX0_0 C (s_kd hp0) (s_lt hp0) tw_49 (dX0_hasWord_p0 5 rfl) ?_
    refine x_icmp_gt (tgt := 17) C (dX0_hasWord_p0 6 rfl) (by decide) (fun hc => ?_) (fun hc => ?_)
    · have hp := hp.1 hc
      refine x_iconst (v := 0) C (by decide) (dX0_hasWord_p0 9 rfl) ?_
      exact hret _ _ _ _ (dX0_hasWord_p0 10 rfl) (nar_z isB0) hp
    · have hp := hp.2 hc
      refine x_iconst (v := 1) C (by decide) (dX0_hasWord_p0 7 rfl) ?_
      refine x_goto (tgt := 18) C (dX0_hasWord_p0 8 rfl) (by decide) ?_
      exact hret _ _ _ _ (dX0_hasWord_p0 10 rfl) (nar_z isB1) hp)
def P_X0_hasArc (p0 : Nat) (p1 : Int32) (p2 : Int32) (σ : St) (K : Int32 → St → Prop) : Prop := P_X0_hasWord p0 p2 σ (fun r2 s1 => (r2 = 0 → (K 0 s1)) ∧ (¬ (r2 = 0) → ((p1 < 0 → (K 0 s1)) ∧ (¬ (p1 < 0) → (((s1.1 p0 0) < p1 → (K 0 s1)) ∧ (¬ ((s1.1 p0 0) < p1) → ((p1 = p2 → (K 0 s1)) ∧ (¬ (p1 = p2) → (K 1 s1)))))))))
set_option maxHeartbeats 4000000 in
set_option maxRecDepth 100000 in
theorem m_X0_hasArc (l : Launch) (ad : Nat → Nat) (D : va_G) (ca : Nat → ClassId) (had : adOk ad) (p0 : Nat) (p1 : Int32) (p2 : Int32) (hp0 : sOk p0) (σ : St) (K : Int32 → St → Prop) (hp : P_X0_hasArc p0 p1 p2 σ K) : CtI l ad D ca yX0_hasArc cX0_hasArc 3 .boolean 1 [.ref (ad p0), .int p1, .int p2] σ K := CtI_of (av := fun ad => [.ref (ad p0), .int p1, .int p2]) (plainFor_of_name (by decide)) had (Nat.le_of_ble_eq_true rfl) (fun κ C hret => by
  have C : Ok κ RX0 cX0_hasArc 3 1 := C
  show GG κ 0 [(0, .ref (kad κ p0)), (1, .int p1), (2, .int p2)] [] σ
  unfold P_X0_hasArc at hp
  refine x_aload_n 0 C rfl (dX0_hasArc_p0 0 rfl) ?_
  refine x_iload_n 2 C rfl (dX0_hasArc_p0 1 rfl) ?_
  refine x_cvI (As := [.int p2]) (st := []) C LRX0_30 (ci := 0) rfl (s_kd hp0) (by decide) (s_lt hp0) (m_X0_hasWord (kL κ) (kad κ) (kD κ) (kca κ) C.ado p0 p2 hp0 σ _ hp) rfl (by decide) rfl (Nat.le_of_ble_eq_true rfl) (dX0_hasArc_p0 2 rfl) (fun r2 s1 hp => ?_)
  refine x_if_eq (tgt := 29) C (dX0_hasArc_p0 3 rfl) (by decide) (fun hc => ?_) (fun hc => ?_)
  · have hp := hp.1 hc
    refine x_iconst (v := 0) C (by decide) (dX0_hasArc_p0 15 rfl) ?_
    exact hret _ _ _ _ (dX0_hasArc_p0 16 rfl) (nar_z isB0) hp
  · have hp := hp.2 hc
    refine x_iload_n 1 C rfl (dX0_hasArc_p0 4 rfl) ?_
    refine x_if_lt (tgt := 29) C (dX0_hasArc_p0 5 rfl) (by decide) (fun hc => ?_) (fun hc => ?_)
    · have hp := hp.1 hc
      refine x_iconst (v := 0) C (by decide) (dX0_hasArc_p0 15 rfl) ?_
      exact hret _ _ _ _ (dX0_hasArc_p0 16 rfl) (nar_z isB0) hp
    · have hp := hp.2 hc
      refine x_iload_n 1 C rfl (dX0_hasArc_p0 6 rfl) ?_
      refine x_aload_n 0 C rfl (dX0_hasArc_p0 7 rfl) ?_
      refine gX0_0 C (s_kd hp0) (s_lt hp0) tw_49 (dX0_hasArc_p0 8 rfl) ?_
      refine x_icmp_gt (tgt := 29) C (dX0_hasArc_p0 9 rfl) (by decide) (fun hc => ?_) (fun hc => ?_)
      · have hp := hp.1 hc
        refine x_iconst (v := 0) C (by decide) (dX0_hasArc_p0 15 rfl) ?_
        exact hret _ _ _ _ (dX0_hasArc_p0 16 rfl) (nar_z isB0) hp
      · have hp := hp.2 hc
        refine x_iload_n 1 C rfl (dX0_hasArc_p0 10 rfl) ?_
        refine x_iload_n 2 C rfl (dX0_hasArc_p0 11 rfl) ?_
        refine x_icmp_eq (tgt := 29) C (dX0_hasArc_p0 12 rfl) (by decide) (fun hc => ?_) (fun hc => ?_)
        · have hp := hp.1 hc
          refine x_iconst (v := 0) C (by decide) (dX0_hasArc_p0 15 rfl) ?_
          exact hret _ _ _ _ (dX0_hasArc_p0 16 rfl) (nar_z isB0) hp
        · have hp := hp.2 hc
          refine x_iconst (v := 1) C (by decide) (dX0_hasArc_p0 13 rfl) ?_
          refine x_goto (tgt := 30) C (dX0_hasArc_p0 14 rfl) (by decide) ?_
          exact hret _ _ _ _ (dX0_hasArc_p0 16 rfl) (nar_z isB1) hp)
def J_X0_headChoices_45 (K : Int32 → St → Prop) (c7 : (Int32 × Int32 × Int32 × St) → Prop) (u0 : Nat) (u1 : Int32) (u2 : Int32) (u3 : Int32) (u4 : Int32) (σ : St) : Prop := (u4 = u1 → ∀ v3 : Int32, v3 = u4 + 1 → c7 (u2, u3, v3, σ)) ∧ (¬ (u4 = u1) → vp_in u4 7 ∧ vp_in u1 7 ∧ (((σ.1 ((u0 + 11) + 1 + ix u4) (ix u1)) = 0 → (∀ v7 : Int32, v7 = (u2 ||| (1 <<< (u4 &&& 31))) → ∀ v8 : Int32, v8 = u4 + 1 → c7 (v7, u3, v8, σ))) ∧ (¬ ((σ.1 ((u0 + 11) + 1 + ix u4) (ix u1)) = 0) → ∀ v6 : Int32, v6 = u4 + 1 → c7 (u2, u3, v6, σ))))
set_option maxHeartbeats 4000000 in
set_option maxRecDepth 100000 in
theorem J_X0_headChoices_45_w {κ : Kap} {K : Int32 → St → Prop} {c7 : (Int32 × Int32 × Int32 × St) → Prop} (C : Ok κ RX0 cX0_headChoices 5 1) (hret : RetI κ cX0_headChoices .int K) (u0 : Nat) (u1 : Int32) (u2 : Int32) (u3 : Int32) (u4 : Int32) (hu0 : sOk u0)     (σ : St) (hc7 : ∀ (u2 : Int32) (u3 : Int32) (u4 : Int32) (σ : St), c7 (u2, u3, u4, σ) → GG κ 7 [(0, .ref (kad κ u0)), (1, .int u1), (2, .int u2), (3, .int u3), (4, .int u4)] [] σ) (hp : J_X0_headChoices_45 K c7 u0 u1 u2 u3 u4 σ) : GG κ 45 [(0, .ref (kad κ u0)), (1, .int u1), (2, .int u2), (3, .int u3), (4, .int u4)] [] σ := by
  unfold J_X0_headChoices_45 at hp
  refine x_iload 4 C rfl (dX0_headChoices_p0 28 rfl) ?_
  refine x_iload_n 1 C rfl (dX0_headChoices_p0 29 rfl) ?_
  refine x_icmp_eq (tgt := 70) C (dX0_headChoices_p0 30 rfl) (by decide) (fun hc => ?_) (fun hc => ?_)
  · have hp := hp.1 hc
    obtain ⟨v3, ev3⟩ : ∃ z : Int32, z = u4 + 1 := ⟨_, rfl⟩
    have hp := hp v3 ev3
    refine x_iinc (v := v3) (loc' := [(4, .int v3), (0, .ref (kad κ u0)), (1, .int u1), (2, .int u2), (3, .int u3)]) 4 C rfl (by rw [ev3]; rfl) (by decide) rfl (dX0_headChoices_p0 44 rfl) ?_
    refine x_goto (tgt := 7) C (dX0_headChoices_p0 45 rfl) (by decide) ?_
    refine x_loc (loc' := [(0, .ref (kad κ u0)), (1, .int u1), (2, .int u2), (3, .int u3), (4, .int v3)]) [1, 2, 3, 4, 0] rfl ?_
    exact hc7 u2 u3 v3 σ hp
  · have hp := hp.2 hc
    refine x_aload_n 0 C rfl (dX0_headChoices_p0 31 rfl) ?_
    refine gX0_4 (b := u0 + 11) C (s_kd hu0) (s_lt hu0) (s_m4 hu0) tw_60 (dX0_headChoices_p0 32 rfl) ?_
    refine x_iload 4 C rfl (dX0_headChoices_p0 33 rfl) ?_
    obtain ⟨h4, hp⟩ := hp
    refine x_aald (c := 13) (b := (u0 + 11) + 1 + ix u4) C (s_kd4 hu0) (by decide) rfl rfl (s_lt4 hu0) (vp_ln (s_ln4 hu0) h4) (row_mr13 (s_kd4 hu0) (s_lt4 hu0) (vp_ln (s_ln4 hu0) h4)) (dX0_headChoices_p0 34 rfl) ?_
    refine x_iload_n 1 C rfl (dX0_headChoices_p0 35 rfl) ?_
    obtain ⟨h5, hp⟩ := hp
    refine x_iald C (row_kd13 (s_kd4 hu0) (s_lt4 hu0) (vp_ln (s_ln4 hu0) h4)) (row_lt13 (s_kd4 hu0) (s_lt4 hu0) (vp_ln (s_ln4 hu0) h4)) (vp_ln ((row_ln13 (s_kd4 hu0) (s_lt4 hu0) (vp_ln (s_ln4 hu0) h4)).trans (s_iln4 hu0)) h5) (dX0_headChoices_p0 36 rfl) ?_
    refine x_if_ne (tgt := 70) C (dX0_headChoices_p0 37 rfl) (by decide) (fun hc => ?_) (fun hc => ?_)
    · have hp := hp.2 hc
      obtain ⟨v6, ev6⟩ : ∃ z : Int32, z = u4 + 1 := ⟨_, rfl⟩
      have hp := hp v6 ev6
      refine x_iinc (v := v6) (loc' := [(4, .int v6), (0, .ref (kad κ u0)), (1, .int u1), (2, .int u2), (3, .int u3)]) 4 C rfl (by rw [ev6]; rfl) (by decide) rfl (dX0_headChoices_p0 44 rfl) ?_
      refine x_goto (tgt := 7) C (dX0_headChoices_p0 45 rfl) (by decide) ?_
      refine x_loc (loc' := [(0, .ref (kad κ u0)), (1, .int u1), (2, .int u2), (3, .int u3), (4, .int v6)]) [1, 2, 3, 4, 0] rfl ?_
      exact hc7 u2 u3 v6 σ hp
    · have hp := hp.1 hc
      refine x_iload_n 2 C rfl (dX0_headChoices_p0 38 rfl) ?_
      refine x_iconst (v := 1) C (by decide) (dX0_headChoices_p0 39 rfl) ?_
      refine x_iload 4 C rfl (dX0_headChoices_p0 40 rfl) ?_
      refine x_ishl C (dX0_headChoices_p0 41 rfl) ?_
      refine x_ior C (dX0_headChoices_p0 42 rfl) ?_
      refine x_topI (fun v7 ev7 => ?_)
      have hp := hp v7 ev7
      refine x_istore_n (loc' := [(2, .int v7), (0, .ref (kad κ u0)), (1, .int u1), (3, .int u3), (4, .int u4)]) C rfl (by decide) rfl (dX0_headChoices_p0 43 rfl) ?_
      obtain ⟨v8, ev8⟩ : ∃ z : Int32, z = u4 + 1 := ⟨_, rfl⟩
      have hp := hp v8 ev8
      refine x_iinc (v := v8) (loc' := [(4, .int v8), (2, .int v7), (0, .ref (kad κ u0)), (1, .int u1), (3, .int u3)]) 4 C rfl (by rw [ev8]; rfl) (by decide) rfl (dX0_headChoices_p0 44 rfl) ?_
      refine x_goto (tgt := 7) C (dX0_headChoices_p0 45 rfl) (by decide) ?_
      refine x_loc (loc' := [(0, .ref (kad κ u0)), (1, .int u1), (2, .int v7), (3, .int u3), (4, .int v8)]) [2, 3, 1, 4, 0] rfl ?_
      exact hc7 v7 u3 v8 σ hp
def F_X0_headChoices_7 (K : Int32 → St → Prop) (c7 : (Int32 × Int32 × Int32 × St) → Prop) (u0 : Nat) (u1 : Int32) (u2 : Int32) (u3 : Int32) (u4 : Int32) (σ : St) : Prop := ((σ.1 u0 0) < u4 → ((u3 = 0 → (K u2 σ)) ∧ (¬ (u3 = 0) → P_J6_bitCount_0f7a4 u3 σ (fun r2 s1 => (r2 = 1 → (K u3 s1)) ∧ (¬ (r2 = 1) → (K 0 s1)))))) ∧ (¬ ((σ.1 u0 0) < u4) → ((u4 = u1 → (J_X0_headChoices_45 K c7 u0 u1 u2 u3 u4 σ)) ∧ (¬ (u4 = u1) → vp_in u4 7 ∧ vp_in u1 7 ∧ (((σ.1 ((u0 + 11) + 1 + ix u4) (ix u1)) = 1 → (∀ v11 : Int32, v11 = (u3 ||| (1 <<< (u4 &&& 31))) → ∀ v12 : Int32, v12 = u4 + 1 → c7 (u2, v11, v12, σ))) ∧ (¬ ((σ.1 ((u0 + 11) + 1 + ix u4) (ix u1)) = 1) → (J_X0_headChoices_45 K c7 u0 u1 u2 u3 u4 σ))))))
set_option maxHeartbeats 4000000 in
set_option maxRecDepth 100000 in
theorem F_X0_headChoices_7_w {κ : Kap} {K : Int32 → St → Prop} {c7 : (Int32 × Int32 × Int32 × St) → Prop} (C : Ok κ RX0 cX0_headChoices 5 1) (hret : RetI κ cX0_headChoices .int K) (u0 : Nat) (u1 : Int32) (u2 : Int32) (u3 : Int32) (u4 : Int32) (hu0 : sOk u0)     (σ : St) (hc7 : ∀ (u2 : Int32) (u3 : Int32) (u4 : Int32) (σ : St), c7 (u2, u3, u4, σ) → GG κ 7 [(0, .ref (kad κ u0)), (1, .int u1), (2, .int u2), (3, .int u3), (4, .int u4)] [] σ) (hp : F_X0_headChoices_7 K c7 u0 u1 u2 u3 u4 σ) : GG κ 7 [(0, .ref (kad κ u0)), (1, .int u1), (2, .int u2), (3, .int u3), (4, .int u4)] [] σ := by
  unfold F_X0_headChoices_7 at hp
  refine x_iload 4 C rfl (dX0_headChoices_p0 6 rfl) ?_
  refine x_aload_n 0 C rfl (dX0_headChoices_p0 7 rfl) ?_
  refine gX0_0 C (s_kd hu0) (s_lt hu0) tw_49 (dX0_headChoices_p0 8 rfl) ?_
  refine x_icmp_gt (tgt := 76) C (dX0_headChoices_p0 9 rfl) (by decide) (fun hc => ?_) (fun hc => ?_)
  · have hp := hp.1 hc
    refine x_iload_n 3 C rfl (dX0_headChoices_p0 46 rfl) ?_
    refine x_if_ne (tgt := 82) C (dX0_headChoices_p0 47 rfl) (by decide) (fun hc => ?_) (fun hc => ?_)
    · have hp := hp.2 hc
      refine x_iload_n 3 C rfl (dX0_headChoices_p0 50 rfl) ?_
      refine x_csI (As := [.int u3]) (st := []) C LRX0_34 (m_J6_bitCount_0f7a4 (kL κ) (kad κ) (kD κ) (kca κ) C.ado u3  σ _ hp) rfl (by decide) rfl (Nat.le_of_ble_eq_true rfl) (dX0_headChoices_p0 51 rfl) (fun r2 s1 hp => ?_)
      refine x_iconst (v := 1) C (by decide) (dX0_headChoices_p0 52 rfl) ?_
      refine x_icmp_ne (tgt := 94) C (dX0_headChoices_p0 53 rfl) (by decide) (fun hc => ?_) (fun hc => ?_)
      · have hp := hp.2 hc
        refine x_iconst (v := 0) C (by decide) (dX0_headChoices_p0 56 rfl) ?_
        exact hret _ _ _ _ (dX0_headChoices_p0 57 rfl) (nar_i _) hp
      · have hp := hp.1 hc
        refine x_iload_n 3 C rfl (dX0_headChoices_p0 54 rfl) ?_
        refine x_goto (tgt := 95) C (dX0_headChoices_p0 55 rfl) (by decide) ?_
        exact hret _ _ _ _ (dX0_headChoices_p0 57 rfl) (nar_i _) hp
    · have hp := hp.1 hc
      refine x_iload_n 2 C rfl (dX0_headChoices_p0 48 rfl) ?_
      exact hret _ _ _ _ (dX0_headChoices_p0 49 rfl) (nar_i _) hp
  · have hp := hp.2 hc
    refine x_iload 4 C rfl (dX0_headChoices_p0 10 rfl) ?_
    refine x_iload_n 1 C rfl (dX0_headChoices_p0 11 rfl) ?_
    refine x_icmp_eq (tgt := 45) C (dX0_headChoices_p0 12 rfl) (by decide) (fun hc => ?_) (fun hc => ?_)
    · have hp := hp.1 hc
      exact J_X0_headChoices_45_w C hret u0 u1 u2 u3 u4 hu0 σ hc7 hp
    · have hp := hp.2 hc
      refine x_aload_n 0 C rfl (dX0_headChoices_p0 13 rfl) ?_
      refine gX0_4 (b := u0 + 11) C (s_kd hu0) (s_lt hu0) (s_m4 hu0) tw_60 (dX0_headChoices_p0 14 rfl) ?_
      refine x_iload 4 C rfl (dX0_headChoices_p0 15 rfl) ?_
      obtain ⟨h9, hp⟩ := hp
      refine x_aald (c := 13) (b := (u0 + 11) + 1 + ix u4) C (s_kd4 hu0) (by decide) rfl rfl (s_lt4 hu0) (vp_ln (s_ln4 hu0) h9) (row_mr13 (s_kd4 hu0) (s_lt4 hu0) (vp_ln (s_ln4 hu0) h9)) (dX0_headChoices_p0 16 rfl) ?_
      refine x_iload_n 1 C rfl (dX0_headChoices_p0 17 rfl) ?_
      obtain ⟨h10, hp⟩ := hp
      refine x_iald C (row_kd13 (s_kd4 hu0) (s_lt4 hu0) (vp_ln (s_ln4 hu0) h9)) (row_lt13 (s_kd4 hu0) (s_lt4 hu0) (vp_ln (s_ln4 hu0) h9)) (vp_ln ((row_ln13 (s_kd4 hu0) (s_lt4 hu0) (vp_ln (s_ln4 hu0) h9)).trans (s_iln4 hu0)) h10) (dX0_headChoices_p0 18 rfl) ?_
      refine x_iconst (v := 1) C (by decide) (dX0_headChoices_p0 19 rfl) ?_
      refine x_icmp_ne (tgt := 45) C (dX0_headChoices_p0 20 rfl) (by decide) (fun hc => ?_) (fun hc => ?_)
      · have hp := hp.2 hc
        exact J_X0_headChoices_45_w C hret u0 u1 u2 u3 u4 hu0 σ hc7 hp
      · have hp := hp.1 hc
        refine x_iload_n 3 C rfl (dX0_headChoices_p0 21 rfl) ?_
        refine x_iconst (v := 1) C (by decide) (dX0_headChoices_p0 22 rfl) ?_
        refine x_iload 4 C rfl (dX0_headChoices_p0 23 rfl) ?_
        refine x_ishl C (dX0_headChoices_p0 24 rfl) ?_
        refine x_ior C (dX0_headChoices_p0 25 rfl) ?_
        refine x_topI (fun v11 ev11 => ?_)
        have hp := hp v11 ev11
        refine x_istore_n (loc' := [(3, .int v11), (0, .ref (kad κ u0)), (1, .int u1), (2, .int u2), (4, .int u4)]) C rfl (by decide) rfl (dX0_headChoices_p0 26 rfl) ?_
        refine x_goto (tgt := 70) C (dX0_headChoices_p0 27 rfl) (by decide) ?_
        obtain ⟨v12, ev12⟩ : ∃ z : Int32, z = u4 + 1 := ⟨_, rfl⟩
        have hp := hp v12 ev12
        refine x_iinc (v := v12) (loc' := [(4, .int v12), (3, .int v11), (0, .ref (kad κ u0)), (1, .int u1), (2, .int u2)]) 4 C rfl (by rw [ev12]; rfl) (by decide) rfl (dX0_headChoices_p0 44 rfl) ?_
        refine x_goto (tgt := 7) C (dX0_headChoices_p0 45 rfl) (by decide) ?_
        refine x_loc (loc' := [(0, .ref (kad κ u0)), (1, .int u1), (2, .int u2), (3, .int v11), (4, .int v12)]) [2, 3, 4, 1, 0] rfl ?_
        exact hc7 u2 v11 v12 σ hp
def P_X0_headChoices (p0 : Nat) (p1 : Int32) (σ : St) (K : Int32 → St → Prop) : Prop := LpE (fun c s => F_X0_headChoices_7 K  c p0 p1 s.1 s.2.1 s.2.2.1 s.2.2.2) (0, 0, 0, σ)
set_option maxHeartbeats 4000000 in
set_option maxRecDepth 100000 in
theorem m_X0_headChoices (l : Launch) (ad : Nat → Nat) (D : va_G) (ca : Nat → ClassId) (had : adOk ad) (p0 : Nat) (p1 : Int32) (hp0 : sOk p0) (σ : St) (K : Int32 → St → Prop) (hp : P_X0_headChoices p0 p1 σ K) : CtI l ad D ca yX0_headChoices cX0_headChoices 5 .int 1 [.ref (ad p0), .int p1] σ K := CtI_of (av := fun ad => [.ref (ad p0), .int p1]) (plainFor_of_name (by decide)) had (Nat.le_of_ble_eq_true rfl) (fun κ C hret => by
  have C : Ok κ RX0 cX0_headChoices 5 1 := C
  show GG κ 0 [(0, .ref (kad κ p0)), (1, .int p1)] [] σ
  unfold P_X0_headChoices at hp
  refine x_iconst (v := 0) C (by decide) (dX0_headChoices_p0 0 rfl) ?_
  refine x_istore_n (loc' := [(2, .int 0), (0, .ref (kad κ p0)), (1, .int p1)]) C rfl (by decide) rfl (dX0_headChoices_p0 1 rfl) ?_
  refine x_iconst (v := 0) C (by decide) (dX0_headChoices_p0 2 rfl) ?_
  refine x_istore_n (loc' := [(3, .int 0), (2, .int 0), (0, .ref (kad κ p0)), (1, .int p1)]) C rfl (by decide) rfl (dX0_headChoices_p0 3 rfl) ?_
  refine x_iconst (v := 0) C (by decide) (dX0_headChoices_p0 4 rfl) ?_
  refine x_istore (loc' := [(4, .int 0), (3, .int 0), (2, .int 0), (0, .ref (kad κ p0)), (1, .int p1)]) C (by decide) rfl (dX0_headChoices_p0 5 rfl) ?_
  refine x_loc (loc' := [(0, .ref (kad κ p0)), (1, .int p1), (2, .int 0), (3, .int 0), (4, .int 0)]) [3, 4, 2, 1, 0] rfl ?_
  exact LpE_GG (S := (Int32 × Int32 × Int32 × St)) (F := fun c s => F_X0_headChoices_7 K  c p0 p1 s.1 s.2.1 s.2.2.1 s.2.2.2) (W := fun s => GG κ 7 [(0, .ref (kad κ p0)), (1, .int p1), (2, .int s.1), (3, .int s.2.1), (4, .int s.2.2.1)] [] s.2.2.2) (fun c s hcc hp => F_X0_headChoices_7_w C hret p0 p1 s.1 s.2.1 s.2.2.1 hp0 s.2.2.2  (fun u2 u3 u4 σ h => hcc (u2, u3, u4, σ) h) hp) hp)
def P_X2_add (p1 : Int32) (σ : St) (K : Int32 → St → Prop) : Prop := ((σ.1 1 1) < 100 → (vp_in (σ.1 1 1) 100 ∧ ∀ s2 : St, s2 = wI σ 2 (ix (σ.1 1 1)) p1 → (∀ s3 : St, s3 = wI s2 1 1 ((s2.1 1 1) + 1) → (K 1 s3)))) ∧ (¬ ((σ.1 1 1) < 100) → (K 0 σ))
set_option maxHeartbeats 4000000 in
set_option maxRecDepth 100000 in
theorem m_X2_add (l : Launch) (ad : Nat → Nat) (D : va_G) (ca : Nat → ClassId) (had : adOk ad) (p1 : Int32)  (σ : St) (K : Int32 → St → Prop) (hp : P_X2_add p1 σ K) : CtI l ad D ca yX2_add cX2_add 2 .boolean 0 [.ref (ad 1), .int p1] σ K := CtI_of (av := fun ad => [.ref (ad 1), .int p1]) (plainFor_of_name (by decide)) had (Nat.le_of_ble_eq_true rfl) (fun κ C hret => by
  have C : Ok κ RX2 cX2_add 2 0 := C
  show GG κ 0 [(0, .ref (kad κ 1)), (1, .int p1)] [] σ
  unfold P_X2_add at hp
  refine x_aload_n 0 C rfl (dX2_add_p0 0 rfl) ?_
  refine gX2_1 C rfl (by decide) tw_29 (dX2_add_p0 1 rfl) ?_
  refine x_bipush (v := 100) C (by decide) (dX2_add_p0 2 rfl) ?_
  refine x_icmp_lt (tgt := 11) C (dX2_add_p0 3 rfl) (by decide) (fun hc => ?_) (fun hc => ?_)
  · have hp := hp.1 hc
    refine x_aload_n 0 C rfl (dX2_add_p0 6 rfl) ?_
    refine gX2_0 (b := 2) C rfl (by decide) rfl tw_27 (dX2_add_p0 7 rfl) ?_
    refine x_aload_n 0 C rfl (dX2_add_p0 8 rfl) ?_
    refine gX2_1 C rfl (by decide) tw_29 (dX2_add_p0 9 rfl) ?_
    refine x_iload_n 1 C rfl (dX2_add_p0 10 rfl) ?_
    obtain ⟨h1, hp⟩ := hp
    refine x_iast C rfl (by decide) h1 (dX2_add_p0 11 rfl) ?_
    refine x_nmS (fun s2 es2 => ?_)
    have hp := hp s2 es2
    refine x_aload_n 0 C rfl (dX2_add_p0 12 rfl) ?_
    refine x_dup C rfl (dX2_add_p0 13 rfl) ?_
    refine gX2_1 C rfl (by decide) tw_29 (dX2_add_p0 14 rfl) ?_
    refine x_iconst (v := 1) C (by decide) (dX2_add_p0 15 rfl) ?_
    refine x_iadd C (dX2_add_p0 16 rfl) ?_
    refine qX2_1 C rfl (by decide) tw_29 (dX2_add_p0 17 rfl) ?_
    refine x_nmS (fun s3 es3 => ?_)
    have hp := hp s3 es3
    refine x_iconst (v := 1) C (by decide) (dX2_add_p0 18 rfl) ?_
    exact hret _ _ _ _ (dX2_add_p0 19 rfl) (nar_z isB1) hp
  · have hp := hp.2 hc
    refine x_iconst (v := 0) C (by decide) (dX2_add_p0 4 rfl) ?_
    exact hret _ _ _ _ (dX2_add_p0 5 rfl) (nar_z isB0) hp)
def F_X2_countSentences_4 (K : Int32 → St → Prop) (c4 : (Int32 × Int32 × St) → Prop) (u1 : Int32) (u2 : Int32) (σ : St) : Prop := ((σ.1 1 1) ≤ u2 → (K u1 σ)) ∧ (¬ ((σ.1 1 1) ≤ u2) → vp_in u2 100 ∧ (((σ.1 2 (ix u2)) = 59 → ∀ v3 : Int32, v3 = u1 + 1 → ∀ v4 : Int32, v4 = u2 + 1 → c4 (v3, v4, σ)) ∧ (¬ ((σ.1 2 (ix u2)) = 59) → ∀ v2 : Int32, v2 = u2 + 1 → c4 (u1, v2, σ))))
set_option maxHeartbeats 4000000 in
set_option maxRecDepth 100000 in
theorem F_X2_countSentences_4_w {κ : Kap} {K : Int32 → St → Prop} {c4 : (Int32 × Int32 × St) → Prop} (C : Ok κ RX2 cX2_countSentences 3 0) (hret : RetI κ cX2_countSentences .int K) (u1 : Int32) (u2 : Int32)    (σ : St) (hc4 : ∀ (u1 : Int32) (u2 : Int32) (σ : St), c4 (u1, u2, σ) → GG κ 4 [(0, .ref (kad κ 1)), (1, .int u1), (2, .int u2)] [] σ) (hp : F_X2_countSentences_4 K c4 u1 u2 σ) : GG κ 4 [(0, .ref (kad κ 1)), (1, .int u1), (2, .int u2)] [] σ := by
  unfold F_X2_countSentences_4 at hp
  refine x_iload_n 2 C rfl (dX2_countSentences_p0 4 rfl) ?_
  refine x_aload_n 0 C rfl (dX2_countSentences_p0 5 rfl) ?_
  refine gX2_1 C rfl (by decide) tw_29 (dX2_countSentences_p0 6 rfl) ?_
  refine x_icmp_ge (tgt := 32) C (dX2_countSentences_p0 7 rfl) (by decide) (fun hc => ?_) (fun hc => ?_)
  · have hp := hp.1 hc
    refine x_iload_n 1 C rfl (dX2_countSentences_p0 17 rfl) ?_
    exact hret _ _ _ _ (dX2_countSentences_p0 18 rfl) (nar_i _) hp
  · have hp := hp.2 hc
    refine x_aload_n 0 C rfl (dX2_countSentences_p0 8 rfl) ?_
    refine gX2_0 (b := 2) C rfl (by decide) rfl tw_27 (dX2_countSentences_p0 9 rfl) ?_
    refine x_iload_n 2 C rfl (dX2_countSentences_p0 10 rfl) ?_
    obtain ⟨h1, hp⟩ := hp
    refine x_iald C rfl (by decide) h1 (dX2_countSentences_p0 11 rfl) ?_
    refine x_bipush (v := 59) C (by decide) (dX2_countSentences_p0 12 rfl) ?_
    refine x_icmp_ne (tgt := 26) C (dX2_countSentences_p0 13 rfl) (by decide) (fun hc => ?_) (fun hc => ?_)
    · have hp := hp.2 hc
      obtain ⟨v2, ev2⟩ : ∃ z : Int32, z = u2 + 1 := ⟨_, rfl⟩
      have hp := hp v2 ev2
      refine x_iinc (v := v2) (loc' := [(2, .int v2), (0, .ref (kad κ 1)), (1, .int u1)]) 2 C rfl (by rw [ev2]; rfl) (by decide) rfl (dX2_countSentences_p0 15 rfl) ?_
      refine x_goto (tgt := 4) C (dX2_countSentences_p0 16 rfl) (by decide) ?_
      refine x_loc (loc' := [(0, .ref (kad κ 1)), (1, .int u1), (2, .int v2)]) [1, 2, 0] rfl ?_
      exact hc4 u1 v2 σ hp
    · have hp := hp.1 hc
      obtain ⟨v3, ev3⟩ : ∃ z : Int32, z = u1 + 1 := ⟨_, rfl⟩
      have hp := hp v3 ev3
      refine x_iinc (v := v3) (loc' := [(1, .int v3), (0, .ref (kad κ 1)), (2, .int u2)]) 1 C rfl (by rw [ev3]; rfl) (by decide) rfl (dX2_countSentences_p0 14 rfl) ?_
      obtain ⟨v4, ev4⟩ : ∃ z : Int32, z = u2 + 1 := ⟨_, rfl⟩
      have hp := hp v4 ev4
      refine x_iinc (v := v4) (loc' := [(2, .int v4), (1, .int v3), (0, .ref (kad κ 1))]) 2 C rfl (by rw [ev4]; rfl) (by decide) rfl (dX2_countSentences_p0 15 rfl) ?_
      refine x_goto (tgt := 4) C (dX2_countSentences_p0 16 rfl) (by decide) ?_
      refine x_loc (loc' := [(0, .ref (kad κ 1)), (1, .int v3), (2, .int v4)]) [2, 1, 0] rfl ?_
      exact hc4 v3 v4 σ hp
def P_X2_countSentences  (σ : St) (K : Int32 → St → Prop) : Prop := LpE (fun c s => F_X2_countSentences_4 K  c s.1 s.2.1 s.2.2) (0, 0, σ)
set_option maxHeartbeats 4000000 in
set_option maxRecDepth 100000 in
theorem m_X2_countSentences (l : Launch) (ad : Nat → Nat) (D : va_G) (ca : Nat → ClassId) (had : adOk ad)   (σ : St) (K : Int32 → St → Prop) (hp : P_X2_countSentences  σ K) : CtI l ad D ca yX2_countSentences cX2_countSentences 3 .int 0 [.ref (ad 1)] σ K := CtI_of (av := fun ad => [.ref (ad 1)]) (plainFor_of_name (by decide)) had (Nat.le_of_ble_eq_true rfl) (fun κ C hret => by
  have C : Ok κ RX2 cX2_countSentences 3 0 := C
  show GG κ 0 [(0, .ref (kad κ 1))] [] σ
  unfold P_X2_countSentences at hp
  refine x_iconst (v := 0) C (by decide) (dX2_countSentences_p0 0 rfl) ?_
  refine x_istore_n (loc' := [(1, .int 0), (0, .ref (kad κ 1))]) C rfl (by decide) rfl (dX2_countSentences_p0 1 rfl) ?_
  refine x_iconst (v := 0) C (by decide) (dX2_countSentences_p0 2 rfl) ?_
  refine x_istore_n (loc' := [(2, .int 0), (1, .int 0), (0, .ref (kad κ 1))]) C rfl (by decide) rfl (dX2_countSentences_p0 3 rfl) ?_
  refine x_loc (loc' := [(0, .ref (kad κ 1)), (1, .int 0), (2, .int 0)]) [2, 1, 0] rfl ?_
  exact LpE_GG (S := (Int32 × Int32 × St)) (F := fun c s => F_X2_countSentences_4 K  c s.1 s.2.1 s.2.2) (W := fun s => GG κ 4 [(0, .ref (kad κ 1)), (1, .int s.1), (2, .int s.2.1)] [] s.2.2) (fun c s hcc hp => F_X2_countSentences_4_w C hret s.1 s.2.1  s.2.2  (fun u1 u2 σ h => hcc (u1, u2, σ) h) hp) hp)
def P_X2_isDigit (p0 : Int32) (σ : St) (K : Int32 → St → Prop) : Prop := (p0 < 48 → (K 0 σ)) ∧ (¬ (p0 < 48) → ((57 < p0 → (K 0 σ)) ∧ (¬ (57 < p0) → (K 1 σ))))
set_option maxHeartbeats 4000000 in
set_option maxRecDepth 100000 in
theorem m_X2_isDigit (l : Launch) (ad : Nat → Nat) (D : va_G) (ca : Nat → ClassId) (had : adOk ad) (p0 : Int32)  (σ : St) (K : Int32 → St → Prop) (hp : P_X2_isDigit p0 σ K) : CtI l ad D ca yX2_isDigit cX2_isDigit 1 .boolean 0 [.int p0] σ K := CtI_of (av := fun ad => [.int p0]) (plainFor_of_name (by decide)) had (Nat.le_of_ble_eq_true rfl) (fun κ C hret => by
  have C : Ok κ RX2 cX2_isDigit 1 0 := C
  show GG κ 0 [(0, .int p0)] [] σ
  unfold P_X2_isDigit at hp
  refine x_iload_n 0 C rfl (dX2_isDigit_p0 0 rfl) ?_
  refine x_bipush (v := 48) C (by decide) (dX2_isDigit_p0 1 rfl) ?_
  refine x_icmp_lt (tgt := 16) C (dX2_isDigit_p0 2 rfl) (by decide) (fun hc => ?_) (fun hc => ?_)
  · have hp := hp.1 hc
    refine x_iconst (v := 0) C (by decide) (dX2_isDigit_p0 8 rfl) ?_
    exact hret _ _ _ _ (dX2_isDigit_p0 9 rfl) (nar_z isB0) hp
  · have hp := hp.2 hc
    refine x_iload_n 0 C rfl (dX2_isDigit_p0 3 rfl) ?_
    refine x_bipush (v := 57) C (by decide) (dX2_isDigit_p0 4 rfl) ?_
    refine x_icmp_gt (tgt := 16) C (dX2_isDigit_p0 5 rfl) (by decide) (fun hc => ?_) (fun hc => ?_)
    · have hp := hp.1 hc
      refine x_iconst (v := 0) C (by decide) (dX2_isDigit_p0 8 rfl) ?_
      exact hret _ _ _ _ (dX2_isDigit_p0 9 rfl) (nar_z isB0) hp
    · have hp := hp.2 hc
      refine x_iconst (v := 1) C (by decide) (dX2_isDigit_p0 6 rfl) ?_
      refine x_goto (tgt := 17) C (dX2_isDigit_p0 7 rfl) (by decide) ?_
      exact hret _ _ _ _ (dX2_isDigit_p0 9 rfl) (nar_z isB1) hp)
def P_X2_isHeadOf (p0 : Int32) (p1 : Int32) (σ : St) (K : Int32 → St → Prop) : Prop := P_X2_isDigit p0 σ (fun r2 s1 => (r2 = 0 → (K 0 s1)) ∧ (¬ (r2 = 0) → (((p0 - 48) = p1 → (K 0 s1)) ∧ (¬ ((p0 - 48) = p1) → (K 1 s1)))))
set_option maxHeartbeats 4000000 in
set_option maxRecDepth 100000 in
theorem m_X2_isHeadOf (l : Launch) (ad : Nat → Nat) (D : va_G) (ca : Nat → ClassId) (had : adOk ad) (p0 : Int32) (p1 : Int32)  (σ : St) (K : Int32 → St → Prop) (hp : P_X2_isHeadOf p0 p1 σ K) : CtI l ad D ca yX2_isHeadOf cX2_isHeadOf 2 .boolean 1 [.int p0, .int p1] σ K := CtI_of (av := fun ad => [.int p0, .int p1]) (plainFor_of_name (by decide)) had (Nat.le_of_ble_eq_true rfl) (fun κ C hret => by
  have C : Ok κ RX2 cX2_isHeadOf 2 1 := C
  show GG κ 0 [(0, .int p0), (1, .int p1)] [] σ
  unfold P_X2_isHeadOf at hp
  refine x_iload_n 0 C rfl (dX2_isHeadOf_p0 0 rfl) ?_
  refine x_csI (As := [.int p0]) (st := []) C LRX2_35 (m_X2_isDigit (kL κ) (kad κ) (kD κ) (kca κ) C.ado p0  σ _ hp) rfl (by decide) rfl (Nat.le_of_ble_eq_true rfl) (dX2_isHeadOf_p0 1 rfl) (fun r2 s1 hp => ?_)
  refine x_if_eq (tgt := 19) C (dX2_isHeadOf_p0 2 rfl) (by decide) (fun hc => ?_) (fun hc => ?_)
  · have hp := hp.1 hc
    refine x_iconst (v := 0) C (by decide) (dX2_isHeadOf_p0 10 rfl) ?_
    exact hret _ _ _ _ (dX2_isHeadOf_p0 11 rfl) (nar_z isB0) hp
  · have hp := hp.2 hc
    refine x_iload_n 0 C rfl (dX2_isHeadOf_p0 3 rfl) ?_
    refine x_bipush (v := 48) C (by decide) (dX2_isHeadOf_p0 4 rfl) ?_
    refine x_isub C (dX2_isHeadOf_p0 5 rfl) ?_
    refine x_iload_n 1 C rfl (dX2_isHeadOf_p0 6 rfl) ?_
    refine x_icmp_eq (tgt := 19) C (dX2_isHeadOf_p0 7 rfl) (by decide) (fun hc => ?_) (fun hc => ?_)
    · have hp := hp.1 hc
      refine x_iconst (v := 0) C (by decide) (dX2_isHeadOf_p0 10 rfl) ?_
      exact hret _ _ _ _ (dX2_isHeadOf_p0 11 rfl) (nar_z isB0) hp
    · have hp := hp.2 hc
      refine x_iconst (v := 1) C (by decide) (dX2_isHeadOf_p0 8 rfl) ?_
      refine x_goto (tgt := 20) C (dX2_isHeadOf_p0 9 rfl) (by decide) ?_
      exact hret _ _ _ _ (dX2_isHeadOf_p0 11 rfl) (nar_z isB1) hp)
def F_X7_countStepsToRoot_5 (K : Int32 → St → Prop) (c5 : (Int32 × Int32 × St) → Prop) (u0 : Nat) (u1 : Int32) (u3 : Int32) (u4 : Int32) (σ : St) : Prop := (u1 < u4 → (K (-1000004) σ)) ∧ (¬ (u1 < u4) → ((u3 = 0 → (K u4 σ)) ∧ (¬ (u3 = 0) → ((u3 < 0 → (K (-1000004) σ)) ∧ (¬ (u3 < 0) → ((u3 ≤ u1 → (vp_in u3 (ln u0) ∧ (∀ v2 : Int32, v2 = (σ.1 u0 (ix u3)) → ∀ v3 : Int32, v3 = u4 + 1 → c5 (v2, v3, σ)))) ∧ (¬ (u3 ≤ u1) → (K (-1000004) σ))))))))
set_option maxHeartbeats 4000000 in
set_option maxRecDepth 100000 in
theorem F_X7_countStepsToRoot_5_w {κ : Kap} {K : Int32 → St → Prop} {c5 : (Int32 × Int32 × St) → Prop} (C : Ok κ RX7 cX7_countStepsToRoot 5 0) (hret : RetI κ cX7_countStepsToRoot .int K) (u0 : Nat) (u1 : Int32) (u3 : Int32) (u4 : Int32) (hu0k : kd u0 = 10) (hu0l : u0 < NC)    (σ : St) (hc5 : ∀ (u3 : Int32) (u4 : Int32) (σ : St), c5 (u3, u4, σ) → GG κ 5 [(0, .ref (kad κ u0)), (1, .int u1), (3, .int u3), (4, .int u4)] [] σ) (hp : F_X7_countStepsToRoot_5 K c5 u0 u1 u3 u4 σ) : GG κ 5 [(0, .ref (kad κ u0)), (1, .int u1), (3, .int u3), (4, .int u4)] [] σ := by
  unfold F_X7_countStepsToRoot_5 at hp
  refine x_iload 3 C rfl (dX7_countStepsToRoot_p0 4 rfl) ?_
  refine x_iload_n 1 C rfl (dX7_countStepsToRoot_p0 5 rfl) ?_
  refine x_icmp_gt (tgt := 40) C (dX7_countStepsToRoot_p0 6 rfl) (by decide) (fun hc => ?_) (fun hc => ?_)
  · have hp := hp.1 hc
    refine x_ldc C tw_299 (dX7_countStepsToRoot_p0 24 rfl) ?_
    exact hret _ _ _ _ (dX7_countStepsToRoot_p0 25 rfl) (nar_i _) hp
  · have hp := hp.2 hc
    refine x_iload_n 2 C rfl (dX7_countStepsToRoot_p0 7 rfl) ?_
    refine x_if_ne (tgt := 18) C (dX7_countStepsToRoot_p0 8 rfl) (by decide) (fun hc => ?_) (fun hc => ?_)
    · have hp := hp.2 hc
      refine x_iload_n 2 C rfl (dX7_countStepsToRoot_p0 11 rfl) ?_
      refine x_if_lt (tgt := 27) C (dX7_countStepsToRoot_p0 12 rfl) (by decide) (fun hc => ?_) (fun hc => ?_)
      · have hp := hp.1 hc
        refine x_ldc C tw_299 (dX7_countStepsToRoot_p0 16 rfl) ?_
        exact hret _ _ _ _ (dX7_countStepsToRoot_p0 17 rfl) (nar_i _) hp
      · have hp := hp.2 hc
        refine x_iload_n 2 C rfl (dX7_countStepsToRoot_p0 13 rfl) ?_
        refine x_iload_n 1 C rfl (dX7_countStepsToRoot_p0 14 rfl) ?_
        refine x_icmp_le (tgt := 30) C (dX7_countStepsToRoot_p0 15 rfl) (by decide) (fun hc => ?_) (fun hc => ?_)
        · have hp := hp.1 hc
          refine x_aload_n 0 C rfl (dX7_countStepsToRoot_p0 18 rfl) ?_
          refine x_iload_n 2 C rfl (dX7_countStepsToRoot_p0 19 rfl) ?_
          obtain ⟨h1, hp⟩ := hp
          refine x_iald C hu0k hu0l h1 (dX7_countStepsToRoot_p0 20 rfl) ?_
          refine x_topI (fun v2 ev2 => ?_)
          have hp := hp v2 ev2
          refine x_istore_n (loc' := [(3, .int v2), (0, .ref (kad κ u0)), (1, .int u1), (4, .int u4)]) C rfl (by decide) rfl (dX7_countStepsToRoot_p0 21 rfl) ?_
          obtain ⟨v3, ev3⟩ : ∃ z : Int32, z = u4 + 1 := ⟨_, rfl⟩
          have hp := hp v3 ev3
          refine x_iinc (v := v3) (loc' := [(4, .int v3), (3, .int v2), (0, .ref (kad κ u0)), (1, .int u1)]) 3 C rfl (by rw [ev3]; rfl) (by decide) rfl (dX7_countStepsToRoot_p0 22 rfl) ?_
          refine x_goto (tgt := 5) C (dX7_countStepsToRoot_p0 23 rfl) (by decide) ?_
          refine x_loc (loc' := [(0, .ref (kad κ u0)), (1, .int u1), (3, .int v2), (4, .int v3)]) [2, 3, 1, 0] rfl ?_
          exact hc5 v2 v3 σ hp
        · have hp := hp.2 hc
          refine x_ldc C tw_299 (dX7_countStepsToRoot_p0 16 rfl) ?_
          exact hret _ _ _ _ (dX7_countStepsToRoot_p0 17 rfl) (nar_i _) hp
    · have hp := hp.1 hc
      refine x_iload 3 C rfl (dX7_countStepsToRoot_p0 9 rfl) ?_
      exact hret _ _ _ _ (dX7_countStepsToRoot_p0 10 rfl) (nar_i _) hp
def P_X7_countStepsToRoot (p0 : Nat) (p1 : Int32) (p2 : Int32) (σ : St) (K : Int32 → St → Prop) : Prop := LpE (fun c s => F_X7_countStepsToRoot_5 K  c p0 p1 s.1 s.2.1 s.2.2) (p2, 0, σ)
set_option maxHeartbeats 4000000 in
set_option maxRecDepth 100000 in
theorem m_X7_countStepsToRoot (l : Launch) (ad : Nat → Nat) (D : va_G) (ca : Nat → ClassId) (had : adOk ad) (p0 : Nat) (p1 : Int32) (p2 : Int32) (hp0k : kd p0 = 10) (hp0l : p0 < NC) (σ : St) (K : Int32 → St → Prop) (hp : P_X7_countStepsToRoot p0 p1 p2 σ K) : CtI l ad D ca yX7_countStepsToRoot cX7_countStepsToRoot 5 .int 0 [.ref (ad p0), .int p1, .int p2] σ K := CtI_of (av := fun ad => [.ref (ad p0), .int p1, .int p2]) (plainFor_of_name (by decide)) had (Nat.le_of_ble_eq_true rfl) (fun κ C hret => by
  have C : Ok κ RX7 cX7_countStepsToRoot 5 0 := C
  show GG κ 0 [(0, .ref (kad κ p0)), (1, .int p1), (2, .int p2)] [] σ
  unfold P_X7_countStepsToRoot at hp
  refine x_iload_n 2 C rfl (dX7_countStepsToRoot_p0 0 rfl) ?_
  refine x_istore_n (loc' := [(3, .int p2), (0, .ref (kad κ p0)), (1, .int p1), (2, .int p2)]) C rfl (by decide) rfl (dX7_countStepsToRoot_p0 1 rfl) ?_
  refine x_iconst (v := 0) C (by decide) (dX7_countStepsToRoot_p0 2 rfl) ?_
  refine x_istore (loc' := [(4, .int 0), (3, .int p2), (0, .ref (kad κ p0)), (1, .int p1), (2, .int p2)]) C (by decide) rfl (dX7_countStepsToRoot_p0 3 rfl) ?_
  refine x_loc (loc' := [(0, .ref (kad κ p0)), (1, .int p1), (3, .int p2), (4, .int 0)]) [2, 3, 1, 0] rfl ?_
  exact LpE_GG (S := (Int32 × Int32 × St)) (F := fun c s => F_X7_countStepsToRoot_5 K  c p0 p1 s.1 s.2.1 s.2.2) (W := fun s => GG κ 5 [(0, .ref (kad κ p0)), (1, .int p1), (3, .int s.1), (4, .int s.2.1)] [] s.2.2) (fun c s hcc hp => F_X7_countStepsToRoot_5_w C hret p0 p1 s.1 s.2.1 hp0k hp0l s.2.2  (fun u3 u4 σ h => hcc (u3, u4, σ) h) hp) hp)
def F_X7_formTree_2 (K : Int32 → St → Prop) (c2 : (Int32 × St) → Prop) (u0 : Nat) (u1 : Int32) (u2 : Int32) (σ : St) : Prop := (u1 < u2 → (K 1 σ)) ∧ (¬ (u1 < u2) → P_X7_countStepsToRoot u0 u1 u2 σ (fun r2 s1 => (r2 = (-1000004) → (K 0 s1)) ∧ (¬ (r2 = (-1000004)) → ∀ v3 : Int32, v3 = u2 + 1 → c2 (v3, s1))))
set_option maxHeartbeats 4000000 in
set_option maxRecDepth 100000 in
theorem F_X7_formTree_2_w {κ : Kap} {K : Int32 → St → Prop} {c2 : (Int32 × St) → Prop} (C : Ok κ RX7 cX7_formTree 3 1) (hret : RetI κ cX7_formTree .boolean K) (u0 : Nat) (u1 : Int32) (u2 : Int32) (hu0k : kd u0 = 10) (hu0l : u0 < NC)   (σ : St) (hc2 : ∀ (u2 : Int32) (σ : St), c2 (u2, σ) → GG κ 2 [(0, .ref (kad κ u0)), (1, .int u1), (2, .int u2)] [] σ) (hp : F_X7_formTree_2 K c2 u0 u1 u2 σ) : GG κ 2 [(0, .ref (kad κ u0)), (1, .int u1), (2, .int u2)] [] σ := by
  unfold F_X7_formTree_2 at hp
  refine x_iload_n 2 C rfl (dX7_formTree_p0 2 rfl) ?_
  refine x_iload_n 1 C rfl (dX7_formTree_p0 3 rfl) ?_
  refine x_icmp_gt (tgt := 26) C (dX7_formTree_p0 4 rfl) (by decide) (fun hc => ?_) (fun hc => ?_)
  · have hp := hp.1 hc
    refine x_iconst (v := 1) C (by decide) (dX7_formTree_p0 15 rfl) ?_
    exact hret _ _ _ _ (dX7_formTree_p0 16 rfl) (nar_z isB1) hp
  · have hp := hp.2 hc
    refine x_aload_n 0 C rfl (dX7_formTree_p0 5 rfl) ?_
    refine x_iload_n 1 C rfl (dX7_formTree_p0 6 rfl) ?_
    refine x_iload_n 2 C rfl (dX7_formTree_p0 7 rfl) ?_
    refine x_csI (As := [.ref (kad κ u0), .int u1, .int u2]) (st := []) C LRX7_223 (m_X7_countStepsToRoot (kL κ) (kad κ) (kD κ) (kca κ) C.ado u0 u1 u2 hu0k hu0l σ _ hp) rfl (by decide) rfl (Nat.le_of_ble_eq_true rfl) (dX7_formTree_p0 8 rfl) (fun r2 s1 hp => ?_)
    refine x_ldc C tw_299 (dX7_formTree_p0 9 rfl) ?_
    refine x_icmp_ne (tgt := 20) C (dX7_formTree_p0 10 rfl) (by decide) (fun hc => ?_) (fun hc => ?_)
    · have hp := hp.2 hc
      obtain ⟨v3, ev3⟩ : ∃ z : Int32, z = u2 + 1 := ⟨_, rfl⟩
      have hp := hp v3 ev3
      refine x_iinc (v := v3) (loc' := [(2, .int v3), (0, .ref (kad κ u0)), (1, .int u1)]) 2 C rfl (by rw [ev3]; rfl) (by decide) rfl (dX7_formTree_p0 13 rfl) ?_
      refine x_goto (tgt := 2) C (dX7_formTree_p0 14 rfl) (by decide) ?_
      refine x_loc (loc' := [(0, .ref (kad κ u0)), (1, .int u1), (2, .int v3)]) [1, 2, 0] rfl ?_
      exact hc2 v3 s1 hp
    · have hp := hp.1 hc
      refine x_iconst (v := 0) C (by decide) (dX7_formTree_p0 11 rfl) ?_
      exact hret _ _ _ _ (dX7_formTree_p0 12 rfl) (nar_z isB0) hp
def P_X7_formTree (p0 : Nat) (p1 : Int32) (σ : St) (K : Int32 → St → Prop) : Prop := LpE (fun c s => F_X7_formTree_2 K  c p0 p1 s.1 s.2) (1, σ)
set_option maxHeartbeats 4000000 in
set_option maxRecDepth 100000 in
theorem m_X7_formTree (l : Launch) (ad : Nat → Nat) (D : va_G) (ca : Nat → ClassId) (had : adOk ad) (p0 : Nat) (p1 : Int32) (hp0k : kd p0 = 10) (hp0l : p0 < NC) (σ : St) (K : Int32 → St → Prop) (hp : P_X7_formTree p0 p1 σ K) : CtI l ad D ca yX7_formTree cX7_formTree 3 .boolean 1 [.ref (ad p0), .int p1] σ K := CtI_of (av := fun ad => [.ref (ad p0), .int p1]) (plainFor_of_name (by decide)) had (Nat.le_of_ble_eq_true rfl) (fun κ C hret => by
  have C : Ok κ RX7 cX7_formTree 3 1 := C
  show GG κ 0 [(0, .ref (kad κ p0)), (1, .int p1)] [] σ
  unfold P_X7_formTree at hp
  refine x_iconst (v := 1) C (by decide) (dX7_formTree_p0 0 rfl) ?_
  refine x_istore_n (loc' := [(2, .int 1), (0, .ref (kad κ p0)), (1, .int p1)]) C rfl (by decide) rfl (dX7_formTree_p0 1 rfl) ?_
  refine x_loc (loc' := [(0, .ref (kad κ p0)), (1, .int p1), (2, .int 1)]) [1, 2, 0] rfl ?_
  exact LpE_GG (S := (Int32 × St)) (F := fun c s => F_X7_formTree_2 K  c p0 p1 s.1 s.2) (W := fun s => GG κ 2 [(0, .ref (kad κ p0)), (1, .int p1), (2, .int s.1)] [] s.2) (fun c s hcc hp => F_X7_formTree_2_w C hret p0 p1 s.1 hp0k hp0l s.2  (fun u2 σ h => hcc (u2, σ) h) hp) hp)
def P_X2_isTagLetter (p0 : Int32) (σ : St) (K : Int32 → St → Prop) : Prop := (p0 < 65 → (K 0 σ)) ∧ (¬ (p0 < 65) → ((73 ≤ p0 → (K 0 σ)) ∧ (¬ (73 ≤ p0) → (K 1 σ))))
set_option maxHeartbeats 4000000 in
set_option maxRecDepth 100000 in
theorem m_X2_isTagLetter (l : Launch) (ad : Nat → Nat) (D : va_G) (ca : Nat → ClassId) (had : adOk ad) (p0 : Int32)  (σ : St) (K : Int32 → St → Prop) (hp : P_X2_isTagLetter p0 σ K) : CtI l ad D ca yX2_isTagLetter cX2_isTagLetter 1 .boolean 0 [.int p0] σ K := CtI_of (av := fun ad => [.int p0]) (plainFor_of_name (by decide)) had (Nat.le_of_ble_eq_true rfl) (fun κ C hret => by
  have C : Ok κ RX2 cX2_isTagLetter 1 0 := C
  show GG κ 0 [(0, .int p0)] [] σ
  unfold P_X2_isTagLetter at hp
  refine x_iload_n 0 C rfl (dX2_isTagLetter_p0 0 rfl) ?_
  refine x_bipush (v := 65) C (by decide) (dX2_isTagLetter_p0 1 rfl) ?_
  refine x_icmp_lt (tgt := 16) C (dX2_isTagLetter_p0 2 rfl) (by decide) (fun hc => ?_) (fun hc => ?_)
  · have hp := hp.1 hc
    refine x_iconst (v := 0) C (by decide) (dX2_isTagLetter_p0 8 rfl) ?_
    exact hret _ _ _ _ (dX2_isTagLetter_p0 9 rfl) (nar_z isB0) hp
  · have hp := hp.2 hc
    refine x_iload_n 0 C rfl (dX2_isTagLetter_p0 3 rfl) ?_
    refine x_bipush (v := 73) C (by decide) (dX2_isTagLetter_p0 4 rfl) ?_
    refine x_icmp_ge (tgt := 16) C (dX2_isTagLetter_p0 5 rfl) (by decide) (fun hc => ?_) (fun hc => ?_)
    · have hp := hp.1 hc
      refine x_iconst (v := 0) C (by decide) (dX2_isTagLetter_p0 8 rfl) ?_
      exact hret _ _ _ _ (dX2_isTagLetter_p0 9 rfl) (nar_z isB0) hp
    · have hp := hp.2 hc
      refine x_iconst (v := 1) C (by decide) (dX2_isTagLetter_p0 6 rfl) ?_
      refine x_goto (tgt := 17) C (dX2_isTagLetter_p0 7 rfl) (by decide) ?_
      exact hret _ _ _ _ (dX2_isTagLetter_p0 9 rfl) (nar_z isB1) hp)
def F_X2_findFault_6 (K : Int32 → St → Prop) (c6 : (Int32 × Int32 × Int32 × St) → Prop) (u1 : Int32) (u2 : Int32) (u3 : Int32) (σ : St) : Prop := ((σ.1 1 1) ≤ u3 → (((σ.1 1 1) = 0 → (K (σ.1 1 1) σ)) ∧ (¬ ((σ.1 1 1) = 0) → ((u1 ≤ 0 → (K (-1000004) σ)) ∧ (¬ (u1 ≤ 0) → (K (σ.1 1 1) σ)))))) ∧ (¬ ((σ.1 1 1) ≤ u3) → vp_in u3 100 ∧ (∀ v2 : Int32, v2 = (σ.1 2 (ix u3)) → ((u2 = 0 → ((v2 = 59 → ((u1 = 0 → (K u3 σ)) ∧ (¬ (u1 = 0) → P_X7_formTree 3 u1 σ (fun r8 s7 => (r8 = 0 → (K u3 s7)) ∧ (¬ (r8 = 0) → ∀ v9 : Int32, v9 = u3 + 1 → c6 (0, u2, v9, s7)))))) ∧ (¬ (v2 = 59) → P_X2_isTagLetter v2 σ (fun r4 s3 => (r4 = 0 → (K u3 s3)) ∧ (¬ (r4 = 0) → ((u1 < 6 → ∀ v5 : Int32, v5 = u1 + 1 → ∀ v6 : Int32, v6 = u3 + 1 → c6 (v5, 1, v6, s3)) ∧ (¬ (u1 < 6) → (K u3 s3)))))))) ∧ (¬ (u2 = 0) → P_X2_isHeadOf v2 u1 σ (fun r11 s10 => (r11 = 0 → (K u3 s10)) ∧ (¬ (r11 = 0) → (vp_in u1 7 ∧ ∀ s13 : St, s13 = wI s10 3 (ix u1) (v2 - 48) → ∀ v14 : Int32, v14 = u3 + 1 → c6 (u1, 0, v14, s13))))))))
set_option maxHeartbeats 4000000 in
set_option maxRecDepth 100000 in
theorem F_X2_findFault_6_w {κ : Kap} {K : Int32 → St → Prop} {c6 : (Int32 × Int32 × Int32 × St) → Prop} (C : Ok κ RX2 cX2_findFault 5 2) (hret : RetI κ cX2_findFault .int K) (u1 : Int32) (u2 : Int32) (u3 : Int32)     (σ : St) (hc6 : ∀ (u1 : Int32) (u2 : Int32) (u3 : Int32) (σ : St), c6 (u1, u2, u3, σ) → GG κ 6 [(0, .ref (kad κ 1)), (1, .int u1), (2, .int u2), (3, .int u3)] [] σ) (hp : F_X2_findFault_6 K c6 u1 u2 u3 σ) : GG κ 6 [(0, .ref (kad κ 1)), (1, .int u1), (2, .int u2), (3, .int u3)] [] σ := by
  unfold F_X2_findFault_6 at hp
  refine x_iload_n 3 C rfl (dX2_findFault_p0 6 rfl) ?_
  refine x_aload_n 0 C rfl (dX2_findFault_p0 7 rfl) ?_
  refine gX2_1 C rfl (by decide) tw_29 (dX2_findFault_p0 8 rfl) ?_
  refine x_icmp_ge (tgt := 109) C (dX2_findFault_p0 9 rfl) (by decide) (fun hc => ?_) (fun hc => ?_)
  · have hp := hp.1 hc
    refine x_aload_n 0 C rfl (dX2_findFault_p0 61 rfl) ?_
    refine gX2_1 C rfl (by decide) tw_29 (dX2_findFault_p0 62 rfl) ?_
    refine x_if_eq (tgt := 120) C (dX2_findFault_p0 63 rfl) (by decide) (fun hc => ?_) (fun hc => ?_)
    · have hp := hp.1 hc
      refine x_aload_n 0 C rfl (dX2_findFault_p1 2 rfl) ?_
      refine gX2_1 C rfl (by decide) tw_29 (dX2_findFault_p1 3 rfl) ?_
      refine x_goto (tgt := 129) C (dX2_findFault_p1 4 rfl) (by decide) ?_
      exact hret _ _ _ _ (dX2_findFault_p1 6 rfl) (nar_i _) hp
    · have hp := hp.2 hc
      refine x_iload_n 1 C rfl (dX2_findFault_p1 0 rfl) ?_
      refine x_if_le (tgt := 127) C (dX2_findFault_p1 1 rfl) (by decide) (fun hc => ?_) (fun hc => ?_)
      · have hp := hp.1 hc
        refine x_ldc C tw_303 (dX2_findFault_p1 5 rfl) ?_
        exact hret _ _ _ _ (dX2_findFault_p1 6 rfl) (nar_i _) hp
      · have hp := hp.2 hc
        refine x_aload_n 0 C rfl (dX2_findFault_p1 2 rfl) ?_
        refine gX2_1 C rfl (by decide) tw_29 (dX2_findFault_p1 3 rfl) ?_
        refine x_goto (tgt := 129) C (dX2_findFault_p1 4 rfl) (by decide) ?_
        exact hret _ _ _ _ (dX2_findFault_p1 6 rfl) (nar_i _) hp
  · have hp := hp.2 hc
    refine x_aload_n 0 C rfl (dX2_findFault_p0 10 rfl) ?_
    refine gX2_0 (b := 2) C rfl (by decide) rfl tw_27 (dX2_findFault_p0 11 rfl) ?_
    refine x_iload_n 3 C rfl (dX2_findFault_p0 12 rfl) ?_
    obtain ⟨h1, hp⟩ := hp
    refine x_iald C rfl (by decide) h1 (dX2_findFault_p0 13 rfl) ?_
    refine x_topI (fun v2 ev2 => ?_)
    have hp := hp v2 ev2
    refine x_istore (loc' := [(4, .int v2), (0, .ref (kad κ 1)), (1, .int u1), (2, .int u2), (3, .int u3)]) C (by decide) rfl (dX2_findFault_p0 14 rfl) ?_
    refine x_iload_n 3 C rfl (dX2_findFault_p0 15 rfl) ?_
    refine x_if_eq (tgt := 53) C (dX2_findFault_p0 16 rfl) (by decide) (fun hc => ?_) (fun hc => ?_)
    · have hp := hp.1 hc
      refine x_iload 0 C rfl (dX2_findFault_p0 33 rfl) ?_
      refine x_bipush (v := 59) C (by decide) (dX2_findFault_p0 34 rfl) ?_
      refine x_icmp_ne (tgt := 82) C (dX2_findFault_p0 35 rfl) (by decide) (fun hc => ?_) (fun hc => ?_)
      · have hp := hp.2 hc
        refine x_iload 0 C rfl (dX2_findFault_p0 48 rfl) ?_
        refine x_csI (As := [.int v2]) (st := []) C LRX2_30 (m_X2_isTagLetter (kL κ) (kad κ) (kD κ) (kca κ) C.ado v2  σ _ hp) rfl (by decide) rfl (Nat.le_of_ble_eq_true rfl) (dX2_findFault_p0 49 rfl) (fun r4 s3 hp => ?_)
        refine x_if_eq (tgt := 96) C (dX2_findFault_p0 50 rfl) (by decide) (fun hc => ?_) (fun hc => ?_)
        · have hp := hp.1 hc
          refine x_iload_n 4 C rfl (dX2_findFault_p0 54 rfl) ?_
          exact hret _ _ _ _ (dX2_findFault_p0 55 rfl) (nar_i _) hp
        · have hp := hp.2 hc
          refine x_iload_n 2 C rfl (dX2_findFault_p0 51 rfl) ?_
          refine x_bipush (v := 6) C (by decide) (dX2_findFault_p0 52 rfl) ?_
          refine x_icmp_lt (tgt := 98) C (dX2_findFault_p0 53 rfl) (by decide) (fun hc => ?_) (fun hc => ?_)
          · have hp := hp.1 hc
            obtain ⟨v5, ev5⟩ : ∃ z : Int32, z = u1 + 1 := ⟨_, rfl⟩
            have hp := hp v5 ev5
            refine x_iinc (v := v5) (loc' := [(1, .int v5), (4, .int v2), (0, .ref (kad κ 1)), (2, .int u2), (3, .int u3)]) 2 C rfl (by rw [ev5]; rfl) (by decide) rfl (dX2_findFault_p0 56 rfl) ?_
            refine x_iconst (v := 1) C (by decide) (dX2_findFault_p0 57 rfl) ?_
            refine x_istore_n (loc' := [(2, .int 1), (1, .int v5), (4, .int v2), (0, .ref (kad κ 1)), (3, .int u3)]) C rfl (by decide) rfl (dX2_findFault_p0 58 rfl) ?_
            obtain ⟨v6, ev6⟩ : ∃ z : Int32, z = u3 + 1 := ⟨_, rfl⟩
            have hp := hp v6 ev6
            refine x_iinc (v := v6) (loc' := [(3, .int v6), (2, .int 1), (1, .int v5), (4, .int v2), (0, .ref (kad κ 1))]) 4 C rfl (by rw [ev6]; rfl) (by decide) rfl (dX2_findFault_p0 59 rfl) ?_
            refine x_goto (tgt := 6) C (dX2_findFault_p0 60 rfl) (by decide) ?_
            refine x_loc (loc' := [(0, .ref (kad κ 1)), (1, .int v5), (2, .int 1), (3, .int v6)]) [4, 2, 1, 0] rfl ?_
            exact hc6 v5 1 v6 s3 hp
          · have hp := hp.2 hc
            refine x_iload_n 4 C rfl (dX2_findFault_p0 54 rfl) ?_
            exact hret _ _ _ _ (dX2_findFault_p0 55 rfl) (nar_i _) hp
      · have hp := hp.1 hc
        refine x_iload_n 2 C rfl (dX2_findFault_p0 36 rfl) ?_
        refine x_if_eq (tgt := 75) C (dX2_findFault_p0 37 rfl) (by decide) (fun hc => ?_) (fun hc => ?_)
        · have hp := hp.1 hc
          refine x_iload_n 4 C rfl (dX2_findFault_p0 43 rfl) ?_
          exact hret _ _ _ _ (dX2_findFault_p0 44 rfl) (nar_i _) hp
        · have hp := hp.2 hc
          refine x_aload_n 1 C rfl (dX2_findFault_p0 38 rfl) ?_
          refine gX2_2 (b := 3) C rfl (by decide) rfl tw_31 (dX2_findFault_p0 39 rfl) ?_
          refine x_iload_n 2 C rfl (dX2_findFault_p0 40 rfl) ?_
          refine x_cnI (As := [.ref (kad κ 3), .int u1]) (st := []) C LRX2_26 C.kn.2.1.1 (m_X7_formTree (kL κ) (kad κ) (kD κ) (kca κ) C.ado 3 u1 rfl (by decide) σ _ hp) rfl (by decide) rfl (Nat.le_of_ble_eq_true rfl) (dX2_findFault_p0 41 rfl) (fun r8 s7 hp => ?_)
          refine x_if_ne (tgt := 77) C (dX2_findFault_p0 42 rfl) (by decide) (fun hc => ?_) (fun hc => ?_)
          · have hp := hp.2 hc
            refine x_iconst (v := 0) C (by decide) (dX2_findFault_p0 45 rfl) ?_
            refine x_istore_n (loc' := [(1, .int 0), (4, .int v2), (0, .ref (kad κ 1)), (2, .int u2), (3, .int u3)]) C rfl (by decide) rfl (dX2_findFault_p0 46 rfl) ?_
            refine x_goto (tgt := 103) C (dX2_findFault_p0 47 rfl) (by decide) ?_
            obtain ⟨v9, ev9⟩ : ∃ z : Int32, z = u3 + 1 := ⟨_, rfl⟩
            have hp := hp v9 ev9
            refine x_iinc (v := v9) (loc' := [(3, .int v9), (1, .int 0), (4, .int v2), (0, .ref (kad κ 1)), (2, .int u2)]) 4 C rfl (by rw [ev9]; rfl) (by decide) rfl (dX2_findFault_p0 59 rfl) ?_
            refine x_goto (tgt := 6) C (dX2_findFault_p0 60 rfl) (by decide) ?_
            refine x_loc (loc' := [(0, .ref (kad κ 1)), (1, .int 0), (2, .int u2), (3, .int v9)]) [3, 1, 4, 0] rfl ?_
            exact hc6 0 u2 v9 s7 hp
          · have hp := hp.1 hc
            refine x_iload_n 4 C rfl (dX2_findFault_p0 43 rfl) ?_
            exact hret _ _ _ _ (dX2_findFault_p0 44 rfl) (nar_i _) hp
    · have hp := hp.2 hc
      refine x_iload 0 C rfl (dX2_findFault_p0 17 rfl) ?_
      refine x_iload_n 2 C rfl (dX2_findFault_p0 18 rfl) ?_
      refine x_csI (As := [.int v2, .int u1]) (st := []) C LRX2_22 (m_X2_isHeadOf (kL κ) (kad κ) (kD κ) (kca κ) C.ado v2 u1  σ _ hp) rfl (by decide) rfl (Nat.le_of_ble_eq_true rfl) (dX2_findFault_p0 19 rfl) (fun r11 s10 hp => ?_)
      refine x_if_ne (tgt := 37) C (dX2_findFault_p0 20 rfl) (by decide) (fun hc => ?_) (fun hc => ?_)
      · have hp := hp.2 hc
        refine x_aload_n 1 C rfl (dX2_findFault_p0 23 rfl) ?_
        refine gX2_2 (b := 3) C rfl (by decide) rfl tw_31 (dX2_findFault_p0 24 rfl) ?_
        refine x_iload_n 2 C rfl (dX2_findFault_p0 25 rfl) ?_
        refine x_iload 0 C rfl (dX2_findFault_p0 26 rfl) ?_
        refine x_bipush (v := 48) C (by decide) (dX2_findFault_p0 27 rfl) ?_
        refine x_isub C (dX2_findFault_p0 28 rfl) ?_
        obtain ⟨h12, hp⟩ := hp
        refine x_iast C rfl (by decide) h12 (dX2_findFault_p0 29 rfl) ?_
        refine x_nmS (fun s13 es13 => ?_)
        have hp := hp s13 es13
        refine x_iconst (v := 0) C (by decide) (dX2_findFault_p0 30 rfl) ?_
        refine x_istore_n (loc' := [(2, .int 0), (4, .int v2), (0, .ref (kad κ 1)), (1, .int u1), (3, .int u3)]) C rfl (by decide) rfl (dX2_findFault_p0 31 rfl) ?_
        refine x_goto (tgt := 103) C (dX2_findFault_p0 32 rfl) (by decide) ?_
        obtain ⟨v14, ev14⟩ : ∃ z : Int32, z = u3 + 1 := ⟨_, rfl⟩
        have hp := hp v14 ev14
        refine x_iinc (v := v14) (loc' := [(3, .int v14), (2, .int 0), (4, .int v2), (0, .ref (kad κ 1)), (1, .int u1)]) 4 C rfl (by rw [ev14]; rfl) (by decide) rfl (dX2_findFault_p0 59 rfl) ?_
        refine x_goto (tgt := 6) C (dX2_findFault_p0 60 rfl) (by decide) ?_
        refine x_loc (loc' := [(0, .ref (kad κ 1)), (1, .int u1), (2, .int 0), (3, .int v14)]) [3, 4, 1, 0] rfl ?_
        exact hc6 u1 0 v14 s13 hp
      · have hp := hp.1 hc
        refine x_iload_n 4 C rfl (dX2_findFault_p0 21 rfl) ?_
        exact hret _ _ _ _ (dX2_findFault_p0 22 rfl) (nar_i _) hp
def P_X2_findFault  (σ : St) (K : Int32 → St → Prop) : Prop := LpE (fun c s => F_X2_findFault_6 K  c s.1 s.2.1 s.2.2.1 s.2.2.2) (0, 0, 0, σ)
set_option maxHeartbeats 4000000 in
set_option maxRecDepth 100000 in
theorem m_X2_findFault (l : Launch) (ad : Nat → Nat) (D : va_G) (ca : Nat → ClassId) (had : adOk ad)   (σ : St) (K : Int32 → St → Prop) (hp : P_X2_findFault  σ K) : CtI l ad D ca yX2_findFault cX2_findFault 5 .int 2 [.ref (ad 1)] σ K := CtI_of (av := fun ad => [.ref (ad 1)]) (plainFor_of_name (by decide)) had (Nat.le_of_ble_eq_true rfl) (fun κ C hret => by
  have C : Ok κ RX2 cX2_findFault 5 2 := C
  show GG κ 0 [(0, .ref (kad κ 1))] [] σ
  unfold P_X2_findFault at hp
  refine x_iconst (v := 0) C (by decide) (dX2_findFault_p0 0 rfl) ?_
  refine x_istore_n (loc' := [(1, .int 0), (0, .ref (kad κ 1))]) C rfl (by decide) rfl (dX2_findFault_p0 1 rfl) ?_
  refine x_iconst (v := 0) C (by decide) (dX2_findFault_p0 2 rfl) ?_
  refine x_istore_n (loc' := [(2, .int 0), (1, .int 0), (0, .ref (kad κ 1))]) C rfl (by decide) rfl (dX2_findFault_p0 3 rfl) ?_
  refine x_iconst (v := 0) C (by decide) (dX2_findFault_p0 4 rfl) ?_
  refine x_istore_n (loc' := [(3, .int 0), (2, .int 0), (1, .int 0), (0, .ref (kad κ 1))]) C rfl (by decide) rfl (dX2_findFault_p0 5 rfl) ?_
  refine x_loc (loc' := [(0, .ref (kad κ 1)), (1, .int 0), (2, .int 0), (3, .int 0)]) [3, 2, 1, 0] rfl ?_
  exact LpE_GG (S := (Int32 × Int32 × Int32 × St)) (F := fun c s => F_X2_findFault_6 K  c s.1 s.2.1 s.2.2.1 s.2.2.2) (W := fun s => GG κ 6 [(0, .ref (kad κ 1)), (1, .int s.1), (2, .int s.2.1), (3, .int s.2.2.1)] [] s.2.2.2) (fun c s hcc hp => F_X2_findFault_6_w C hret s.1 s.2.1 s.2.2.1  s.2.2.2  (fun u1 u2 u3 σ h => hcc (u1, u2, u3, σ) h) hp) hp)
def P_X3_apply (p1 : Int32) (σ : St) (K : St → Prop) : Prop := (p1 = 0 → (∀ s15 : St, s15 = wI σ 196 10 ((σ.1 196 10) - 1) → (vp_in (s15.1 196 10) 7 ∧ (vp_in (s15.1 196 8) 7 ∧ ∀ s18 : St, s18 = wI s15 201 (ix (s15.1 196 8)) (s15.1 202 (ix (s15.1 196 10))) → (∀ s19 : St, s19 = wI s18 196 8 ((s18.1 196 8) + 1) → (K s19)))))) ∧ (¬ (p1 = 0) → (vp_in ((σ.1 196 8) - 1) 7 ∧ (∀ v2 : Int32, v2 = (σ.1 201 (ix ((σ.1 196 8) - 1))) → (vp_in ((σ.1 196 8) - 2) 7 ∧ (∀ v4 : Int32, v4 = (σ.1 201 (ix ((σ.1 196 8) - 2))) → (∀ s5 : St, s5 = wI σ 196 8 ((σ.1 196 8) - 1) → ((p1 = 2 → (vp_in v2 7 ∧ ∀ s14 : St, s14 = wI s5 203 (ix v2) 1 → (K s14))) ∧ (¬ (p1 = 2) → (vp_in ((s5.1 196 8) - 1) 7 ∧ ∀ s7 : St, s7 = wI s5 201 (ix ((s5.1 196 8) - 1)) v2 → ((p1 = 1 → (vp_in v4 7 ∧ ∀ s12 : St, s12 = wI s7 203 (ix v4) 1 → (K s12))) ∧ (¬ (p1 = 1) → (vp_in (s7.1 196 10) 7 ∧ ∀ s9 : St, s9 = wI s7 202 (ix (s7.1 196 10)) v4 → (∀ s10 : St, s10 = wI s9 196 10 ((s9.1 196 10) + 1) → (K s10))))))))))))))
set_option maxHeartbeats 4000000 in
set_option maxRecDepth 100000 in
theorem m_X3_apply (l : Launch) (ad : Nat → Nat) (D : va_G) (ca : Nat → ClassId) (had : adOk ad) (p1 : Int32)  (σ : St) (K : St → Prop) (hp : P_X3_apply p1 σ K) : CtV l ad D ca yX3_apply cX3_apply 4 0 [.ref (ad 196), .int p1] σ K := CtV_of (av := fun ad => [.ref (ad 196), .int p1]) (plainFor_of_name (by decide)) had (Nat.le_of_ble_eq_true rfl) (fun κ C hret => by
  have C : Ok κ RX3 cX3_apply 4 0 := C
  show GG κ 0 [(0, .ref (kad κ 196)), (1, .int p1)] [] σ
  unfold P_X3_apply at hp
  refine x_iload_n 1 C rfl (dX3_apply_p0 0 rfl) ?_
  refine x_if_ne (tgt := 43) C (dX3_apply_p0 1 rfl) (by decide) (fun hc => ?_) (fun hc => ?_)
  · have hp := hp.2 hc
    refine x_aload_n 0 C rfl (dX3_apply_p0 25 rfl) ?_
    refine gX3_7 (b := 201) C rfl (by decide) rfl tw_204 (dX3_apply_p0 26 rfl) ?_
    refine x_aload_n 0 C rfl (dX3_apply_p0 27 rfl) ?_
    refine gX3_8 C rfl (by decide) tw_205 (dX3_apply_p0 28 rfl) ?_
    refine x_iconst (v := 1) C (by decide) (dX3_apply_p0 29 rfl) ?_
    refine x_isub C (dX3_apply_p0 30 rfl) ?_
    obtain ⟨h1, hp⟩ := hp
    refine x_iald C rfl (by decide) h1 (dX3_apply_p0 31 rfl) ?_
    refine x_topI (fun v2 ev2 => ?_)
    have hp := hp v2 ev2
    refine x_istore_n (loc' := [(2, .int v2), (0, .ref (kad κ 196)), (1, .int p1)]) C rfl (by decide) rfl (dX3_apply_p0 32 rfl) ?_
    refine x_aload_n 1 C rfl (dX3_apply_p0 33 rfl) ?_
    refine gX3_7 (b := 201) C rfl (by decide) rfl tw_204 (dX3_apply_p0 34 rfl) ?_
    refine x_aload_n 1 C rfl (dX3_apply_p0 35 rfl) ?_
    refine gX3_8 C rfl (by decide) tw_205 (dX3_apply_p0 36 rfl) ?_
    refine x_iconst (v := 2) C (by decide) (dX3_apply_p0 37 rfl) ?_
    refine x_isub C (dX3_apply_p0 38 rfl) ?_
    obtain ⟨h3, hp⟩ := hp
    refine x_iald C rfl (by decide) h3 (dX3_apply_p0 39 rfl) ?_
    refine x_topI (fun v4 ev4 => ?_)
    have hp := hp v4 ev4
    refine x_istore_n (loc' := [(3, .int v4), (2, .int v2), (0, .ref (kad κ 196)), (1, .int p1)]) C rfl (by decide) rfl (dX3_apply_p0 40 rfl) ?_
    refine x_aload_n 2 C rfl (dX3_apply_p0 41 rfl) ?_
    refine x_dup C rfl (dX3_apply_p0 42 rfl) ?_
    refine gX3_8 C rfl (by decide) tw_205 (dX3_apply_p0 43 rfl) ?_
    refine x_iconst (v := 1) C (by decide) (dX3_apply_p0 44 rfl) ?_
    refine x_isub C (dX3_apply_p0 45 rfl) ?_
    refine qX3_8 C rfl (by decide) tw_205 (dX3_apply_p0 46 rfl) ?_
    refine x_nmS (fun s5 es5 => ?_)
    have hp := hp s5 es5
    refine x_iload_n 3 C rfl (dX3_apply_p0 47 rfl) ?_
    refine x_iconst (v := 2) C (by decide) (dX3_apply_p0 48 rfl) ?_
    refine x_icmp_ne (tgt := 90) C (dX3_apply_p0 49 rfl) (by decide) (fun hc => ?_) (fun hc => ?_)
    · have hp := hp.2 hc
      refine x_aload_n 2 C rfl (dX3_apply_p0 56 rfl) ?_
      refine gX3_7 (b := 201) C rfl (by decide) rfl tw_204 (dX3_apply_p0 57 rfl) ?_
      refine x_aload_n 2 C rfl (dX3_apply_p0 58 rfl) ?_
      refine gX3_8 C rfl (by decide) tw_205 (dX3_apply_p0 59 rfl) ?_
      refine x_iconst (v := 1) C (by decide) (dX3_apply_p0 60 rfl) ?_
      refine x_isub C (dX3_apply_p0 61 rfl) ?_
      refine x_iload_n 1 C rfl (dX3_apply_p0 62 rfl) ?_
      obtain ⟨h6, hp⟩ := hp
      refine x_iast C rfl (by decide) h6 (dX3_apply_p0 63 rfl) ?_
      refine x_nmS (fun s7 es7 => ?_)
      have hp := hp s7 es7
      refine x_iload_n 3 C rfl (dX3_apply_p1 0 rfl) ?_
      refine x_iconst (v := 1) C (by decide) (dX3_apply_p1 1 rfl) ?_
      refine x_icmp_ne (tgt := 117) C (dX3_apply_p1 2 rfl) (by decide) (fun hc => ?_) (fun hc => ?_)
      · have hp := hp.2 hc
        refine x_aload_n 2 C rfl (dX3_apply_p1 9 rfl) ?_
        refine gX3_9 (b := 202) C rfl (by decide) rfl tw_206 (dX3_apply_p1 10 rfl) ?_
        refine x_aload_n 2 C rfl (dX3_apply_p1 11 rfl) ?_
        refine gX3_10 C rfl (by decide) tw_207 (dX3_apply_p1 12 rfl) ?_
        refine x_iload_n 0 C rfl (dX3_apply_p1 13 rfl) ?_
        obtain ⟨h8, hp⟩ := hp
        refine x_iast C rfl (by decide) h8 (dX3_apply_p1 14 rfl) ?_
        refine x_nmS (fun s9 es9 => ?_)
        have hp := hp s9 es9
        refine x_aload_n 2 C rfl (dX3_apply_p1 15 rfl) ?_
        refine x_dup C rfl (dX3_apply_p1 16 rfl) ?_
        refine gX3_10 C rfl (by decide) tw_207 (dX3_apply_p1 17 rfl) ?_
        refine x_iconst (v := 1) C (by decide) (dX3_apply_p1 18 rfl) ?_
        refine x_iadd C (dX3_apply_p1 19 rfl) ?_
        refine qX3_10 C rfl (by decide) tw_207 (dX3_apply_p1 20 rfl) ?_
        refine x_nmS (fun s10 es10 => ?_)
        have hp := hp s10 es10
        exact hret _ _ _ (dX3_apply_p1 21 rfl) hp
      · have hp := hp.1 hc
        refine x_aload_n 2 C rfl (dX3_apply_p1 3 rfl) ?_
        refine gX3_11 (b := 203) C rfl (by decide) rfl tw_208 (dX3_apply_p1 4 rfl) ?_
        refine x_iload_n 0 C rfl (dX3_apply_p1 5 rfl) ?_
        refine x_iconst (v := 1) C (by decide) (dX3_apply_p1 6 rfl) ?_
        obtain ⟨h11, hp⟩ := hp
        refine x_zast C rfl (by decide) h11 isB1 (dX3_apply_p1 7 rfl) ?_
        refine x_nmS (fun s12 es12 => ?_)
        have hp := hp s12 es12
        refine x_goto (tgt := 137) C (dX3_apply_p1 8 rfl) (by decide) ?_
        exact hret _ _ _ (dX3_apply_p1 21 rfl) hp
    · have hp := hp.1 hc
      refine x_aload_n 2 C rfl (dX3_apply_p0 50 rfl) ?_
      refine gX3_11 (b := 203) C rfl (by decide) rfl tw_208 (dX3_apply_p0 51 rfl) ?_
      refine x_iload_n 1 C rfl (dX3_apply_p0 52 rfl) ?_
      refine x_iconst (v := 1) C (by decide) (dX3_apply_p0 53 rfl) ?_
      obtain ⟨h13, hp⟩ := hp
      refine x_zast C rfl (by decide) h13 isB1 (dX3_apply_p0 54 rfl) ?_
      refine x_nmS (fun s14 es14 => ?_)
      have hp := hp s14 es14
      exact hret _ _ _ (dX3_apply_p0 55 rfl) hp
  · have hp := hp.1 hc
    refine x_aload_n 0 C rfl (dX3_apply_p0 2 rfl) ?_
    refine x_dup C rfl (dX3_apply_p0 3 rfl) ?_
    refine gX3_10 C rfl (by decide) tw_207 (dX3_apply_p0 4 rfl) ?_
    refine x_iconst (v := 1) C (by decide) (dX3_apply_p0 5 rfl) ?_
    refine x_isub C (dX3_apply_p0 6 rfl) ?_
    refine qX3_10 C rfl (by decide) tw_207 (dX3_apply_p0 7 rfl) ?_
    refine x_nmS (fun s15 es15 => ?_)
    have hp := hp s15 es15
    refine x_aload_n 0 C rfl (dX3_apply_p0 8 rfl) ?_
    refine gX3_7 (b := 201) C rfl (by decide) rfl tw_204 (dX3_apply_p0 9 rfl) ?_
    refine x_aload_n 0 C rfl (dX3_apply_p0 10 rfl) ?_
    refine gX3_8 C rfl (by decide) tw_205 (dX3_apply_p0 11 rfl) ?_
    refine x_aload_n 0 C rfl (dX3_apply_p0 12 rfl) ?_
    refine gX3_9 (b := 202) C rfl (by decide) rfl tw_206 (dX3_apply_p0 13 rfl) ?_
    refine x_aload_n 0 C rfl (dX3_apply_p0 14 rfl) ?_
    refine gX3_10 C rfl (by decide) tw_207 (dX3_apply_p0 15 rfl) ?_
    obtain ⟨h16, hp⟩ := hp
    refine x_iald C rfl (by decide) h16 (dX3_apply_p0 16 rfl) ?_
    obtain ⟨h17, hp⟩ := hp
    refine x_iast C rfl (by decide) h17 (dX3_apply_p0 17 rfl) ?_
    refine x_nmS (fun s18 es18 => ?_)
    have hp := hp s18 es18
    refine x_aload_n 0 C rfl (dX3_apply_p0 18 rfl) ?_
    refine x_dup C rfl (dX3_apply_p0 19 rfl) ?_
    refine gX3_8 C rfl (by decide) tw_205 (dX3_apply_p0 20 rfl) ?_
    refine x_iconst (v := 1) C (by decide) (dX3_apply_p0 21 rfl) ?_
    refine x_iadd C (dX3_apply_p0 22 rfl) ?_
    refine qX3_8 C rfl (by decide) tw_205 (dX3_apply_p0 23 rfl) ?_
    refine x_nmS (fun s19 es19 => ?_)
    have hp := hp s19 es19
    exact hret _ _ _ (dX3_apply_p0 24 rfl) hp)
def F_X3_visit_83 (rc : Int32 → Int32 → St → (St → Prop) → Prop) (K : St → Prop) (c83 : (Int32 × St) → Prop) (u1 : Int32) (u2 : Int32) (u3 : Int32) (σ : St) : Prop := ((σ.1 196 0) < u3 → (K σ)) ∧ (¬ ((σ.1 196 0) < u3) → vp_in u3 7 ∧ (((σ.1 197 (ix u3)) = u1 → (rc u3 (u2 + 1) σ (fun s4 => ∀ v5 : Int32, v5 = u3 + 1 → c83 (v5, s4)))) ∧ (¬ ((σ.1 197 (ix u3)) = u1) → ∀ v3 : Int32, v3 = u3 + 1 → c83 (v3, σ))))
set_option maxHeartbeats 4000000 in
set_option maxRecDepth 100000 in
theorem F_X3_visit_83_w {κ : Kap} {t : Nat} {K : St → Prop} {rc : Int32 → Int32 → St → (St → Prop) → Prop} {c83 : (Int32 × St) → Prop} (C : Ok κ RX3 cX3_visit 4 (0 + t + 1)) (hret : RetV κ cX3_visit K) (hrc : ∀ (p1 : Int32) (p2 : Int32)  (σ : St) (K : St → Prop), rc p1 p2 σ K → CtV (kL κ) (kad κ) (kD κ) (kca κ) yX3_visit cX3_visit 4 (0 + t) [.ref (kad κ 196), .int p1, .int p2] σ K) (u1 : Int32) (u2 : Int32) (u3 : Int32)     (σ : St) (hc83 : ∀ (u3 : Int32) (σ : St), c83 (u3, σ) → GG κ 83 [(0, .ref (kad κ 196)), (1, .int u1), (2, .int u2), (3, .int u3)] [] σ) (hp : F_X3_visit_83 rc K c83 u1 u2 u3 σ) : GG κ 83 [(0, .ref (kad κ 196)), (1, .int u1), (2, .int u2), (3, .int u3)] [] σ := by
  unfold F_X3_visit_83 at hp
  refine x_iload_n 3 C rfl (dX3_visit_p0 50 rfl) ?_
  refine x_aload_n 0 C rfl (dX3_visit_p0 51 rfl) ?_
  refine gX3_0 C rfl (by decide) tw_194 (dX3_visit_p0 52 rfl) ?_
  refine x_icmp_gt (tgt := 115) C (dX3_visit_p0 53 rfl) (by decide) (fun hc => ?_) (fun hc => ?_)
  · have hp := hp.1 hc
    exact hret _ _ _ (dX3_visit_p1 4 rfl) hp
  · have hp := hp.2 hc
    refine x_aload_n 0 C rfl (dX3_visit_p0 54 rfl) ?_
    refine gX3_1 (b := 197) C rfl (by decide) rfl tw_195 (dX3_visit_p0 55 rfl) ?_
    refine x_iload_n 3 C rfl (dX3_visit_p0 56 rfl) ?_
    obtain ⟨h2, hp⟩ := hp
    refine x_iald C rfl (by decide) h2 (dX3_visit_p0 57 rfl) ?_
    refine x_iload_n 1 C rfl (dX3_visit_p0 58 rfl) ?_
    refine x_icmp_ne (tgt := 109) C (dX3_visit_p0 59 rfl) (by decide) (fun hc => ?_) (fun hc => ?_)
    · have hp := hp.2 hc
      obtain ⟨v3, ev3⟩ : ∃ z : Int32, z = u3 + 1 := ⟨_, rfl⟩
      have hp := hp v3 ev3
      refine x_iinc (v := v3) (loc' := [(3, .int v3), (0, .ref (kad κ 196)), (1, .int u1), (2, .int u2)]) 3 C rfl (by rw [ev3]; rfl) (by decide) rfl (dX3_visit_p1 2 rfl) ?_
      refine x_goto (tgt := 83) C (dX3_visit_p1 3 rfl) (by decide) ?_
      refine x_loc (loc' := [(0, .ref (kad κ 196)), (1, .int u1), (2, .int u2), (3, .int v3)]) [1, 2, 3, 0] rfl ?_
      exact hc83 v3 σ hp
    · have hp := hp.1 hc
      refine x_aload_n 0 C rfl (dX3_visit_p0 60 rfl) ?_
      refine x_iload_n 3 C rfl (dX3_visit_p0 61 rfl) ?_
      refine x_iload_n 2 C rfl (dX3_visit_p0 62 rfl) ?_
      refine x_iconst (v := 1) C (by decide) (dX3_visit_p0 63 rfl) ?_
      refine x_iadd C (dX3_visit_p1 0 rfl) ?_
      refine x_cvV (As := [.int u3, .int (u2 + 1)]) (st := []) C LRX3_60 (ci := 3) rfl rfl (by decide) (by decide) (hrc u3 (u2 + 1)  σ _ hp) rfl (by omega) rfl (Nat.le_of_ble_eq_true rfl) (dX3_visit_p1 1 rfl) (fun s4 hp => ?_)
      obtain ⟨v5, ev5⟩ : ∃ z : Int32, z = u3 + 1 := ⟨_, rfl⟩
      have hp := hp v5 ev5
      refine x_iinc (v := v5) (loc' := [(3, .int v5), (0, .ref (kad κ 196)), (1, .int u1), (2, .int u2)]) 3 C rfl (by rw [ev5]; rfl) (by decide) rfl (dX3_visit_p1 2 rfl) ?_
      refine x_goto (tgt := 83) C (dX3_visit_p1 3 rfl) (by decide) ?_
      refine x_loc (loc' := [(0, .ref (kad κ 196)), (1, .int u1), (2, .int u2), (3, .int v5)]) [1, 2, 3, 0] rfl ?_
      exact hc83 v5 s4 hp
def F_X3_visit_11 (rc : Int32 → Int32 → St → (St → Prop) → Prop) (K : St → Prop) (c11 : (Int32 × St) → Prop) (u1 : Int32) (u2 : Int32) (u3 : Int32) (σ : St) : Prop := (u1 ≤ u3 → ((7 ≤ (σ.1 196 3) → (∀ v1 : Int32, v1 = (u1 + 1) → (LpE (fun c s => F_X3_visit_83 rc K  c u1 u2 s.1 s.2) (v1, σ)))) ∧ (¬ (7 ≤ (σ.1 196 3)) → (vp_in (σ.1 196 3) 7 ∧ ∀ s7 : St, s7 = wI σ 198 (ix (σ.1 196 3)) u1 → (vp_in u1 7 ∧ ∀ s9 : St, s9 = wI s7 199 (ix u1) (s7.1 196 3) → (∀ s10 : St, s10 = wI s9 196 3 ((s9.1 196 3) + 1) → (∀ v11 : Int32, v11 = (u1 + 1) → (LpE (fun c s => F_X3_visit_83 rc K  c u1 u2 s.1 s.2) (v11, s10))))))))) ∧ (¬ (u1 ≤ u3) → vp_in u3 7 ∧ (((σ.1 197 (ix u3)) = u1 → (rc u3 (u2 + 1) σ (fun s14 => ∀ v15 : Int32, v15 = u3 + 1 → c11 (v15, s14)))) ∧ (¬ ((σ.1 197 (ix u3)) = u1) → ∀ v13 : Int32, v13 = u3 + 1 → c11 (v13, σ))))
set_option maxHeartbeats 4000000 in
set_option maxRecDepth 100000 in
theorem F_X3_visit_11_w {κ : Kap} {t : Nat} {K : St → Prop} {rc : Int32 → Int32 → St → (St → Prop) → Prop} {c11 : (Int32 × St) → Prop} (C : Ok κ RX3 cX3_visit 4 (0 + t + 1)) (hret : RetV κ cX3_visit K) (hrc : ∀ (p1 : Int32) (p2 : Int32)  (σ : St) (K : St → Prop), rc p1 p2 σ K → CtV (kL κ) (kad κ) (kD κ) (kca κ) yX3_visit cX3_visit 4 (0 + t) [.ref (kad κ 196), .int p1, .int p2] σ K) (u1 : Int32) (u2 : Int32) (u3 : Int32)     (σ : St) (hc11 : ∀ (u3 : Int32) (σ : St), c11 (u3, σ) → GG κ 11 [(0, .ref (kad κ 196)), (1, .int u1), (2, .int u2), (3, .int u3)] [] σ) (hp : F_X3_visit_11 rc K c11 u1 u2 u3 σ) : GG κ 11 [(0, .ref (kad κ 196)), (1, .int u1), (2, .int u2), (3, .int u3)] [] σ := by
  unfold F_X3_visit_11 at hp
  refine x_iload_n 3 C rfl (dX3_visit_p0 7 rfl) ?_
  refine x_iload_n 1 C rfl (dX3_visit_p0 8 rfl) ?_
  refine x_icmp_ge (tgt := 40) C (dX3_visit_p0 9 rfl) (by decide) (fun hc => ?_) (fun hc => ?_)
  · have hp := hp.1 hc
    refine x_aload_n 0 C rfl (dX3_visit_p0 24 rfl) ?_
    refine gX3_3 C rfl (by decide) tw_198 (dX3_visit_p0 25 rfl) ?_
    refine x_bipush (v := 7) C (by decide) (dX3_visit_p0 26 rfl) ?_
    refine x_icmp_ge (tgt := 79) C (dX3_visit_p0 27 rfl) (by decide) (fun hc => ?_) (fun hc => ?_)
    · have hp := hp.1 hc
      refine x_iload_n 1 C rfl (dX3_visit_p0 46 rfl) ?_
      refine x_iconst (v := 1) C (by decide) (dX3_visit_p0 47 rfl) ?_
      refine x_iadd C (dX3_visit_p0 48 rfl) ?_
      refine x_topI (fun v1 ev1 => ?_)
      have hp := hp v1 ev1
      refine x_istore_n (loc' := [(3, .int v1), (0, .ref (kad κ 196)), (1, .int u1), (2, .int u2)]) C rfl (by decide) rfl (dX3_visit_p0 49 rfl) ?_
      refine x_loc (loc' := [(0, .ref (kad κ 196)), (1, .int u1), (2, .int u2), (3, .int v1)]) [1, 2, 3, 0] rfl ?_
      exact LpE_GG (S := (Int32 × St)) (F := fun c s => F_X3_visit_83 rc K  c u1 u2 s.1 s.2) (W := fun s => GG κ 83 [(0, .ref (kad κ 196)), (1, .int u1), (2, .int u2), (3, .int s.1)] [] s.2) (fun c s hcc hp => F_X3_visit_83_w C hret hrc u1 u2 s.1  s.2  (fun u3 σ h => hcc (u3, σ) h) hp) hp
    · have hp := hp.2 hc
      refine x_aload_n 0 C rfl (dX3_visit_p0 28 rfl) ?_
      refine gX3_2 (b := 198) C rfl (by decide) rfl tw_196 (dX3_visit_p0 29 rfl) ?_
      refine x_aload_n 0 C rfl (dX3_visit_p0 30 rfl) ?_
      refine gX3_3 C rfl (by decide) tw_198 (dX3_visit_p0 31 rfl) ?_
      refine x_iload_n 1 C rfl (dX3_visit_p0 32 rfl) ?_
      obtain ⟨h6, hp⟩ := hp
      refine x_iast C rfl (by decide) h6 (dX3_visit_p0 33 rfl) ?_
      refine x_nmS (fun s7 es7 => ?_)
      have hp := hp s7 es7
      refine x_aload_n 0 C rfl (dX3_visit_p0 34 rfl) ?_
      refine gX3_4 (b := 199) C rfl (by decide) rfl tw_199 (dX3_visit_p0 35 rfl) ?_
      refine x_iload_n 1 C rfl (dX3_visit_p0 36 rfl) ?_
      refine x_aload_n 0 C rfl (dX3_visit_p0 37 rfl) ?_
      refine gX3_3 C rfl (by decide) tw_198 (dX3_visit_p0 38 rfl) ?_
      obtain ⟨h8, hp⟩ := hp
      refine x_iast C rfl (by decide) h8 (dX3_visit_p0 39 rfl) ?_
      refine x_nmS (fun s9 es9 => ?_)
      have hp := hp s9 es9
      refine x_aload_n 0 C rfl (dX3_visit_p0 40 rfl) ?_
      refine x_dup C rfl (dX3_visit_p0 41 rfl) ?_
      refine gX3_3 C rfl (by decide) tw_198 (dX3_visit_p0 42 rfl) ?_
      refine x_iconst (v := 1) C (by decide) (dX3_visit_p0 43 rfl) ?_
      refine x_iadd C (dX3_visit_p0 44 rfl) ?_
      refine qX3_3 C rfl (by decide) tw_198 (dX3_visit_p0 45 rfl) ?_
      refine x_nmS (fun s10 es10 => ?_)
      have hp := hp s10 es10
      refine x_iload_n 1 C rfl (dX3_visit_p0 46 rfl) ?_
      refine x_iconst (v := 1) C (by decide) (dX3_visit_p0 47 rfl) ?_
      refine x_iadd C (dX3_visit_p0 48 rfl) ?_
      refine x_topI (fun v11 ev11 => ?_)
      have hp := hp v11 ev11
      refine x_istore_n (loc' := [(3, .int v11), (0, .ref (kad κ 196)), (1, .int u1), (2, .int u2)]) C rfl (by decide) rfl (dX3_visit_p0 49 rfl) ?_
      refine x_loc (loc' := [(0, .ref (kad κ 196)), (1, .int u1), (2, .int u2), (3, .int v11)]) [1, 2, 3, 0] rfl ?_
      exact LpE_GG (S := (Int32 × St)) (F := fun c s => F_X3_visit_83 rc K  c u1 u2 s.1 s.2) (W := fun s => GG κ 83 [(0, .ref (kad κ 196)), (1, .int u1), (2, .int u2), (3, .int s.1)] [] s.2) (fun c s hcc hp => F_X3_visit_83_w C hret hrc u1 u2 s.1  s.2  (fun u3 σ h => hcc (u3, σ) h) hp) hp
  · have hp := hp.2 hc
    refine x_aload_n 0 C rfl (dX3_visit_p0 10 rfl) ?_
    refine gX3_1 (b := 197) C rfl (by decide) rfl tw_195 (dX3_visit_p0 11 rfl) ?_
    refine x_iload_n 3 C rfl (dX3_visit_p0 12 rfl) ?_
    obtain ⟨h12, hp⟩ := hp
    refine x_iald C rfl (by decide) h12 (dX3_visit_p0 13 rfl) ?_
    refine x_iload_n 1 C rfl (dX3_visit_p0 14 rfl) ?_
    refine x_icmp_ne (tgt := 34) C (dX3_visit_p0 15 rfl) (by decide) (fun hc => ?_) (fun hc => ?_)
    · have hp := hp.2 hc
      obtain ⟨v13, ev13⟩ : ∃ z : Int32, z = u3 + 1 := ⟨_, rfl⟩
      have hp := hp v13 ev13
      refine x_iinc (v := v13) (loc' := [(3, .int v13), (0, .ref (kad κ 196)), (1, .int u1), (2, .int u2)]) 3 C rfl (by rw [ev13]; rfl) (by decide) rfl (dX3_visit_p0 22 rfl) ?_
      refine x_goto (tgt := 11) C (dX3_visit_p0 23 rfl) (by decide) ?_
      refine x_loc (loc' := [(0, .ref (kad κ 196)), (1, .int u1), (2, .int u2), (3, .int v13)]) [1, 2, 3, 0] rfl ?_
      exact hc11 v13 σ hp
    · have hp := hp.1 hc
      refine x_aload_n 0 C rfl (dX3_visit_p0 16 rfl) ?_
      refine x_iload_n 3 C rfl (dX3_visit_p0 17 rfl) ?_
      refine x_iload_n 2 C rfl (dX3_visit_p0 18 rfl) ?_
      refine x_iconst (v := 1) C (by decide) (dX3_visit_p0 19 rfl) ?_
      refine x_iadd C (dX3_visit_p0 20 rfl) ?_
      refine x_cvV (As := [.int u3, .int (u2 + 1)]) (st := []) C LRX3_60 (ci := 3) rfl rfl (by decide) (by decide) (hrc u3 (u2 + 1)  σ _ hp) rfl (by omega) rfl (Nat.le_of_ble_eq_true rfl) (dX3_visit_p0 21 rfl) (fun s14 hp => ?_)
      obtain ⟨v15, ev15⟩ : ∃ z : Int32, z = u3 + 1 := ⟨_, rfl⟩
      have hp := hp v15 ev15
      refine x_iinc (v := v15) (loc' := [(3, .int v15), (0, .ref (kad κ 196)), (1, .int u1), (2, .int u2)]) 3 C rfl (by rw [ev15]; rfl) (by decide) rfl (dX3_visit_p0 22 rfl) ?_
      refine x_goto (tgt := 11) C (dX3_visit_p0 23 rfl) (by decide) ?_
      refine x_loc (loc' := [(0, .ref (kad κ 196)), (1, .int u1), (2, .int u2), (3, .int v15)]) [1, 2, 3, 0] rfl ?_
      exact hc11 v15 s14 hp
def B_X3_visit (rc : Int32 → Int32 → St → (St → Prop) → Prop) (p1 : Int32) (p2 : Int32) (σ : St) (K : St → Prop) : Prop := (p2 ≤ (σ.1 196 0) → (LpE (fun c s => F_X3_visit_11 rc K  c p1 p2 s.1 s.2) (1, σ))) ∧ (¬ (p2 ≤ (σ.1 196 0)) → (K σ))
def P_X3_visit : Nat → Int32 → Int32 → St → (St → Prop) → Prop
  | 0 => fun _ _ _ _ => False
  | t + 1 => B_X3_visit (P_X3_visit t)
set_option maxHeartbeats 4000000 in
set_option maxRecDepth 100000 in
theorem b_X3_visit {κ : Kap} {t : Nat} {rc : Int32 → Int32 → St → (St → Prop) → Prop} {K : St → Prop} (C : Ok κ RX3 cX3_visit 4 (0 + t + 1)) (hret : RetV κ cX3_visit K) (hrc : ∀ (p1 : Int32) (p2 : Int32)  (σ : St) (K : St → Prop), rc p1 p2 σ K → CtV (kL κ) (kad κ) (kD κ) (kca κ) yX3_visit cX3_visit 4 (0 + t) [.ref (kad κ 196), .int p1, .int p2] σ K) (p1 : Int32) (p2 : Int32)  (σ : St) (hp : B_X3_visit rc p1 p2 σ K) : GG κ 0 [(0, .ref (kad κ 196)), (1, .int p1), (2, .int p2)] [] σ := by
  unfold B_X3_visit at hp
  refine x_iload_n 2 C rfl (dX3_visit_p0 0 rfl) ?_
  refine x_aload_n 0 C rfl (dX3_visit_p0 1 rfl) ?_
  refine gX3_0 C rfl (by decide) tw_194 (dX3_visit_p0 2 rfl) ?_
  refine x_icmp_le (tgt := 9) C (dX3_visit_p0 3 rfl) (by decide) (fun hc => ?_) (fun hc => ?_)
  · have hp := hp.1 hc
    refine x_iconst (v := 1) C (by decide) (dX3_visit_p0 5 rfl) ?_
    refine x_istore_n (loc' := [(3, .int 1), (0, .ref (kad κ 196)), (1, .int p1), (2, .int p2)]) C rfl (by decide) rfl (dX3_visit_p0 6 rfl) ?_
    refine x_loc (loc' := [(0, .ref (kad κ 196)), (1, .int p1), (2, .int p2), (3, .int 1)]) [1, 2, 3, 0] rfl ?_
    exact LpE_GG (S := (Int32 × St)) (F := fun c s => F_X3_visit_11 rc K  c p1 p2 s.1 s.2) (W := fun s => GG κ 11 [(0, .ref (kad κ 196)), (1, .int p1), (2, .int p2), (3, .int s.1)] [] s.2) (fun c s hcc hp => F_X3_visit_11_w C hret hrc p1 p2 s.1  s.2  (fun u3 σ h => hcc (u3, σ) h) hp) hp
  · have hp := hp.2 hc
    exact hret _ _ _ (dX3_visit_p0 4 rfl) hp
theorem m_X3_visit_t : ∀ (t : Nat) (l : Launch) (ad : Nat → Nat) (D : va_G) (ca : Nat → ClassId) (had : adOk ad) (p1 : Int32) (p2 : Int32)  (σ : St) (K : St → Prop) (hp : P_X3_visit t p1 p2 σ K), CtV l ad D ca yX3_visit cX3_visit 4 (0 + t) [.ref (ad 196), .int p1, .int p2] σ K := by
  intro t
  induction t with
  | zero => intro l ad D ca had p1 p2 σ K hp; exact hp.elim
  | succ t ih =>
    intro l ad D ca had p1 p2 σ K hp
    exact CtV_of (d := 0 + t + 1) (av := fun ad => [.ref (ad 196), .int p1, .int p2]) (plainFor_of_name (by decide)) had (Nat.le_of_ble_eq_true rfl) (fun κ C hret => b_X3_visit C hret (fun p1 p2 σ K h => ih (kL κ) (kad κ) (kD κ) (kca κ) C.ado p1 p2 σ K h) p1 p2 σ hp)
theorem m_X3_visit (l : Launch) (ad : Nat → Nat) (D : va_G) (ca : Nat → ClassId) (had : adOk ad) (t : Nat) (p1 : Int32) (p2 : Int32)  (σ : St) (K : St → Prop) (hp : P_X3_visit t p1 p2 σ K) : CtV l ad D ca yX3_visit cX3_visit 4 (0 + t) [.ref (ad 196), .int p1, .int p2] σ K := m_X3_visit_t t l ad D ca had p1 p2 σ K hp
def P_X3_arrange (p1 : Nat) (σ : St) (K : St → Prop) : Prop := ∀ s1 : St, s1 = wI σ 196 0 (σ.1 p1 0) → (∀ s2 : St, s2 = wC s1 197 (p1 + 2) 7 → ∀ s3 : St, s3 = wI s2 196 3 0 → P_X3_visit 10 0 0 s3 (fun s4 => K s4))
set_option maxHeartbeats 4000000 in
set_option maxRecDepth 100000 in
theorem m_X3_arrange (l : Launch) (ad : Nat → Nat) (D : va_G) (ca : Nat → ClassId) (had : adOk ad) (p1 : Nat) (hp1 : sOk p1) (σ : St) (K : St → Prop) (hp : P_X3_arrange p1 σ K) : CtV l ad D ca yX3_arrange cX3_arrange 2 11 [.ref (ad 196), .ref (ad p1)] σ K := CtV_of (av := fun ad => [.ref (ad 196), .ref (ad p1)]) (plainFor_of_name (by decide)) had (Nat.le_of_ble_eq_true rfl) (fun κ C hret => by
  have C : Ok κ RX3 cX3_arrange 2 11 := C
  show GG κ 0 [(0, .ref (kad κ 196)), (1, .ref (kad κ p1))] [] σ
  unfold P_X3_arrange at hp
  refine x_aload_n 0 C rfl (dX3_arrange_p0 0 rfl) ?_
  refine x_aload_n 1 C rfl (dX3_arrange_p0 1 rfl) ?_
  refine gX0_0 C (s_kd hp1) (s_lt hp1) tw_50 (dX3_arrange_p0 2 rfl) ?_
  refine qX3_0 C rfl (by decide) tw_194 (dX3_arrange_p0 3 rfl) ?_
  refine x_nmS (fun s1 es1 => ?_)
  have hp := hp s1 es1
  refine x_aload_n 1 C rfl (dX3_arrange_p0 4 rfl) ?_
  refine gX0_2 (b := p1 + 2) C (s_kd hp1) (s_lt hp1) (s_m2 hp1) tw_56 (dX3_arrange_p0 5 rfl) ?_
  refine x_iconst (v := 0) C (by decide) (dX3_arrange_p0 6 rfl) ?_
  refine x_aload_n 0 C rfl (dX3_arrange_p0 7 rfl) ?_
  refine gX3_1 (b := 197) C rfl (by decide) rfl tw_195 (dX3_arrange_p0 8 rfl) ?_
  refine x_iconst (v := 0) C (by decide) (dX3_arrange_p0 9 rfl) ?_
  refine x_bipush (v := 7) C (by decide) (dX3_arrange_p0 10 rfl) ?_
  refine x_copy (N := 7) C tw_651 tw_653 tw_652 tw_12 rfl (by decide) (s_kd2 hp1) (s_lt2 hp1) (by decide) (by decide) (by decide) (by rw [(s_ln2 hp1)]; decide) (by decide) (Nat.le_of_ble_eq_true rfl) (by decide) (dX3_arrange_p0 11 rfl) ?_
  refine x_nmS (fun s2 es2 => ?_)
  have hp := hp s2 es2
  refine x_aload_n 0 C rfl (dX3_arrange_p0 12 rfl) ?_
  refine x_iconst (v := 0) C (by decide) (dX3_arrange_p0 13 rfl) ?_
  refine qX3_3 C rfl (by decide) tw_198 (dX3_arrange_p0 14 rfl) ?_
  refine x_nmS (fun s3 es3 => ?_)
  have hp := hp s3 es3
  refine x_aload_n 0 C rfl (dX3_arrange_p0 15 rfl) ?_
  refine x_iconst (v := 0) C (by decide) (dX3_arrange_p0 16 rfl) ?_
  refine x_iconst (v := 0) C (by decide) (dX3_arrange_p0 17 rfl) ?_
  refine x_cvV (As := [.int 0, .int 0]) (st := []) C LRX3_60 (ci := 3) rfl rfl (by decide) (by decide) (m_X3_visit (kL κ) (kad κ) (kD κ) (kca κ) C.ado 10 0 0  s3 _ hp) rfl (by decide) rfl (Nat.le_of_ble_eq_true rfl) (dX3_arrange_p0 18 rfl) (fun s4 hp => ?_)
  exact hret _ _ _ (dX3_arrange_p0 19 rfl) hp)
def F_X3_isComplete_2 (K : Int32 → St → Prop) (c2 : (Int32 × St) → Prop) (u1 : Int32) (u2 : Int32) (σ : St) : Prop := ((σ.1 196 0) < u2 → (K 1 σ)) ∧ (¬ ((σ.1 196 0) < u2) → vp_in u2 7 ∧ (((σ.1 197 (ix u2)) = u1 → vp_in u2 7 ∧ (((σ.1 203 (ix u2)) = 0 → (K 0 σ)) ∧ (¬ ((σ.1 203 (ix u2)) = 0) → ∀ v4 : Int32, v4 = u2 + 1 → c2 (v4, σ)))) ∧ (¬ ((σ.1 197 (ix u2)) = u1) → ∀ v2 : Int32, v2 = u2 + 1 → c2 (v2, σ))))
set_option maxHeartbeats 4000000 in
set_option maxRecDepth 100000 in
theorem F_X3_isComplete_2_w {κ : Kap} {K : Int32 → St → Prop} {c2 : (Int32 × St) → Prop} (C : Ok κ RX3 cX3_isComplete 3 0) (hret : RetI κ cX3_isComplete .boolean K) (u1 : Int32) (u2 : Int32)    (σ : St) (hc2 : ∀ (u2 : Int32) (σ : St), c2 (u2, σ) → GG κ 2 [(0, .ref (kad κ 196)), (1, .int u1), (2, .int u2)] [] σ) (hp : F_X3_isComplete_2 K c2 u1 u2 σ) : GG κ 2 [(0, .ref (kad κ 196)), (1, .int u1), (2, .int u2)] [] σ := by
  unfold F_X3_isComplete_2 at hp
  refine x_iload_n 2 C rfl (dX3_isComplete_p0 2 rfl) ?_
  refine x_aload_n 0 C rfl (dX3_isComplete_p0 3 rfl) ?_
  refine gX3_0 C rfl (by decide) tw_194 (dX3_isComplete_p0 4 rfl) ?_
  refine x_icmp_gt (tgt := 37) C (dX3_isComplete_p0 5 rfl) (by decide) (fun hc => ?_) (fun hc => ?_)
  · have hp := hp.1 hc
    refine x_iconst (v := 1) C (by decide) (dX3_isComplete_p0 21 rfl) ?_
    exact hret _ _ _ _ (dX3_isComplete_p0 22 rfl) (nar_z isB1) hp
  · have hp := hp.2 hc
    refine x_aload_n 0 C rfl (dX3_isComplete_p0 6 rfl) ?_
    refine gX3_1 (b := 197) C rfl (by decide) rfl tw_195 (dX3_isComplete_p0 7 rfl) ?_
    refine x_iload_n 2 C rfl (dX3_isComplete_p0 8 rfl) ?_
    obtain ⟨h1, hp⟩ := hp
    refine x_iald C rfl (by decide) h1 (dX3_isComplete_p0 9 rfl) ?_
    refine x_iload_n 1 C rfl (dX3_isComplete_p0 10 rfl) ?_
    refine x_icmp_ne (tgt := 31) C (dX3_isComplete_p0 11 rfl) (by decide) (fun hc => ?_) (fun hc => ?_)
    · have hp := hp.2 hc
      obtain ⟨v2, ev2⟩ : ∃ z : Int32, z = u2 + 1 := ⟨_, rfl⟩
      have hp := hp v2 ev2
      refine x_iinc (v := v2) (loc' := [(2, .int v2), (0, .ref (kad κ 196)), (1, .int u1)]) 2 C rfl (by rw [ev2]; rfl) (by decide) rfl (dX3_isComplete_p0 19 rfl) ?_
      refine x_goto (tgt := 2) C (dX3_isComplete_p0 20 rfl) (by decide) ?_
      refine x_loc (loc' := [(0, .ref (kad κ 196)), (1, .int u1), (2, .int v2)]) [1, 2, 0] rfl ?_
      exact hc2 v2 σ hp
    · have hp := hp.1 hc
      refine x_aload_n 0 C rfl (dX3_isComplete_p0 12 rfl) ?_
      refine gX3_11 (b := 203) C rfl (by decide) rfl tw_208 (dX3_isComplete_p0 13 rfl) ?_
      refine x_iload_n 2 C rfl (dX3_isComplete_p0 14 rfl) ?_
      obtain ⟨h3, hp⟩ := hp
      refine x_zald C rfl (by decide) h3 (dX3_isComplete_p0 15 rfl) ?_
      refine x_if_ne (tgt := 31) C (dX3_isComplete_p0 16 rfl) (by decide) (fun hc => ?_) (fun hc => ?_)
      · have hp := hp.2 hc
        obtain ⟨v4, ev4⟩ : ∃ z : Int32, z = u2 + 1 := ⟨_, rfl⟩
        have hp := hp v4 ev4
        refine x_iinc (v := v4) (loc' := [(2, .int v4), (0, .ref (kad κ 196)), (1, .int u1)]) 2 C rfl (by rw [ev4]; rfl) (by decide) rfl (dX3_isComplete_p0 19 rfl) ?_
        refine x_goto (tgt := 2) C (dX3_isComplete_p0 20 rfl) (by decide) ?_
        refine x_loc (loc' := [(0, .ref (kad κ 196)), (1, .int u1), (2, .int v4)]) [1, 2, 0] rfl ?_
        exact hc2 v4 σ hp
      · have hp := hp.1 hc
        refine x_iconst (v := 0) C (by decide) (dX3_isComplete_p0 17 rfl) ?_
        exact hret _ _ _ _ (dX3_isComplete_p0 18 rfl) (nar_z isB0) hp
def P_X3_isComplete (p1 : Int32) (σ : St) (K : Int32 → St → Prop) : Prop := LpE (fun c s => F_X3_isComplete_2 K  c p1 s.1 s.2) (1, σ)
set_option maxHeartbeats 4000000 in
set_option maxRecDepth 100000 in
theorem m_X3_isComplete (l : Launch) (ad : Nat → Nat) (D : va_G) (ca : Nat → ClassId) (had : adOk ad) (p1 : Int32)  (σ : St) (K : Int32 → St → Prop) (hp : P_X3_isComplete p1 σ K) : CtI l ad D ca yX3_isComplete cX3_isComplete 3 .boolean 0 [.ref (ad 196), .int p1] σ K := CtI_of (av := fun ad => [.ref (ad 196), .int p1]) (plainFor_of_name (by decide)) had (Nat.le_of_ble_eq_true rfl) (fun κ C hret => by
  have C : Ok κ RX3 cX3_isComplete 3 0 := C
  show GG κ 0 [(0, .ref (kad κ 196)), (1, .int p1)] [] σ
  unfold P_X3_isComplete at hp
  refine x_iconst (v := 1) C (by decide) (dX3_isComplete_p0 0 rfl) ?_
  refine x_istore_n (loc' := [(2, .int 1), (0, .ref (kad κ 196)), (1, .int p1)]) C rfl (by decide) rfl (dX3_isComplete_p0 1 rfl) ?_
  refine x_loc (loc' := [(0, .ref (kad κ 196)), (1, .int p1), (2, .int 1)]) [1, 2, 0] rfl ?_
  exact LpE_GG (S := (Int32 × St)) (F := fun c s => F_X3_isComplete_2 K  c p1 s.1 s.2) (W := fun s => GG κ 2 [(0, .ref (kad κ 196)), (1, .int p1), (2, .int s.1)] [] s.2) (fun c s hcc hp => F_X3_isComplete_2_w C hret p1 s.1  s.2  (fun u2 σ h => hcc (u2, σ) h) hp) hp)
def J_X3_choose_102 (K : Int32 → St → Prop)   (σ : St) : Prop := ((σ.1 196 10) ≤ 0 → (K 4 σ)) ∧ (¬ ((σ.1 196 10) ≤ 0) → (K 0 σ))
set_option maxHeartbeats 4000000 in
set_option maxRecDepth 100000 in
theorem J_X3_choose_102_w {κ : Kap} {K : Int32 → St → Prop}  (C : Ok κ RX3 cX3_choose 3 1) (hret : RetI κ cX3_choose .int K)   (σ : St)  (hp : J_X3_choose_102 K   σ) : GG κ 102 [(0, .ref (kad κ 196))] [] σ := by
  unfold J_X3_choose_102 at hp
  refine x_aload_n 0 C rfl (dX3_choose_p0 62 rfl) ?_
  refine gX3_10 C rfl (by decide) tw_207 (dX3_choose_p0 63 rfl) ?_
  refine x_if_le (tgt := 113) C (dX3_choose_p1 0 rfl) (by decide) (fun hc => ?_) (fun hc => ?_)
  · have hp := hp.1 hc
    refine x_iconst (v := 4) C (by decide) (dX3_choose_p1 3 rfl) ?_
    exact hret _ _ _ _ (dX3_choose_p1 4 rfl) (nar_i _) hp
  · have hp := hp.2 hc
    refine x_iconst (v := 0) C (by decide) (dX3_choose_p1 1 rfl) ?_
    refine x_goto (tgt := 114) C (dX3_choose_p1 2 rfl) (by decide) ?_
    exact hret _ _ _ _ (dX3_choose_p1 4 rfl) (nar_i _) hp
def J_X3_choose_76 (K : Int32 → St → Prop)  (u1 : Int32) (u2 : Int32) (σ : St) : Prop := (u2 = 0 → (J_X3_choose_102 K   σ)) ∧ (¬ (u2 = 0) → ((u1 ≤ u2 → (J_X3_choose_102 K   σ)) ∧ (¬ (u1 ≤ u2) → vp_in u2 7 ∧ vp_in u1 7 ∧ (((σ.1 199 (ix u2)) ≤ (σ.1 199 (ix u1)) → (J_X3_choose_102 K   σ)) ∧ (¬ ((σ.1 199 (ix u2)) ≤ (σ.1 199 (ix u1))) → (K 3 σ))))))
set_option maxHeartbeats 4000000 in
set_option maxRecDepth 100000 in
theorem J_X3_choose_76_w {κ : Kap} {K : Int32 → St → Prop}  (C : Ok κ RX3 cX3_choose 3 1) (hret : RetI κ cX3_choose .int K) (u1 : Int32) (u2 : Int32)    (σ : St)  (hp : J_X3_choose_76 K  u1 u2 σ) : GG κ 76 [(0, .ref (kad κ 196)), (1, .int u1), (2, .int u2)] [] σ := by
  unfold J_X3_choose_76 at hp
  refine x_iload_n 2 C rfl (dX3_choose_p0 46 rfl) ?_
  refine x_if_eq (tgt := 102) C (dX3_choose_p0 47 rfl) (by decide) (fun hc => ?_) (fun hc => ?_)
  · have hp := hp.1 hc
    refine x_loc (loc' := [(0, .ref (kad κ 196))]) [0] rfl ?_
    exact J_X3_choose_102_w C hret   σ  hp
  · have hp := hp.2 hc
    refine x_iload_n 2 C rfl (dX3_choose_p0 48 rfl) ?_
    refine x_iload_n 1 C rfl (dX3_choose_p0 49 rfl) ?_
    refine x_icmp_ge (tgt := 102) C (dX3_choose_p0 50 rfl) (by decide) (fun hc => ?_) (fun hc => ?_)
    · have hp := hp.1 hc
      refine x_loc (loc' := [(0, .ref (kad κ 196))]) [0] rfl ?_
      exact J_X3_choose_102_w C hret   σ  hp
    · have hp := hp.2 hc
      refine x_aload_n 0 C rfl (dX3_choose_p0 51 rfl) ?_
      refine gX3_4 (b := 199) C rfl (by decide) rfl tw_199 (dX3_choose_p0 52 rfl) ?_
      refine x_iload_n 2 C rfl (dX3_choose_p0 53 rfl) ?_
      obtain ⟨h6, hp⟩ := hp
      refine x_iald C rfl (by decide) h6 (dX3_choose_p0 54 rfl) ?_
      refine x_aload_n 0 C rfl (dX3_choose_p0 55 rfl) ?_
      refine gX3_4 (b := 199) C rfl (by decide) rfl tw_199 (dX3_choose_p0 56 rfl) ?_
      refine x_iload_n 1 C rfl (dX3_choose_p0 57 rfl) ?_
      obtain ⟨h7, hp⟩ := hp
      refine x_iald C rfl (by decide) h7 (dX3_choose_p0 58 rfl) ?_
      refine x_icmp_le (tgt := 102) C (dX3_choose_p0 59 rfl) (by decide) (fun hc => ?_) (fun hc => ?_)
      · have hp := hp.1 hc
        refine x_loc (loc' := [(0, .ref (kad κ 196))]) [0] rfl ?_
        exact J_X3_choose_102_w C hret   σ  hp
      · have hp := hp.2 hc
        refine x_iconst (v := 3) C (by decide) (dX3_choose_p0 60 rfl) ?_
        exact hret _ _ _ _ (dX3_choose_p0 61 rfl) (nar_i _) hp
def J_X3_choose_56 (K : Int32 → St → Prop)  (u1 : Int32) (u2 : Int32) (σ : St) : Prop := vp_in u1 7 ∧ (((σ.1 197 (ix u1)) = u2 → P_X3_isComplete u1 σ (fun r9 s8 => (r9 = 0 → (J_X3_choose_76 K  u1 u2 s8)) ∧ (¬ (r9 = 0) → (K 2 s8)))) ∧ (¬ ((σ.1 197 (ix u1)) = u2) → (J_X3_choose_76 K  u1 u2 σ)))
set_option maxHeartbeats 4000000 in
set_option maxRecDepth 100000 in
theorem J_X3_choose_56_w {κ : Kap} {K : Int32 → St → Prop}  (C : Ok κ RX3 cX3_choose 3 1) (hret : RetI κ cX3_choose .int K) (u1 : Int32) (u2 : Int32)    (σ : St)  (hp : J_X3_choose_56 K  u1 u2 σ) : GG κ 56 [(0, .ref (kad κ 196)), (1, .int u1), (2, .int u2)] [] σ := by
  unfold J_X3_choose_56 at hp
  refine x_aload_n 0 C rfl (dX3_choose_p0 34 rfl) ?_
  refine gX3_1 (b := 197) C rfl (by decide) rfl tw_195 (dX3_choose_p0 35 rfl) ?_
  refine x_iload_n 1 C rfl (dX3_choose_p0 36 rfl) ?_
  obtain ⟨h5, hp⟩ := hp
  refine x_iald C rfl (by decide) h5 (dX3_choose_p0 37 rfl) ?_
  refine x_iload_n 2 C rfl (dX3_choose_p0 38 rfl) ?_
  refine x_icmp_ne (tgt := 76) C (dX3_choose_p0 39 rfl) (by decide) (fun hc => ?_) (fun hc => ?_)
  · have hp := hp.2 hc
    exact J_X3_choose_76_w C hret u1 u2  σ  hp
  · have hp := hp.1 hc
    refine x_aload_n 0 C rfl (dX3_choose_p0 40 rfl) ?_
    refine x_iload_n 1 C rfl (dX3_choose_p0 41 rfl) ?_
    refine x_cvI (As := [.int u1]) (st := []) C LRX3_72 (ci := 3) rfl rfl (by decide) (by decide) (m_X3_isComplete (kL κ) (kad κ) (kD κ) (kca κ) C.ado u1  σ _ hp) rfl (by decide) rfl (Nat.le_of_ble_eq_true rfl) (dX3_choose_p0 42 rfl) (fun r9 s8 hp => ?_)
    refine x_if_eq (tgt := 76) C (dX3_choose_p0 43 rfl) (by decide) (fun hc => ?_) (fun hc => ?_)
    · have hp := hp.1 hc
      exact J_X3_choose_76_w C hret u1 u2  s8  hp
    · have hp := hp.2 hc
      refine x_iconst (v := 2) C (by decide) (dX3_choose_p0 44 rfl) ?_
      exact hret _ _ _ _ (dX3_choose_p0 45 rfl) (nar_i _) hp
def P_X3_choose  (σ : St) (K : Int32 → St → Prop) : Prop := ((σ.1 196 8) < 2 → (J_X3_choose_102 K   σ)) ∧ (¬ ((σ.1 196 8) < 2) → (vp_in ((σ.1 196 8) - 1) 7 ∧ (∀ v2 : Int32, v2 = (σ.1 201 (ix ((σ.1 196 8) - 1))) → (vp_in ((σ.1 196 8) - 2) 7 ∧ (∀ v4 : Int32, v4 = (σ.1 201 (ix ((σ.1 196 8) - 2))) → ((v4 = 0 → (J_X3_choose_56 K  v2 v4 σ)) ∧ (¬ (v4 = 0) → vp_in v4 7 ∧ (((σ.1 197 (ix v4)) = v2 → P_X3_isComplete v4 σ (fun r12 s11 => (r12 = 0 → (J_X3_choose_56 K  v2 v4 s11)) ∧ (¬ (r12 = 0) → (K 1 s11)))) ∧ (¬ ((σ.1 197 (ix v4)) = v2) → (J_X3_choose_56 K  v2 v4 σ))))))))))
set_option maxHeartbeats 4000000 in
set_option maxRecDepth 100000 in
theorem m_X3_choose (l : Launch) (ad : Nat → Nat) (D : va_G) (ca : Nat → ClassId) (had : adOk ad)   (σ : St) (K : Int32 → St → Prop) (hp : P_X3_choose  σ K) : CtI l ad D ca yX3_choose cX3_choose 3 .int 1 [.ref (ad 196)] σ K := CtI_of (av := fun ad => [.ref (ad 196)]) (plainFor_of_name (by decide)) had (Nat.le_of_ble_eq_true rfl) (fun κ C hret => by
  have C : Ok κ RX3 cX3_choose 3 1 := C
  show GG κ 0 [(0, .ref (kad κ 196))] [] σ
  unfold P_X3_choose at hp
  refine x_aload_n 0 C rfl (dX3_choose_p0 0 rfl) ?_
  refine gX3_8 C rfl (by decide) tw_205 (dX3_choose_p0 1 rfl) ?_
  refine x_iconst (v := 2) C (by decide) (dX3_choose_p0 2 rfl) ?_
  refine x_icmp_lt (tgt := 102) C (dX3_choose_p0 3 rfl) (by decide) (fun hc => ?_) (fun hc => ?_)
  · have hp := hp.1 hc
    exact J_X3_choose_102_w C hret   σ  hp
  · have hp := hp.2 hc
    refine x_aload_n 0 C rfl (dX3_choose_p0 4 rfl) ?_
    refine gX3_7 (b := 201) C rfl (by decide) rfl tw_204 (dX3_choose_p0 5 rfl) ?_
    refine x_aload_n 0 C rfl (dX3_choose_p0 6 rfl) ?_
    refine gX3_8 C rfl (by decide) tw_205 (dX3_choose_p0 7 rfl) ?_
    refine x_iconst (v := 1) C (by decide) (dX3_choose_p0 8 rfl) ?_
    refine x_isub C (dX3_choose_p0 9 rfl) ?_
    obtain ⟨h1, hp⟩ := hp
    refine x_iald C rfl (by decide) h1 (dX3_choose_p0 10 rfl) ?_
    refine x_topI (fun v2 ev2 => ?_)
    have hp := hp v2 ev2
    refine x_istore_n (loc' := [(1, .int v2), (0, .ref (kad κ 196))]) C rfl (by decide) rfl (dX3_choose_p0 11 rfl) ?_
    refine x_aload_n 1 C rfl (dX3_choose_p0 12 rfl) ?_
    refine gX3_7 (b := 201) C rfl (by decide) rfl tw_204 (dX3_choose_p0 13 rfl) ?_
    refine x_aload_n 1 C rfl (dX3_choose_p0 14 rfl) ?_
    refine gX3_8 C rfl (by decide) tw_205 (dX3_choose_p0 15 rfl) ?_
    refine x_iconst (v := 2) C (by decide) (dX3_choose_p0 16 rfl) ?_
    refine x_isub C (dX3_choose_p0 17 rfl) ?_
    obtain ⟨h3, hp⟩ := hp
    refine x_iald C rfl (by decide) h3 (dX3_choose_p0 18 rfl) ?_
    refine x_topI (fun v4 ev4 => ?_)
    have hp := hp v4 ev4
    refine x_istore_n (loc' := [(2, .int v4), (1, .int v2), (0, .ref (kad κ 196))]) C rfl (by decide) rfl (dX3_choose_p0 19 rfl) ?_
    refine x_iload_n 0 C rfl (dX3_choose_p0 20 rfl) ?_
    refine x_if_eq (tgt := 56) C (dX3_choose_p0 21 rfl) (by decide) (fun hc => ?_) (fun hc => ?_)
    · have hp := hp.1 hc
      refine x_loc (loc' := [(0, .ref (kad κ 196)), (1, .int v2), (2, .int v4)]) [2, 1, 0] rfl ?_
      exact J_X3_choose_56_w C hret v2 v4  σ  hp
    · have hp := hp.2 hc
      refine x_aload_n 2 C rfl (dX3_choose_p0 22 rfl) ?_
      refine gX3_1 (b := 197) C rfl (by decide) rfl tw_195 (dX3_choose_p0 23 rfl) ?_
      refine x_iload_n 0 C rfl (dX3_choose_p0 24 rfl) ?_
      obtain ⟨h10, hp⟩ := hp
      refine x_iald C rfl (by decide) h10 (dX3_choose_p0 25 rfl) ?_
      refine x_iload_n 1 C rfl (dX3_choose_p0 26 rfl) ?_
      refine x_icmp_ne (tgt := 56) C (dX3_choose_p0 27 rfl) (by decide) (fun hc => ?_) (fun hc => ?_)
      · have hp := hp.2 hc
        refine x_loc (loc' := [(0, .ref (kad κ 196)), (1, .int v2), (2, .int v4)]) [2, 1, 0] rfl ?_
        exact J_X3_choose_56_w C hret v2 v4  σ  hp
      · have hp := hp.1 hc
        refine x_aload_n 2 C rfl (dX3_choose_p0 28 rfl) ?_
        refine x_iload_n 0 C rfl (dX3_choose_p0 29 rfl) ?_
        refine x_cvI (As := [.int v4]) (st := []) C LRX3_72 (ci := 3) rfl rfl (by decide) (by decide) (m_X3_isComplete (kL κ) (kad κ) (kD κ) (kca κ) C.ado v4  σ _ hp) rfl (by decide) rfl (Nat.le_of_ble_eq_true rfl) (dX3_choose_p0 30 rfl) (fun r12 s11 hp => ?_)
        refine x_if_eq (tgt := 56) C (dX3_choose_p0 31 rfl) (by decide) (fun hc => ?_) (fun hc => ?_)
        · have hp := hp.1 hc
          refine x_loc (loc' := [(0, .ref (kad κ 196)), (1, .int v2), (2, .int v4)]) [2, 1, 0] rfl ?_
          exact J_X3_choose_56_w C hret v2 v4  s11  hp
        · have hp := hp.2 hc
          refine x_iconst (v := 1) C (by decide) (dX3_choose_p0 32 rfl) ?_
          exact hret _ _ _ _ (dX3_choose_p0 33 rfl) (nar_i _) hp)
def F_X3_perform_67 (K : St → Prop) (c67 : (Int32 × St) → Prop) (u1 : Int32) (σ : St) : Prop := (64 ≤ u1 → (K σ)) ∧ (¬ (64 ≤ u1) → P_X3_choose  σ (fun r7 s6 => (r7 = 4 → (K s6)) ∧ (¬ (r7 = 4) → (vp_in u1 64 ∧ ∀ s9 : St, s9 = wI s6 200 (ix u1) r7 → (∀ s10 : St, s10 = wI s9 196 6 (u1 + 1) → P_X3_apply r7 s10 (fun s11 => ∀ v12 : Int32, v12 = u1 + 1 → c67 (v12, s11)))))))
set_option maxHeartbeats 4000000 in
set_option maxRecDepth 100000 in
theorem F_X3_perform_67_w {κ : Kap} {K : St → Prop} {c67 : (Int32 × St) → Prop} (C : Ok κ RX3 cX3_perform 3 2) (hret : RetV κ cX3_perform K) (u1 : Int32)   (σ : St) (hc67 : ∀ (u1 : Int32) (σ : St), c67 (u1, σ) → GG κ 67 [(0, .ref (kad κ 196)), (1, .int u1)] [] σ) (hp : F_X3_perform_67 K c67 u1 σ) : GG κ 67 [(0, .ref (kad κ 196)), (1, .int u1)] [] σ := by
  unfold F_X3_perform_67 at hp
  refine x_iload_n 1 C rfl (dX3_perform_p0 41 rfl) ?_
  refine x_bipush (v := 64) C (by decide) (dX3_perform_p0 42 rfl) ?_
  refine x_icmp_ge (tgt := 109) C (dX3_perform_p0 43 rfl) (by decide) (fun hc => ?_) (fun hc => ?_)
  · have hp := hp.1 hc
    exact hret _ _ _ (dX3_perform_p1 2 rfl) hp
  · have hp := hp.2 hc
    refine x_aload_n 0 C rfl (dX3_perform_p0 44 rfl) ?_
    refine x_cvI (As := []) (st := []) C LRX3_64 (ci := 3) rfl rfl (by decide) (by decide) (m_X3_choose (kL κ) (kad κ) (kD κ) (kca κ) C.ado   σ _ hp) rfl (by decide) rfl (Nat.le_of_ble_eq_true rfl) (dX3_perform_p0 45 rfl) (fun r7 s6 hp => ?_)
    refine x_istore_n (loc' := [(2, .int r7), (0, .ref (kad κ 196)), (1, .int u1)]) C rfl (by decide) rfl (dX3_perform_p0 46 rfl) ?_
    refine x_iload_n 0 C rfl (dX3_perform_p0 47 rfl) ?_
    refine x_iconst (v := 4) C (by decide) (dX3_perform_p0 48 rfl) ?_
    refine x_icmp_ne (tgt := 84) C (dX3_perform_p0 49 rfl) (by decide) (fun hc => ?_) (fun hc => ?_)
    · have hp := hp.2 hc
      refine x_aload_n 1 C rfl (dX3_perform_p0 51 rfl) ?_
      refine gX3_5 (b := 200) C rfl (by decide) rfl tw_200 (dX3_perform_p0 52 rfl) ?_
      refine x_iload_n 2 C rfl (dX3_perform_p0 53 rfl) ?_
      refine x_iload_n 0 C rfl (dX3_perform_p0 54 rfl) ?_
      obtain ⟨h8, hp⟩ := hp
      refine x_iast C rfl (by decide) h8 (dX3_perform_p0 55 rfl) ?_
      refine x_nmS (fun s9 es9 => ?_)
      have hp := hp s9 es9
      refine x_aload_n 1 C rfl (dX3_perform_p0 56 rfl) ?_
      refine x_iload_n 2 C rfl (dX3_perform_p0 57 rfl) ?_
      refine x_iconst (v := 1) C (by decide) (dX3_perform_p0 58 rfl) ?_
      refine x_iadd C (dX3_perform_p0 59 rfl) ?_
      refine qX3_6 C rfl (by decide) tw_202 (dX3_perform_p0 60 rfl) ?_
      refine x_nmS (fun s10 es10 => ?_)
      have hp := hp s10 es10
      refine x_aload_n 1 C rfl (dX3_perform_p0 61 rfl) ?_
      refine x_iload_n 0 C rfl (dX3_perform_p0 62 rfl) ?_
      refine x_cvV (As := [.int r7]) (st := []) C LRX3_68 (ci := 3) rfl rfl (by decide) (by decide) (m_X3_apply (kL κ) (kad κ) (kD κ) (kca κ) C.ado r7  s10 _ hp) rfl (by decide) rfl (Nat.le_of_ble_eq_true rfl) (dX3_perform_p0 63 rfl) (fun s11 hp => ?_)
      obtain ⟨v12, ev12⟩ : ∃ z : Int32, z = u1 + 1 := ⟨_, rfl⟩
      have hp := hp v12 ev12
      refine x_iinc (v := v12) (loc' := [(1, .int v12), (2, .int r7), (0, .ref (kad κ 196))]) 2 C rfl (by rw [ev12]; rfl) (by decide) rfl (dX3_perform_p1 0 rfl) ?_
      refine x_goto (tgt := 67) C (dX3_perform_p1 1 rfl) (by decide) ?_
      refine x_loc (loc' := [(0, .ref (kad κ 196)), (1, .int v12)]) [2, 0] rfl ?_
      exact hc67 v12 s11 hp
    · have hp := hp.1 hc
      exact hret _ _ _ (dX3_perform_p0 50 rfl) hp
def F_X3_perform_27 (K : St → Prop) (c27 : (Int32 × St) → Prop) (u1 : Int32) (σ : St) : Prop := (u1 < 1 → (LpE (fun c s => F_X3_perform_67 K  c s.1 s.2) (0, σ))) ∧ (¬ (u1 < 1) → (vp_in u1 7 ∧ ∀ s14 : St, s14 = wI σ 203 (ix u1) 0 → (vp_in (s14.1 196 10) 7 ∧ ∀ s16 : St, s16 = wI s14 202 (ix (s14.1 196 10)) u1 → (∀ s17 : St, s17 = wI s16 196 10 ((s16.1 196 10) + 1) → (∀ v18 : Int32, v18 = u1 + (-1) → c27 (v18, s17))))))
set_option maxHeartbeats 4000000 in
set_option maxRecDepth 100000 in
theorem F_X3_perform_27_w {κ : Kap} {K : St → Prop} {c27 : (Int32 × St) → Prop} (C : Ok κ RX3 cX3_perform 3 2) (hret : RetV κ cX3_perform K) (u1 : Int32)   (σ : St) (hc27 : ∀ (u1 : Int32) (σ : St), c27 (u1, σ) → GG κ 27 [(0, .ref (kad κ 196)), (1, .int u1)] [] σ) (hp : F_X3_perform_27 K c27 u1 σ) : GG κ 27 [(0, .ref (kad κ 196)), (1, .int u1)] [] σ := by
  unfold F_X3_perform_27 at hp
  refine x_iload_n 1 C rfl (dX3_perform_p0 17 rfl) ?_
  refine x_iconst (v := 1) C (by decide) (dX3_perform_p0 18 rfl) ?_
  refine x_icmp_lt (tgt := 65) C (dX3_perform_p0 19 rfl) (by decide) (fun hc => ?_) (fun hc => ?_)
  · have hp := hp.1 hc
    refine x_iconst (v := 0) C (by decide) (dX3_perform_p0 39 rfl) ?_
    refine x_istore_n (loc' := [(1, .int 0), (0, .ref (kad κ 196))]) C rfl (by decide) rfl (dX3_perform_p0 40 rfl) ?_
    refine x_loc (loc' := [(0, .ref (kad κ 196)), (1, .int 0)]) [1, 0] rfl ?_
    exact LpE_GG (S := (Int32 × St)) (F := fun c s => F_X3_perform_67 K  c s.1 s.2) (W := fun s => GG κ 67 [(0, .ref (kad κ 196)), (1, .int s.1)] [] s.2) (fun c s hcc hp => F_X3_perform_67_w C hret s.1  s.2  (fun u1 σ h => hcc (u1, σ) h) hp) hp
  · have hp := hp.2 hc
    refine x_aload_n 0 C rfl (dX3_perform_p0 20 rfl) ?_
    refine gX3_11 (b := 203) C rfl (by decide) rfl tw_208 (dX3_perform_p0 21 rfl) ?_
    refine x_iload_n 1 C rfl (dX3_perform_p0 22 rfl) ?_
    refine x_iconst (v := 0) C (by decide) (dX3_perform_p0 23 rfl) ?_
    obtain ⟨h13, hp⟩ := hp
    refine x_zast C rfl (by decide) h13 isB0 (dX3_perform_p0 24 rfl) ?_
    refine x_nmS (fun s14 es14 => ?_)
    have hp := hp s14 es14
    refine x_aload_n 0 C rfl (dX3_perform_p0 25 rfl) ?_
    refine gX3_9 (b := 202) C rfl (by decide) rfl tw_206 (dX3_perform_p0 26 rfl) ?_
    refine x_aload_n 0 C rfl (dX3_perform_p0 27 rfl) ?_
    refine gX3_10 C rfl (by decide) tw_207 (dX3_perform_p0 28 rfl) ?_
    refine x_iload_n 1 C rfl (dX3_perform_p0 29 rfl) ?_
    obtain ⟨h15, hp⟩ := hp
    refine x_iast C rfl (by decide) h15 (dX3_perform_p0 30 rfl) ?_
    refine x_nmS (fun s16 es16 => ?_)
    have hp := hp s16 es16
    refine x_aload_n 0 C rfl (dX3_perform_p0 31 rfl) ?_
    refine x_dup C rfl (dX3_perform_p0 32 rfl) ?_
    refine gX3_10 C rfl (by decide) tw_207 (dX3_perform_p0 33 rfl) ?_
    refine x_iconst (v := 1) C (by decide) (dX3_perform_p0 34 rfl) ?_
    refine x_iadd C (dX3_perform_p0 35 rfl) ?_
    refine qX3_10 C rfl (by decide) tw_207 (dX3_perform_p0 36 rfl) ?_
    refine x_nmS (fun s17 es17 => ?_)
    have hp := hp s17 es17
    obtain ⟨v18, ev18⟩ : ∃ z : Int32, z = u1 + (-1) := ⟨_, rfl⟩
    have hp := hp v18 ev18
    refine x_iinc (v := v18) (loc' := [(1, .int v18), (0, .ref (kad κ 196))]) 1 C rfl (by rw [ev18]; rfl) (by decide) rfl (dX3_perform_p0 37 rfl) ?_
    refine x_goto (tgt := 27) C (dX3_perform_p0 38 rfl) (by decide) ?_
    refine x_loc (loc' := [(0, .ref (kad κ 196)), (1, .int v18)]) [1, 0] rfl ?_
    exact hc27 v18 s17 hp
def P_X3_perform  (σ : St) (K : St → Prop) : Prop := ∀ s1 : St, s1 = wI σ 196 6 0 → (∀ s2 : St, s2 = wI s1 201 (ix 0) 0 → ∀ s3 : St, s3 = wI s2 196 8 1 → ∀ s4 : St, s4 = wI s3 196 10 0 → (∀ v5 : Int32, v5 = (s4.1 196 0) → (LpE (fun c s => F_X3_perform_27 K  c s.1 s.2) (v5, s4))))
set_option maxHeartbeats 4000000 in
set_option maxRecDepth 100000 in
theorem m_X3_perform (l : Launch) (ad : Nat → Nat) (D : va_G) (ca : Nat → ClassId) (had : adOk ad)   (σ : St) (K : St → Prop) (hp : P_X3_perform  σ K) : CtV l ad D ca yX3_perform cX3_perform 3 2 [.ref (ad 196)] σ K := CtV_of (av := fun ad => [.ref (ad 196)]) (plainFor_of_name (by decide)) had (Nat.le_of_ble_eq_true rfl) (fun κ C hret => by
  have C : Ok κ RX3 cX3_perform 3 2 := C
  show GG κ 0 [(0, .ref (kad κ 196))] [] σ
  unfold P_X3_perform at hp
  refine x_aload_n 0 C rfl (dX3_perform_p0 0 rfl) ?_
  refine x_iconst (v := 0) C (by decide) (dX3_perform_p0 1 rfl) ?_
  refine qX3_6 C rfl (by decide) tw_202 (dX3_perform_p0 2 rfl) ?_
  refine x_nmS (fun s1 es1 => ?_)
  have hp := hp s1 es1
  refine x_aload_n 0 C rfl (dX3_perform_p0 3 rfl) ?_
  refine gX3_7 (b := 201) C rfl (by decide) rfl tw_204 (dX3_perform_p0 4 rfl) ?_
  refine x_iconst (v := 0) C (by decide) (dX3_perform_p0 5 rfl) ?_
  refine x_iconst (v := 0) C (by decide) (dX3_perform_p0 6 rfl) ?_
  refine x_iast C rfl (by decide) (vp_lit (by decide) (by decide)) (dX3_perform_p0 7 rfl) ?_
  refine x_nmS (fun s2 es2 => ?_)
  have hp := hp s2 es2
  refine x_aload_n 0 C rfl (dX3_perform_p0 8 rfl) ?_
  refine x_iconst (v := 1) C (by decide) (dX3_perform_p0 9 rfl) ?_
  refine qX3_8 C rfl (by decide) tw_205 (dX3_perform_p0 10 rfl) ?_
  refine x_nmS (fun s3 es3 => ?_)
  have hp := hp s3 es3
  refine x_aload_n 0 C rfl (dX3_perform_p0 11 rfl) ?_
  refine x_iconst (v := 0) C (by decide) (dX3_perform_p0 12 rfl) ?_
  refine qX3_10 C rfl (by decide) tw_207 (dX3_perform_p0 13 rfl) ?_
  refine x_nmS (fun s4 es4 => ?_)
  have hp := hp s4 es4
  refine x_aload_n 0 C rfl (dX3_perform_p0 14 rfl) ?_
  refine gX3_0 C rfl (by decide) tw_194 (dX3_perform_p0 15 rfl) ?_
  refine x_topI (fun v5 ev5 => ?_)
  have hp := hp v5 ev5
  refine x_istore_n (loc' := [(1, .int v5), (0, .ref (kad κ 196))]) C rfl (by decide) rfl (dX3_perform_p0 16 rfl) ?_
  refine x_loc (loc' := [(0, .ref (kad κ 196)), (1, .int v5)]) [1, 0] rfl ?_
  exact LpE_GG (S := (Int32 × St)) (F := fun c s => F_X3_perform_27 K  c s.1 s.2) (W := fun s => GG κ 27 [(0, .ref (kad κ 196)), (1, .int s.1)] [] s.2) (fun c s hcc hp => F_X3_perform_27_w C hret s.1  s.2  (fun u1 σ h => hcc (u1, σ) h) hp) hp)
def F_X4_begin_7 (K : St → Prop) (c7 : (Int32 × St) → Prop) (u2 : Int32) (σ : St) : Prop := (7 ≤ u2 → (K σ)) ∧ (¬ (7 ≤ u2) → (vp_in u2 7 ∧ ∀ s3 : St, s3 = wI σ 143 (ix u2) 0 → ∀ v4 : Int32, v4 = u2 + 1 → c7 (v4, s3)))
set_option maxHeartbeats 4000000 in
set_option maxRecDepth 100000 in
theorem F_X4_begin_7_w {κ : Kap} {K : St → Prop} {c7 : (Int32 × St) → Prop} (C : Ok κ RX4 cX4_begin 3 0) (hret : RetV κ cX4_begin K) (u2 : Int32)   (σ : St) (hc7 : ∀ (u2 : Int32) (σ : St), c7 (u2, σ) → GG κ 7 [(0, .ref (kad κ 126)), (2, .int u2)] [] σ) (hp : F_X4_begin_7 K c7 u2 σ) : GG κ 7 [(0, .ref (kad κ 126)), (2, .int u2)] [] σ := by
  unfold F_X4_begin_7 at hp
  refine x_iload_n 1 C rfl (dX4_begin_p0 5 rfl) ?_
  refine x_bipush (v := 7) C (by decide) (dX4_begin_p0 6 rfl) ?_
  refine x_icmp_ge (tgt := 26) C (dX4_begin_p0 7 rfl) (by decide) (fun hc => ?_) (fun hc => ?_)
  · have hp := hp.1 hc
    exact hret _ _ _ (dX4_begin_p0 15 rfl) hp
  · have hp := hp.2 hc
    refine x_aload_n 0 C rfl (dX4_begin_p0 8 rfl) ?_
    refine gX4_4 (b := 143) C rfl (by decide) rfl tw_127 (dX4_begin_p0 9 rfl) ?_
    refine x_iload_n 1 C rfl (dX4_begin_p0 10 rfl) ?_
    refine x_iconst (v := 0) C (by decide) (dX4_begin_p0 11 rfl) ?_
    obtain ⟨h2, hp⟩ := hp
    refine x_iast C rfl (by decide) h2 (dX4_begin_p0 12 rfl) ?_
    refine x_nmS (fun s3 es3 => ?_)
    have hp := hp s3 es3
    obtain ⟨v4, ev4⟩ : ∃ z : Int32, z = u2 + 1 := ⟨_, rfl⟩
    have hp := hp v4 ev4
    refine x_iinc (v := v4) (loc' := [(2, .int v4), (0, .ref (kad κ 126))]) 1 C rfl (by rw [ev4]; rfl) (by decide) rfl (dX4_begin_p0 13 rfl) ?_
    refine x_goto (tgt := 7) C (dX4_begin_p0 14 rfl) (by decide) ?_
    refine x_loc (loc' := [(0, .ref (kad κ 126)), (2, .int v4)]) [1, 0] rfl ?_
    exact hc7 v4 s3 hp
def P_X4_begin (p1 : Int32) (σ : St) (K : St → Prop) : Prop := ∀ s1 : St, s1 = wI σ 126 1 p1 → (LpE (fun c s => F_X4_begin_7 K  c s.1 s.2) (0, s1))
set_option maxHeartbeats 4000000 in
set_option maxRecDepth 100000 in
theorem m_X4_begin (l : Launch) (ad : Nat → Nat) (D : va_G) (ca : Nat → ClassId) (had : adOk ad) (p1 : Int32)  (σ : St) (K : St → Prop) (hp : P_X4_begin p1 σ K) : CtV l ad D ca yX4_begin cX4_begin 3 0 [.ref (ad 126), .int p1] σ K := CtV_of (av := fun ad => [.ref (ad 126), .int p1]) (plainFor_of_name (by decide)) had (Nat.le_of_ble_eq_true rfl) (fun κ C hret => by
  have C : Ok κ RX4 cX4_begin 3 0 := C
  show GG κ 0 [(0, .ref (kad κ 126)), (1, .int p1)] [] σ
  unfold P_X4_begin at hp
  refine x_aload_n 0 C rfl (dX4_begin_p0 0 rfl) ?_
  refine x_iload_n 1 C rfl (dX4_begin_p0 1 rfl) ?_
  refine qX4_1 C rfl (by decide) tw_124 (dX4_begin_p0 2 rfl) ?_
  refine x_nmS (fun s1 es1 => ?_)
  have hp := hp s1 es1
  refine x_iconst (v := 0) C (by decide) (dX4_begin_p0 3 rfl) ?_
  refine x_istore_n (loc' := [(2, .int 0), (0, .ref (kad κ 126)), (1, .int p1)]) C rfl (by decide) rfl (dX4_begin_p0 4 rfl) ?_
  refine x_loc (loc' := [(0, .ref (kad κ 126)), (2, .int 0)]) [1, 0] rfl ?_
  exact LpE_GG (S := (Int32 × St)) (F := fun c s => F_X4_begin_7 K  c s.1 s.2) (W := fun s => GG κ 7 [(0, .ref (kad κ 126)), (2, .int s.1)] [] s.2) (fun c s hcc hp => F_X4_begin_7_w C hret s.1  s.2  (fun u2 σ h => hcc (u2, σ) h) hp) hp)
def J_X4_closesCycle_33 (K : Int32 → St → Prop)  (u2 : Int32) (u3 : Int32) (σ : St) : Prop := (u3 = u2 → (K 1 σ)) ∧ (¬ (u3 = u2) → (K 0 σ))
set_option maxHeartbeats 4000000 in
set_option maxRecDepth 100000 in
theorem J_X4_closesCycle_33_w {κ : Kap} {K : Int32 → St → Prop}  (C : Ok κ RX4 cX4_closesCycle 5 0) (hret : RetI κ cX4_closesCycle .boolean K) (u2 : Int32) (u3 : Int32)   (σ : St)  (hp : J_X4_closesCycle_33 K  u2 u3 σ) : GG κ 33 [(2, .int u2), (3, .int u3)] [] σ := by
  unfold J_X4_closesCycle_33 at hp
  refine x_iload_n 1 C rfl (dX4_closesCycle_p0 19 rfl) ?_
  refine x_iload_n 0 C rfl (dX4_closesCycle_p0 20 rfl) ?_
  refine x_icmp_ne (tgt := 42) C (dX4_closesCycle_p0 21 rfl) (by decide) (fun hc => ?_) (fun hc => ?_)
  · have hp := hp.2 hc
    refine x_iconst (v := 0) C (by decide) (dX4_closesCycle_p0 24 rfl) ?_
    exact hret _ _ _ _ (dX4_closesCycle_p0 25 rfl) (nar_z isB0) hp
  · have hp := hp.1 hc
    refine x_iconst (v := 1) C (by decide) (dX4_closesCycle_p0 22 rfl) ?_
    refine x_goto (tgt := 43) C (dX4_closesCycle_p0 23 rfl) (by decide) ?_
    exact hret _ _ _ _ (dX4_closesCycle_p0 25 rfl) (nar_z isB1) hp
def F_X4_closesCycle_5 (K : Int32 → St → Prop) (c5 : (Int32 × Int32 × St) → Prop) (u2 : Int32) (u3 : Int32) (u4 : Int32) (σ : St) : Prop := (u2 ≤ u4 → (J_X4_closesCycle_33 K  u2 u3 σ)) ∧ (¬ (u2 ≤ u4) → ((u3 ≤ 0 → (J_X4_closesCycle_33 K  u2 u3 σ)) ∧ (¬ (u3 ≤ 0) → ((u2 ≤ u3 → (J_X4_closesCycle_33 K  u2 u3 σ)) ∧ (¬ (u2 ≤ u3) → vp_in u3 7 ∧ (∀ v2 : Int32, v2 = (σ.1 145 (ix u3)) → ∀ v3 : Int32, v3 = u4 + 1 → c5 (v2, v3, σ)))))))
set_option maxHeartbeats 4000000 in
set_option maxRecDepth 100000 in
theorem F_X4_closesCycle_5_w {κ : Kap} {K : Int32 → St → Prop} {c5 : (Int32 × Int32 × St) → Prop} (C : Ok κ RX4 cX4_closesCycle 5 0) (hret : RetI κ cX4_closesCycle .boolean K) (u2 : Int32) (u3 : Int32) (u4 : Int32)     (σ : St) (hc5 : ∀ (u3 : Int32) (u4 : Int32) (σ : St), c5 (u3, u4, σ) → GG κ 5 [(0, .ref (kad κ 126)), (2, .int u2), (3, .int u3), (4, .int u4)] [] σ) (hp : F_X4_closesCycle_5 K c5 u2 u3 u4 σ) : GG κ 5 [(0, .ref (kad κ 126)), (2, .int u2), (3, .int u3), (4, .int u4)] [] σ := by
  unfold F_X4_closesCycle_5 at hp
  refine x_iload 3 C rfl (dX4_closesCycle_p0 4 rfl) ?_
  refine x_iload_n 1 C rfl (dX4_closesCycle_p0 5 rfl) ?_
  refine x_icmp_ge (tgt := 33) C (dX4_closesCycle_p0 6 rfl) (by decide) (fun hc => ?_) (fun hc => ?_)
  · have hp := hp.1 hc
    refine x_loc (loc' := [(2, .int u2), (3, .int u3)]) [1, 2] rfl ?_
    exact J_X4_closesCycle_33_w C hret u2 u3  σ  hp
  · have hp := hp.2 hc
    refine x_iload_n 2 C rfl (dX4_closesCycle_p0 7 rfl) ?_
    refine x_if_le (tgt := 33) C (dX4_closesCycle_p0 8 rfl) (by decide) (fun hc => ?_) (fun hc => ?_)
    · have hp := hp.1 hc
      refine x_loc (loc' := [(2, .int u2), (3, .int u3)]) [1, 2] rfl ?_
      exact J_X4_closesCycle_33_w C hret u2 u3  σ  hp
    · have hp := hp.2 hc
      refine x_iload_n 2 C rfl (dX4_closesCycle_p0 9 rfl) ?_
      refine x_iload_n 1 C rfl (dX4_closesCycle_p0 10 rfl) ?_
      refine x_icmp_ge (tgt := 33) C (dX4_closesCycle_p0 11 rfl) (by decide) (fun hc => ?_) (fun hc => ?_)
      · have hp := hp.1 hc
        refine x_loc (loc' := [(2, .int u2), (3, .int u3)]) [1, 2] rfl ?_
        exact J_X4_closesCycle_33_w C hret u2 u3  σ  hp
      · have hp := hp.2 hc
        refine x_aload_n 0 C rfl (dX4_closesCycle_p0 12 rfl) ?_
        refine gX4_6 (b := 145) C rfl (by decide) rfl tw_129 (dX4_closesCycle_p0 13 rfl) ?_
        refine x_iload_n 2 C rfl (dX4_closesCycle_p0 14 rfl) ?_
        obtain ⟨h1, hp⟩ := hp
        refine x_iald C rfl (by decide) h1 (dX4_closesCycle_p0 15 rfl) ?_
        refine x_topI (fun v2 ev2 => ?_)
        have hp := hp v2 ev2
        refine x_istore_n (loc' := [(3, .int v2), (0, .ref (kad κ 126)), (2, .int u2), (4, .int u4)]) C rfl (by decide) rfl (dX4_closesCycle_p0 16 rfl) ?_
        obtain ⟨v3, ev3⟩ : ∃ z : Int32, z = u4 + 1 := ⟨_, rfl⟩
        have hp := hp v3 ev3
        refine x_iinc (v := v3) (loc' := [(4, .int v3), (3, .int v2), (0, .ref (kad κ 126)), (2, .int u2)]) 3 C rfl (by rw [ev3]; rfl) (by decide) rfl (dX4_closesCycle_p0 17 rfl) ?_
        refine x_goto (tgt := 5) C (dX4_closesCycle_p0 18 rfl) (by decide) ?_
        refine x_loc (loc' := [(0, .ref (kad κ 126)), (2, .int u2), (3, .int v2), (4, .int v3)]) [2, 3, 1, 0] rfl ?_
        exact hc5 v2 v3 σ hp
def P_X4_closesCycle (p1 : Int32) (p2 : Int32) (σ : St) (K : Int32 → St → Prop) : Prop := LpE (fun c s => F_X4_closesCycle_5 K  c p2 s.1 s.2.1 s.2.2) (p1, 0, σ)
set_option maxHeartbeats 4000000 in
set_option maxRecDepth 100000 in
theorem m_X4_closesCycle (l : Launch) (ad : Nat → Nat) (D : va_G) (ca : Nat → ClassId) (had : adOk ad) (p1 : Int32) (p2 : Int32)  (σ : St) (K : Int32 → St → Prop) (hp : P_X4_closesCycle p1 p2 σ K) : CtI l ad D ca yX4_closesCycle cX4_closesCycle 5 .boolean 0 [.ref (ad 126), .int p1, .int p2] σ K := CtI_of (av := fun ad => [.ref (ad 126), .int p1, .int p2]) (plainFor_of_name (by decide)) had (Nat.le_of_ble_eq_true rfl) (fun κ C hret => by
  have C : Ok κ RX4 cX4_closesCycle 5 0 := C
  show GG κ 0 [(0, .ref (kad κ 126)), (1, .int p1), (2, .int p2)] [] σ
  unfold P_X4_closesCycle at hp
  refine x_iload_n 1 C rfl (dX4_closesCycle_p0 0 rfl) ?_
  refine x_istore_n (loc' := [(3, .int p1), (0, .ref (kad κ 126)), (1, .int p1), (2, .int p2)]) C rfl (by decide) rfl (dX4_closesCycle_p0 1 rfl) ?_
  refine x_iconst (v := 0) C (by decide) (dX4_closesCycle_p0 2 rfl) ?_
  refine x_istore (loc' := [(4, .int 0), (3, .int p1), (0, .ref (kad κ 126)), (1, .int p1), (2, .int p2)]) C (by decide) rfl (dX4_closesCycle_p0 3 rfl) ?_
  refine x_loc (loc' := [(0, .ref (kad κ 126)), (2, .int p2), (3, .int p1), (4, .int 0)]) [2, 4, 1, 0] rfl ?_
  exact LpE_GG (S := (Int32 × Int32 × St)) (F := fun c s => F_X4_closesCycle_5 K  c p2 s.1 s.2.1 s.2.2) (W := fun s => GG κ 5 [(0, .ref (kad κ 126)), (2, .int p2), (3, .int s.1), (4, .int s.2.1)] [] s.2.2) (fun c s hcc hp => F_X4_closesCycle_5_w C hret p2 s.1 s.2.1  s.2.2  (fun u3 u4 σ h => hcc (u3, u4, σ) h) hp) hp)
