def F_X8_right_4 (K : Int32 → St → Prop) (c4 : (Int32 × Int32 × St) → Prop) (u1 : Int32) (u2 : Int32) (u3 : Int32) (σ : St) : Prop := vp_in u1 4 ∧ (((σ.1 206 (ix u1)) < u3 → (K u2 σ)) ∧ (¬ ((σ.1 206 (ix u1)) < u3) → vp_in u3 49 ∧ P_X8_word u1 u3 σ (fun r4 s3 => vp_in r4 28 ∧ (((σ.1 221 (ix u3)) = (s3.1 208 (ix r4)) → (∀ v8 : Int32, v8 = (u2 + 1) → ∀ v9 : Int32, v9 = u3 + 1 → c4 (v8, v9, s3))) ∧ (¬ ((σ.1 221 (ix u3)) = (s3.1 208 (ix r4))) → (∀ v6 : Int32, v6 = (u2 + 0) → ∀ v7 : Int32, v7 = u3 + 1 → c4 (v6, v7, s3)))))))
set_option maxHeartbeats 4000000 in
set_option maxRecDepth 100000 in
theorem F_X8_right_4_w {κ : Kap} {K : Int32 → St → Prop} {c4 : (Int32 × Int32 × St) → Prop} (C : Ok κ RX8 cX8_right 4 1) (hret : RetI κ cX8_right .int K) (u1 : Int32) (u2 : Int32) (u3 : Int32)     (σ : St) (hc4 : ∀ (u2 : Int32) (u3 : Int32) (σ : St), c4 (u2, u3, σ) → GG κ 4 [(0, .ref (kad κ 204)), (1, .int u1), (2, .int u2), (3, .int u3)] [] σ) (hp : F_X8_right_4 K c4 u1 u2 u3 σ) : GG κ 4 [(0, .ref (kad κ 204)), (1, .int u1), (2, .int u2), (3, .int u3)] [] σ := by
  unfold F_X8_right_4 at hp
  refine x_iload_n 3 C rfl (dX8_right_p0 4 rfl) ?_
  refine x_aload_n 0 C rfl (dX8_right_p0 5 rfl) ?_
  refine gX8_3 (b := 206) C rfl (by decide) rfl tw_751 (dX8_right_p0 6 rfl) ?_
  refine x_iload_n 1 C rfl (dX8_right_p0 7 rfl) ?_
  obtain ⟨h1, hp⟩ := hp
  refine x_iald C rfl (by decide) h1 (dX8_right_p0 8 rfl) ?_
  refine x_icmp_gt (tgt := 47) C (dX8_right_p0 9 rfl) (by decide) (fun hc => ?_) (fun hc => ?_)
  · have hp := hp.1 hc
    refine x_iload_n 2 C rfl (dX8_right_p0 29 rfl) ?_
    exact hret _ _ _ _ (dX8_right_p0 30 rfl) (nar_i _) hp
  · have hp := hp.2 hc
    refine x_iload_n 2 C rfl (dX8_right_p0 10 rfl) ?_
    refine x_aload_n 0 C rfl (dX8_right_p0 11 rfl) ?_
    refine gX8_23 (b := 221) C rfl (by decide) rfl tw_771 (dX8_right_p0 12 rfl) ?_
    refine x_iload_n 3 C rfl (dX8_right_p0 13 rfl) ?_
    obtain ⟨h2, hp⟩ := hp
    refine x_iald C rfl (by decide) h2 (dX8_right_p0 14 rfl) ?_
    refine x_aload_n 0 C rfl (dX8_right_p0 15 rfl) ?_
    refine gX8_5 (b := 208) C rfl (by decide) rfl tw_753 (dX8_right_p0 16 rfl) ?_
    refine x_iload_n 1 C rfl (dX8_right_p0 17 rfl) ?_
    refine x_iload_n 3 C rfl (dX8_right_p0 18 rfl) ?_
    refine x_csI (As := [.int u1, .int u3]) (st := [.ref (kad κ 208), .int (σ.1 221 (ix u3)), .int u2]) C LRX8_124 (m_X8_word (kL κ) (kad κ) (kD κ) (kca κ) C.ado u1 u3  σ _ hp) rfl (by decide) rfl (Nat.le_of_ble_eq_true rfl) (dX8_right_p0 19 rfl) (fun r4 s3 hp => ?_)
    obtain ⟨h5, hp⟩ := hp
    refine x_iald C rfl (by decide) h5 (dX8_right_p0 20 rfl) ?_
    refine x_icmp_ne (tgt := 38) C (dX8_right_p0 21 rfl) (by decide) (fun hc => ?_) (fun hc => ?_)
    · have hp := hp.2 hc
      refine x_iconst (v := 0) C (by decide) (dX8_right_p0 24 rfl) ?_
      refine x_iadd C (dX8_right_p0 25 rfl) ?_
      refine x_topI (fun v6 ev6 => ?_)
      have hp := hp v6 ev6
      refine x_istore_n (loc' := [(2, .int v6), (0, .ref (kad κ 204)), (1, .int u1), (3, .int u3)]) C rfl (by decide) rfl (dX8_right_p0 26 rfl) ?_
      obtain ⟨v7, ev7⟩ : ∃ z : Int32, z = u3 + 1 := ⟨_, rfl⟩
      have hp := hp v7 ev7
      refine x_iinc (v := v7) (loc' := [(3, .int v7), (2, .int v6), (0, .ref (kad κ 204)), (1, .int u1)]) 3 C rfl (by rw [ev7]; rfl) (by decide) rfl (dX8_right_p0 27 rfl) ?_
      refine x_goto (tgt := 4) C (dX8_right_p0 28 rfl) (by decide) ?_
      refine x_loc (loc' := [(0, .ref (kad κ 204)), (1, .int u1), (2, .int v6), (3, .int v7)]) [2, 3, 1, 0] rfl ?_
      exact hc4 v6 v7 s3 hp
    · have hp := hp.1 hc
      refine x_iconst (v := 1) C (by decide) (dX8_right_p0 22 rfl) ?_
      refine x_goto (tgt := 39) C (dX8_right_p0 23 rfl) (by decide) ?_
      refine x_iadd C (dX8_right_p0 25 rfl) ?_
      refine x_topI (fun v8 ev8 => ?_)
      have hp := hp v8 ev8
      refine x_istore_n (loc' := [(2, .int v8), (0, .ref (kad κ 204)), (1, .int u1), (3, .int u3)]) C rfl (by decide) rfl (dX8_right_p0 26 rfl) ?_
      obtain ⟨v9, ev9⟩ : ∃ z : Int32, z = u3 + 1 := ⟨_, rfl⟩
      have hp := hp v9 ev9
      refine x_iinc (v := v9) (loc' := [(3, .int v9), (2, .int v8), (0, .ref (kad κ 204)), (1, .int u1)]) 3 C rfl (by rw [ev9]; rfl) (by decide) rfl (dX8_right_p0 27 rfl) ?_
      refine x_goto (tgt := 4) C (dX8_right_p0 28 rfl) (by decide) ?_
      refine x_loc (loc' := [(0, .ref (kad κ 204)), (1, .int u1), (2, .int v8), (3, .int v9)]) [2, 3, 1, 0] rfl ?_
      exact hc4 v8 v9 s3 hp
def P_X8_right (p1 : Int32) (σ : St) (K : Int32 → St → Prop) : Prop := LpE (fun c s => F_X8_right_4 K  c p1 s.1 s.2.1 s.2.2) (0, 1, σ)
set_option maxHeartbeats 4000000 in
set_option maxRecDepth 100000 in
theorem m_X8_right (l : Launch) (ad : Nat → Nat) (D : va_G) (ca : Nat → ClassId) (had : adOk ad) (p1 : Int32)  (σ : St) (K : Int32 → St → Prop) (hp : P_X8_right p1 σ K) : CtI l ad D ca yX8_right cX8_right 4 .int 1 [.ref (ad 204), .int p1] σ K := CtI_of (av := fun ad => [.ref (ad 204), .int p1]) (plainFor_of_name (by decide)) had (Nat.le_of_ble_eq_true rfl) (fun κ C hret => by
  have C : Ok κ RX8 cX8_right 4 1 := C
  show GG κ 0 [(0, .ref (kad κ 204)), (1, .int p1)] [] σ
  unfold P_X8_right at hp
  refine x_iconst (v := 0) C (by decide) (dX8_right_p0 0 rfl) ?_
  refine x_istore_n (loc' := [(2, .int 0), (0, .ref (kad κ 204)), (1, .int p1)]) C rfl (by decide) rfl (dX8_right_p0 1 rfl) ?_
  refine x_iconst (v := 1) C (by decide) (dX8_right_p0 2 rfl) ?_
  refine x_istore_n (loc' := [(3, .int 1), (2, .int 0), (0, .ref (kad κ 204)), (1, .int p1)]) C rfl (by decide) rfl (dX8_right_p0 3 rfl) ?_
  refine x_loc (loc' := [(0, .ref (kad κ 204)), (1, .int p1), (2, .int 0), (3, .int 1)]) [2, 3, 1, 0] rfl ?_
  exact LpE_GG (S := (Int32 × Int32 × St)) (F := fun c s => F_X8_right_4 K  c p1 s.1 s.2.1 s.2.2) (W := fun s => GG κ 4 [(0, .ref (kad κ 204)), (1, .int p1), (2, .int s.1), (3, .int s.2.1)] [] s.2.2) (fun c s hcc hp => F_X8_right_4_w C hret p1 s.1 s.2.1  s.2.2  (fun u2 u3 σ h => hcc (u2, u3, σ) h) hp) hp)
def F_X8_acceptBest_41 (K : Int32 → St → Prop) (c41 : (Int32 × St) → Prop) (u1 : Int32) (u2 : Int32) (u3 : Int32) (σ : St) : Prop := vp_in u1 4 ∧ (((σ.1 206 (ix u1)) < u3 → (K u2 σ)) ∧ (¬ ((σ.1 206 (ix u1)) < u3) → P_X8_word u1 u3 σ (fun r10 s9 => vp_in u3 49 ∧ (vp_in r10 28 ∧ ∀ s13 : St, s13 = wI s9 208 (ix r10) (s9.1 221 (ix u3)) → ∀ v14 : Int32, v14 = u3 + 1 → c41 (v14, s13)))))
set_option maxHeartbeats 4000000 in
set_option maxRecDepth 100000 in
theorem F_X8_acceptBest_41_w {κ : Kap} {K : Int32 → St → Prop} {c41 : (Int32 × St) → Prop} (C : Ok κ RX8 cX8_acceptBest 4 6) (hret : RetI κ cX8_acceptBest .int K) (u1 : Int32) (u2 : Int32) (u3 : Int32)     (σ : St) (hc41 : ∀ (u3 : Int32) (σ : St), c41 (u3, σ) → GG κ 41 [(0, .ref (kad κ 204)), (1, .int u1), (2, .int u2), (3, .int u3)] [] σ) (hp : F_X8_acceptBest_41 K c41 u1 u2 u3 σ) : GG κ 41 [(0, .ref (kad κ 204)), (1, .int u1), (2, .int u2), (3, .int u3)] [] σ := by
  unfold F_X8_acceptBest_41 at hp
  refine x_iload_n 3 C rfl (dX8_acceptBest_p0 25 rfl) ?_
  refine x_aload_n 0 C rfl (dX8_acceptBest_p0 26 rfl) ?_
  refine gX8_3 (b := 206) C rfl (by decide) rfl tw_751 (dX8_acceptBest_p0 27 rfl) ?_
  refine x_iload_n 1 C rfl (dX8_acceptBest_p0 28 rfl) ?_
  obtain ⟨h8, hp⟩ := hp
  refine x_iald C rfl (by decide) h8 (dX8_acceptBest_p0 29 rfl) ?_
  refine x_icmp_gt (tgt := 73) C (dX8_acceptBest_p0 30 rfl) (by decide) (fun hc => ?_) (fun hc => ?_)
  · have hp := hp.1 hc
    refine x_iload_n 2 C rfl (dX8_acceptBest_p0 43 rfl) ?_
    exact hret _ _ _ _ (dX8_acceptBest_p0 44 rfl) (nar_i _) hp
  · have hp := hp.2 hc
    refine x_aload_n 0 C rfl (dX8_acceptBest_p0 31 rfl) ?_
    refine gX8_5 (b := 208) C rfl (by decide) rfl tw_753 (dX8_acceptBest_p0 32 rfl) ?_
    refine x_iload_n 1 C rfl (dX8_acceptBest_p0 33 rfl) ?_
    refine x_iload_n 3 C rfl (dX8_acceptBest_p0 34 rfl) ?_
    refine x_csI (As := [.int u1, .int u3]) (st := [.ref (kad κ 208)]) C LRX8_124 (m_X8_word (kL κ) (kad κ) (kD κ) (kca κ) C.ado u1 u3  σ _ hp) rfl (by decide) rfl (Nat.le_of_ble_eq_true rfl) (dX8_acceptBest_p0 35 rfl) (fun r10 s9 hp => ?_)
    refine x_aload_n 0 C rfl (dX8_acceptBest_p0 36 rfl) ?_
    refine gX8_23 (b := 221) C rfl (by decide) rfl tw_771 (dX8_acceptBest_p0 37 rfl) ?_
    refine x_iload_n 3 C rfl (dX8_acceptBest_p0 38 rfl) ?_
    obtain ⟨h11, hp⟩ := hp
    refine x_iald C rfl (by decide) h11 (dX8_acceptBest_p0 39 rfl) ?_
    obtain ⟨h12, hp⟩ := hp
    refine x_iast C rfl (by decide) h12 (dX8_acceptBest_p0 40 rfl) ?_
    refine x_nmS (fun s13 es13 => ?_)
    have hp := hp s13 es13
    obtain ⟨v14, ev14⟩ : ∃ z : Int32, z = u3 + 1 := ⟨_, rfl⟩
    have hp := hp v14 ev14
    refine x_iinc (v := v14) (loc' := [(3, .int v14), (0, .ref (kad κ 204)), (1, .int u1), (2, .int u2)]) 3 C rfl (by rw [ev14]; rfl) (by decide) rfl (dX8_acceptBest_p0 41 rfl) ?_
    refine x_goto (tgt := 41) C (dX8_acceptBest_p0 42 rfl) (by decide) ?_
    refine x_loc (loc' := [(0, .ref (kad κ 204)), (1, .int u1), (2, .int u2), (3, .int v14)]) [1, 2, 3, 0] rfl ?_
    exact hc41 v14 s13 hp
def P_X8_acceptBest (p1 : Int32) (σ : St) (K : Int32 → St → Prop) : Prop := P_X8_isSentence p1 σ (fun r2 s1 => (r2 = 0 → (K (-1000001) s1)) ∧ (¬ (r2 = 0) → P_X8_looks p1 s1 (fun s3 => ((s3.1 204 21) = 0 → (K (-1000004) s3)) ∧ (¬ ((s3.1 204 21) = 0) → vp_in p1 4 ∧ P_X8_right p1 s3 (fun r6 s5 => ∀ v7 : Int32, v7 = ((s3.1 206 (ix p1)) - r6) → (LpE (fun c s => F_X8_acceptBest_41 K  c p1 v7 s.1 s.2) (1, s5)))))))
set_option maxHeartbeats 4000000 in
set_option maxRecDepth 100000 in
theorem m_X8_acceptBest (l : Launch) (ad : Nat → Nat) (D : va_G) (ca : Nat → ClassId) (had : adOk ad) (p1 : Int32)  (σ : St) (K : Int32 → St → Prop) (hp : P_X8_acceptBest p1 σ K) : CtI l ad D ca yX8_acceptBest cX8_acceptBest 4 .int 6 [.ref (ad 204), .int p1] σ K := CtI_of (av := fun ad => [.ref (ad 204), .int p1]) (plainFor_of_name (by decide)) had (Nat.le_of_ble_eq_true rfl) (fun κ C hret => by
  have C : Ok κ RX8 cX8_acceptBest 4 6 := C
  show GG κ 0 [(0, .ref (kad κ 204)), (1, .int p1)] [] σ
  unfold P_X8_acceptBest at hp
  refine x_aload_n 0 C rfl (dX8_acceptBest_p0 0 rfl) ?_
  refine x_iload_n 1 C rfl (dX8_acceptBest_p0 1 rfl) ?_
  refine x_cvI (As := [.int p1]) (st := []) C LRX8_98 (ci := 8) rfl rfl (by decide) (by decide) (m_X8_isSentence (kL κ) (kad κ) (kD κ) (kca κ) C.ado p1  σ _ hp) rfl (by decide) rfl (Nat.le_of_ble_eq_true rfl) (dX8_acceptBest_p0 2 rfl) (fun r2 s1 hp => ?_)
  refine x_if_ne (tgt := 11) C (dX8_acceptBest_p0 3 rfl) (by decide) (fun hc => ?_) (fun hc => ?_)
  · have hp := hp.2 hc
    refine x_aload_n 0 C rfl (dX8_acceptBest_p0 6 rfl) ?_
    refine x_iload_n 1 C rfl (dX8_acceptBest_p0 7 rfl) ?_
    refine x_cvV (As := [.int p1]) (st := []) C LRX8_226 (ci := 8) rfl rfl (by decide) (by decide) (m_X8_looks (kL κ) (kad κ) (kD κ) (kca κ) C.ado p1  s1 _ hp) rfl (by decide) rfl (Nat.le_of_ble_eq_true rfl) (dX8_acceptBest_p0 8 rfl) (fun s3 hp => ?_)
    refine x_aload_n 0 C rfl (dX8_acceptBest_p0 9 rfl) ?_
    refine gX8_21 C rfl (by decide) tw_769 (dX8_acceptBest_p0 10 rfl) ?_
    refine x_if_ne (tgt := 26) C (dX8_acceptBest_p0 11 rfl) (by decide) (fun hc => ?_) (fun hc => ?_)
    · have hp := hp.2 hc
      refine x_aload_n 0 C rfl (dX8_acceptBest_p0 14 rfl) ?_
      refine gX8_3 (b := 206) C rfl (by decide) rfl tw_751 (dX8_acceptBest_p0 15 rfl) ?_
      refine x_iload_n 1 C rfl (dX8_acceptBest_p0 16 rfl) ?_
      obtain ⟨h4, hp⟩ := hp
      refine x_iald C rfl (by decide) h4 (dX8_acceptBest_p0 17 rfl) ?_
      refine x_aload_n 0 C rfl (dX8_acceptBest_p0 18 rfl) ?_
      refine x_iload_n 1 C rfl (dX8_acceptBest_p0 19 rfl) ?_
      refine x_cvI (As := [.int p1]) (st := [.int (s3.1 206 (ix p1))]) C LRX8_229 (ci := 8) rfl rfl (by decide) (by decide) (m_X8_right (kL κ) (kad κ) (kD κ) (kca κ) C.ado p1  s3 _ hp) rfl (by decide) rfl (Nat.le_of_ble_eq_true rfl) (dX8_acceptBest_p0 20 rfl) (fun r6 s5 hp => ?_)
      refine x_isub C (dX8_acceptBest_p0 21 rfl) ?_
      refine x_topI (fun v7 ev7 => ?_)
      have hp := hp v7 ev7
      refine x_istore_n (loc' := [(2, .int v7), (0, .ref (kad κ 204)), (1, .int p1)]) C rfl (by decide) rfl (dX8_acceptBest_p0 22 rfl) ?_
      refine x_iconst (v := 1) C (by decide) (dX8_acceptBest_p0 23 rfl) ?_
      refine x_istore_n (loc' := [(3, .int 1), (2, .int v7), (0, .ref (kad κ 204)), (1, .int p1)]) C rfl (by decide) rfl (dX8_acceptBest_p0 24 rfl) ?_
      refine x_loc (loc' := [(0, .ref (kad κ 204)), (1, .int p1), (2, .int v7), (3, .int 1)]) [2, 3, 1, 0] rfl ?_
      exact LpE_GG (S := (Int32 × St)) (F := fun c s => F_X8_acceptBest_41 K  c p1 v7 s.1 s.2) (W := fun s => GG κ 41 [(0, .ref (kad κ 204)), (1, .int p1), (2, .int v7), (3, .int s.1)] [] s.2) (fun c s hcc hp => F_X8_acceptBest_41_w C hret p1 v7 s.1  s.2  (fun u3 σ h => hcc (u3, σ) h) hp) hp
    · have hp := hp.1 hc
      refine x_ldc C tw_893 (dX8_acceptBest_p0 12 rfl) ?_
      exact hret _ _ _ _ (dX8_acceptBest_p0 13 rfl) (nar_i _) hp
  · have hp := hp.1 hc
    refine x_ldc C tw_910 (dX8_acceptBest_p0 4 rfl) ?_
    exact hret _ _ _ _ (dX8_acceptBest_p0 5 rfl) (nar_i _) hp)
def P_X8_isWord (p1 : Int32) (p2 : Int32) (σ : St) (K : Int32 → St → Prop) : Prop := P_X8_isSentence p1 σ (fun r2 s1 => (r2 = 0 → (K 0 s1)) ∧ (¬ (r2 = 0) → vp_in p1 4 ∧ (P_X8_in p2 1 (s1.1 206 (ix p1)) s1 (fun r5 s4 => (r5 = 0 → (K 0 s4)) ∧ (¬ (r5 = 0) → (K 1 s4))))))
set_option maxHeartbeats 4000000 in
set_option maxRecDepth 100000 in
theorem m_X8_isWord (l : Launch) (ad : Nat → Nat) (D : va_G) (ca : Nat → ClassId) (had : adOk ad) (p1 : Int32) (p2 : Int32)  (σ : St) (K : Int32 → St → Prop) (hp : P_X8_isWord p1 p2 σ K) : CtI l ad D ca yX8_isWord cX8_isWord 3 .boolean 2 [.ref (ad 204), .int p1, .int p2] σ K := CtI_of (av := fun ad => [.ref (ad 204), .int p1, .int p2]) (plainFor_of_name (by decide)) had (Nat.le_of_ble_eq_true rfl) (fun κ C hret => by
  have C : Ok κ RX8 cX8_isWord 3 2 := C
  show GG κ 0 [(0, .ref (kad κ 204)), (1, .int p1), (2, .int p2)] [] σ
  unfold P_X8_isWord at hp
  refine x_aload_n 0 C rfl (dX8_isWord_p0 0 rfl) ?_
  refine x_iload_n 1 C rfl (dX8_isWord_p0 1 rfl) ?_
  refine x_cvI (As := [.int p1]) (st := []) C LRX8_98 (ci := 8) rfl rfl (by decide) (by decide) (m_X8_isSentence (kL κ) (kad κ) (kD κ) (kca κ) C.ado p1  σ _ hp) rfl (by decide) rfl (Nat.le_of_ble_eq_true rfl) (dX8_isWord_p0 2 rfl) (fun r2 s1 hp => ?_)
  refine x_if_eq (tgt := 26) C (dX8_isWord_p0 3 rfl) (by decide) (fun hc => ?_) (fun hc => ?_)
  · have hp := hp.1 hc
    refine x_iconst (v := 0) C (by decide) (dX8_isWord_p0 14 rfl) ?_
    exact hret _ _ _ _ (dX8_isWord_p0 15 rfl) (nar_z isB0) hp
  · have hp := hp.2 hc
    refine x_iload_n 2 C rfl (dX8_isWord_p0 4 rfl) ?_
    refine x_iconst (v := 1) C (by decide) (dX8_isWord_p0 5 rfl) ?_
    refine x_aload_n 0 C rfl (dX8_isWord_p0 6 rfl) ?_
    refine gX8_3 (b := 206) C rfl (by decide) rfl tw_751 (dX8_isWord_p0 7 rfl) ?_
    refine x_iload_n 1 C rfl (dX8_isWord_p0 8 rfl) ?_
    obtain ⟨h3, hp⟩ := hp
    refine x_iald C rfl (by decide) h3 (dX8_isWord_p0 9 rfl) ?_
    refine x_csI (As := [.int p2, .int 1, .int (s1.1 206 (ix p1))]) (st := []) C LRX8_94 (m_X8_in (kL κ) (kad κ) (kD κ) (kca κ) C.ado p2 1 (s1.1 206 (ix p1))  s1 _ hp) rfl (by decide) rfl (Nat.le_of_ble_eq_true rfl) (dX8_isWord_p0 10 rfl) (fun r5 s4 hp => ?_)
    refine x_if_eq (tgt := 26) C (dX8_isWord_p0 11 rfl) (by decide) (fun hc => ?_) (fun hc => ?_)
    · have hp := hp.1 hc
      refine x_iconst (v := 0) C (by decide) (dX8_isWord_p0 14 rfl) ?_
      exact hret _ _ _ _ (dX8_isWord_p0 15 rfl) (nar_z isB0) hp
    · have hp := hp.2 hc
      refine x_iconst (v := 1) C (by decide) (dX8_isWord_p0 12 rfl) ?_
      refine x_goto (tgt := 27) C (dX8_isWord_p0 13 rfl) (by decide) ?_
      exact hret _ _ _ _ (dX8_isWord_p0 15 rfl) (nar_z isB1) hp)
def P_X8_isArc (p1 : Int32) (p2 : Int32) (p3 : Int32) (σ : St) (K : Int32 → St → Prop) : Prop := P_X8_isWord p1 p3 σ (fun r2 s1 => (r2 = 0 → (K 0 s1)) ∧ (¬ (r2 = 0) → vp_in p1 4 ∧ (P_X8_in p2 0 (s1.1 206 (ix p1)) s1 (fun r5 s4 => (r5 = 0 → (K 0 s4)) ∧ (¬ (r5 = 0) → ((p2 = p3 → (K 0 s4)) ∧ (¬ (p2 = p3) → (K 1 s4))))))))
set_option maxHeartbeats 4000000 in
set_option maxRecDepth 100000 in
theorem m_X8_isArc (l : Launch) (ad : Nat → Nat) (D : va_G) (ca : Nat → ClassId) (had : adOk ad) (p1 : Int32) (p2 : Int32) (p3 : Int32)  (σ : St) (K : Int32 → St → Prop) (hp : P_X8_isArc p1 p2 p3 σ K) : CtI l ad D ca yX8_isArc cX8_isArc 4 .boolean 3 [.ref (ad 204), .int p1, .int p2, .int p3] σ K := CtI_of (av := fun ad => [.ref (ad 204), .int p1, .int p2, .int p3]) (plainFor_of_name (by decide)) had (Nat.le_of_ble_eq_true rfl) (fun κ C hret => by
  have C : Ok κ RX8 cX8_isArc 4 3 := C
  show GG κ 0 [(0, .ref (kad κ 204)), (1, .int p1), (2, .int p2), (3, .int p3)] [] σ
  unfold P_X8_isArc at hp
  refine x_aload_n 0 C rfl (dX8_isArc_p0 0 rfl) ?_
  refine x_iload_n 1 C rfl (dX8_isArc_p0 1 rfl) ?_
  refine x_iload_n 3 C rfl (dX8_isArc_p0 2 rfl) ?_
  refine x_cvI (As := [.int p1, .int p3]) (st := []) C LRX8_102 (ci := 8) rfl rfl (by decide) (by decide) (m_X8_isWord (kL κ) (kad κ) (kD κ) (kca κ) C.ado p1 p3  σ _ hp) rfl (by decide) rfl (Nat.le_of_ble_eq_true rfl) (dX8_isArc_p0 3 rfl) (fun r2 s1 hp => ?_)
  refine x_if_eq (tgt := 32) C (dX8_isArc_p0 4 rfl) (by decide) (fun hc => ?_) (fun hc => ?_)
  · have hp := hp.1 hc
    refine x_iconst (v := 0) C (by decide) (dX8_isArc_p0 18 rfl) ?_
    exact hret _ _ _ _ (dX8_isArc_p0 19 rfl) (nar_z isB0) hp
  · have hp := hp.2 hc
    refine x_iload_n 2 C rfl (dX8_isArc_p0 5 rfl) ?_
    refine x_iconst (v := 0) C (by decide) (dX8_isArc_p0 6 rfl) ?_
    refine x_aload_n 0 C rfl (dX8_isArc_p0 7 rfl) ?_
    refine gX8_3 (b := 206) C rfl (by decide) rfl tw_751 (dX8_isArc_p0 8 rfl) ?_
    refine x_iload_n 1 C rfl (dX8_isArc_p0 9 rfl) ?_
    obtain ⟨h3, hp⟩ := hp
    refine x_iald C rfl (by decide) h3 (dX8_isArc_p0 10 rfl) ?_
    refine x_csI (As := [.int p2, .int 0, .int (s1.1 206 (ix p1))]) (st := []) C LRX8_94 (m_X8_in (kL κ) (kad κ) (kD κ) (kca κ) C.ado p2 0 (s1.1 206 (ix p1))  s1 _ hp) rfl (by decide) rfl (Nat.le_of_ble_eq_true rfl) (dX8_isArc_p0 11 rfl) (fun r5 s4 hp => ?_)
    refine x_if_eq (tgt := 32) C (dX8_isArc_p0 12 rfl) (by decide) (fun hc => ?_) (fun hc => ?_)
    · have hp := hp.1 hc
      refine x_iconst (v := 0) C (by decide) (dX8_isArc_p0 18 rfl) ?_
      exact hret _ _ _ _ (dX8_isArc_p0 19 rfl) (nar_z isB0) hp
    · have hp := hp.2 hc
      refine x_iload_n 2 C rfl (dX8_isArc_p0 13 rfl) ?_
      refine x_iload_n 3 C rfl (dX8_isArc_p0 14 rfl) ?_
      refine x_icmp_eq (tgt := 32) C (dX8_isArc_p0 15 rfl) (by decide) (fun hc => ?_) (fun hc => ?_)
      · have hp := hp.1 hc
        refine x_iconst (v := 0) C (by decide) (dX8_isArc_p0 18 rfl) ?_
        exact hret _ _ _ _ (dX8_isArc_p0 19 rfl) (nar_z isB0) hp
      · have hp := hp.2 hc
        refine x_iconst (v := 1) C (by decide) (dX8_isArc_p0 16 rfl) ?_
        refine x_goto (tgt := 33) C (dX8_isArc_p0 17 rfl) (by decide) ?_
        exact hret _ _ _ _ (dX8_isArc_p0 19 rfl) (nar_z isB1) hp)
def P_X8_annotate (p1 : Int32) (p2 : Int32) (p3 : Int32) (σ : St) (K : Int32 → St → Prop) : Prop := P_X8_isArc p1 p3 p2 σ (fun r2 s1 => (r2 = 0 → (K (-1000001) s1)) ∧ (¬ (r2 = 0) → P_X8_word p1 p2 s1 (fun r4 s3 => vp_in r4 28 ∧ (∀ v6 : Int32, v6 = (s3.1 208 (ix r4)) → (vp_in r4 28 ∧ ∀ s8 : St, s8 = wI s3 208 (ix r4) p3 → vp_in p1 4 ∧ (P_X8_isTree 208 (7 * p1) (s8.1 206 (ix p1)) s8 (fun r11 s10 => (r11 = 0 → (vp_in r4 28 ∧ ∀ s13 : St, s13 = wI s10 208 (ix r4) v6 → (K (-1000002) s13))) ∧ (¬ (r11 = 0) → (K v6 s10)))))))))
set_option maxHeartbeats 4000000 in
set_option maxRecDepth 100000 in
theorem m_X8_annotate (l : Launch) (ad : Nat → Nat) (D : va_G) (ca : Nat → ClassId) (had : adOk ad) (p1 : Int32) (p2 : Int32) (p3 : Int32)  (σ : St) (K : Int32 → St → Prop) (hp : P_X8_annotate p1 p2 p3 σ K) : CtI l ad D ca yX8_annotate cX8_annotate 6 .int 4 [.ref (ad 204), .int p1, .int p2, .int p3] σ K := CtI_of (av := fun ad => [.ref (ad 204), .int p1, .int p2, .int p3]) (plainFor_of_name (by decide)) had (Nat.le_of_ble_eq_true rfl) (fun κ C hret => by
  have C : Ok κ RX8 cX8_annotate 6 4 := C
  show GG κ 0 [(0, .ref (kad κ 204)), (1, .int p1), (2, .int p2), (3, .int p3)] [] σ
  unfold P_X8_annotate at hp
  refine x_aload_n 0 C rfl (dX8_annotate_p0 0 rfl) ?_
  refine x_iload_n 1 C rfl (dX8_annotate_p0 1 rfl) ?_
  refine x_iload_n 3 C rfl (dX8_annotate_p0 2 rfl) ?_
  refine x_iload_n 2 C rfl (dX8_annotate_p0 3 rfl) ?_
  refine x_cvI (As := [.int p1, .int p3, .int p2]) (st := []) C LRX8_129 (ci := 8) rfl rfl (by decide) (by decide) (m_X8_isArc (kL κ) (kad κ) (kD κ) (kca κ) C.ado p1 p3 p2  σ _ hp) rfl (by decide) rfl (Nat.le_of_ble_eq_true rfl) (dX8_annotate_p0 4 rfl) (fun r2 s1 hp => ?_)
  refine x_if_ne (tgt := 13) C (dX8_annotate_p0 5 rfl) (by decide) (fun hc => ?_) (fun hc => ?_)
  · have hp := hp.2 hc
    refine x_iload_n 1 C rfl (dX8_annotate_p0 8 rfl) ?_
    refine x_iload_n 2 C rfl (dX8_annotate_p0 9 rfl) ?_
    refine x_csI (As := [.int p1, .int p2]) (st := []) C LRX8_124 (m_X8_word (kL κ) (kad κ) (kD κ) (kca κ) C.ado p1 p2  s1 _ hp) rfl (by decide) rfl (Nat.le_of_ble_eq_true rfl) (dX8_annotate_p0 10 rfl) (fun r4 s3 hp => ?_)
    refine x_istore (loc' := [(4, .int r4), (0, .ref (kad κ 204)), (1, .int p1), (2, .int p2), (3, .int p3)]) C (by decide) rfl (dX8_annotate_p0 11 rfl) ?_
    refine x_aload_n 1 C rfl (dX8_annotate_p0 12 rfl) ?_
    refine gX8_5 (b := 208) C rfl (by decide) rfl tw_753 (dX8_annotate_p0 13 rfl) ?_
    refine x_iload 0 C rfl (dX8_annotate_p0 14 rfl) ?_
    obtain ⟨h5, hp⟩ := hp
    refine x_iald C rfl (by decide) h5 (dX8_annotate_p0 15 rfl) ?_
    refine x_topI (fun v6 ev6 => ?_)
    have hp := hp v6 ev6
    refine x_istore (loc' := [(5, .int v6), (4, .int r4), (0, .ref (kad κ 204)), (1, .int p1), (2, .int p2), (3, .int p3)]) C (by decide) rfl (dX8_annotate_p0 16 rfl) ?_
    refine x_aload_n 2 C rfl (dX8_annotate_p0 17 rfl) ?_
    refine gX8_5 (b := 208) C rfl (by decide) rfl tw_753 (dX8_annotate_p0 18 rfl) ?_
    refine x_iload 1 C rfl (dX8_annotate_p0 19 rfl) ?_
    refine x_iload_n 5 C rfl (dX8_annotate_p0 20 rfl) ?_
    obtain ⟨h7, hp⟩ := hp
    refine x_iast C rfl (by decide) h7 (dX8_annotate_p0 21 rfl) ?_
    refine x_nmS (fun s8 es8 => ?_)
    have hp := hp s8 es8
    refine x_aload_n 2 C rfl (dX8_annotate_p0 22 rfl) ?_
    refine gX8_5 (b := 208) C rfl (by decide) rfl tw_753 (dX8_annotate_p0 23 rfl) ?_
    refine x_bipush (v := 7) C (by decide) (dX8_annotate_p0 24 rfl) ?_
    refine x_iload_n 3 C rfl (dX8_annotate_p0 25 rfl) ?_
    refine x_imul C (dX8_annotate_p0 26 rfl) ?_
    refine x_aload_n 2 C rfl (dX8_annotate_p0 27 rfl) ?_
    refine gX8_3 (b := 206) C rfl (by decide) rfl tw_751 (dX8_annotate_p0 28 rfl) ?_
    refine x_iload_n 3 C rfl (dX8_annotate_p0 29 rfl) ?_
    obtain ⟨h9, hp⟩ := hp
    refine x_iald C rfl (by decide) h9 (dX8_annotate_p0 30 rfl) ?_
    refine x_csI (As := [.ref (kad κ 208), .int (7 * p1), .int (s8.1 206 (ix p1))]) (st := []) C LRX8_114 (m_X8_isTree (kL κ) (kad κ) (kD κ) (kca κ) C.ado 208 (7 * p1) (s8.1 206 (ix p1)) rfl (by decide) s8 _ hp) rfl (by decide) rfl (Nat.le_of_ble_eq_true rfl) (dX8_annotate_p0 31 rfl) (fun r11 s10 hp => ?_)
    refine x_if_ne (tgt := 69) C (dX8_annotate_p0 32 rfl) (by decide) (fun hc => ?_) (fun hc => ?_)
    · have hp := hp.2 hc
      refine x_iload 0 C rfl (dX8_annotate_p0 40 rfl) ?_
      exact hret _ _ _ _ (dX8_annotate_p0 41 rfl) (nar_i _) hp
    · have hp := hp.1 hc
      refine x_aload_n 2 C rfl (dX8_annotate_p0 33 rfl) ?_
      refine gX8_5 (b := 208) C rfl (by decide) rfl tw_753 (dX8_annotate_p0 34 rfl) ?_
      refine x_iload 1 C rfl (dX8_annotate_p0 35 rfl) ?_
      refine x_iload 0 C rfl (dX8_annotate_p0 36 rfl) ?_
      obtain ⟨h12, hp⟩ := hp
      refine x_iast C rfl (by decide) h12 (dX8_annotate_p0 37 rfl) ?_
      refine x_nmS (fun s13 es13 => ?_)
      have hp := hp s13 es13
      refine x_ldc C tw_876 (dX8_annotate_p0 38 rfl) ?_
      exact hret _ _ _ _ (dX8_annotate_p0 39 rfl) (nar_i _) hp
  · have hp := hp.1 hc
    refine x_ldc C tw_910 (dX8_annotate_p0 6 rfl) ?_
    exact hret _ _ _ _ (dX8_annotate_p0 7 rfl) (nar_i _) hp)
def P_X8_annotatedHead (p1 : Int32) (p2 : Int32) (σ : St) (K : Int32 → St → Prop) : Prop := P_X8_isWord p1 p2 σ (fun r2 s1 => (r2 = 0 → (K (-1000001) s1)) ∧ (¬ (r2 = 0) → P_X8_word p1 p2 s1 (fun r4 s3 => vp_in r4 28 ∧ (K (s3.1 208 (ix r4)) s3))))
set_option maxHeartbeats 4000000 in
set_option maxRecDepth 100000 in
theorem m_X8_annotatedHead (l : Launch) (ad : Nat → Nat) (D : va_G) (ca : Nat → ClassId) (had : adOk ad) (p1 : Int32) (p2 : Int32)  (σ : St) (K : Int32 → St → Prop) (hp : P_X8_annotatedHead p1 p2 σ K) : CtI l ad D ca yX8_annotatedHead cX8_annotatedHead 3 .int 3 [.ref (ad 204), .int p1, .int p2] σ K := CtI_of (av := fun ad => [.ref (ad 204), .int p1, .int p2]) (plainFor_of_name (by decide)) had (Nat.le_of_ble_eq_true rfl) (fun κ C hret => by
  have C : Ok κ RX8 cX8_annotatedHead 3 3 := C
  show GG κ 0 [(0, .ref (kad κ 204)), (1, .int p1), (2, .int p2)] [] σ
  unfold P_X8_annotatedHead at hp
  refine x_aload_n 0 C rfl (dX8_annotatedHead_p0 0 rfl) ?_
  refine x_iload_n 1 C rfl (dX8_annotatedHead_p0 1 rfl) ?_
  refine x_iload_n 2 C rfl (dX8_annotatedHead_p0 2 rfl) ?_
  refine x_cvI (As := [.int p1, .int p2]) (st := []) C LRX8_102 (ci := 8) rfl rfl (by decide) (by decide) (m_X8_isWord (kL κ) (kad κ) (kD κ) (kca κ) C.ado p1 p2  σ _ hp) rfl (by decide) rfl (Nat.le_of_ble_eq_true rfl) (dX8_annotatedHead_p0 3 rfl) (fun r2 s1 hp => ?_)
  refine x_if_eq (tgt := 22) C (dX8_annotatedHead_p0 4 rfl) (by decide) (fun hc => ?_) (fun hc => ?_)
  · have hp := hp.1 hc
    refine x_ldc C tw_910 (dX8_annotatedHead_p0 12 rfl) ?_
    exact hret _ _ _ _ (dX8_annotatedHead_p0 13 rfl) (nar_i _) hp
  · have hp := hp.2 hc
    refine x_aload_n 0 C rfl (dX8_annotatedHead_p0 5 rfl) ?_
    refine gX8_5 (b := 208) C rfl (by decide) rfl tw_753 (dX8_annotatedHead_p0 6 rfl) ?_
    refine x_iload_n 1 C rfl (dX8_annotatedHead_p0 7 rfl) ?_
    refine x_iload_n 2 C rfl (dX8_annotatedHead_p0 8 rfl) ?_
    refine x_csI (As := [.int p1, .int p2]) (st := [.ref (kad κ 208)]) C LRX8_124 (m_X8_word (kL κ) (kad κ) (kD κ) (kca κ) C.ado p1 p2  s1 _ hp) rfl (by decide) rfl (Nat.le_of_ble_eq_true rfl) (dX8_annotatedHead_p0 9 rfl) (fun r4 s3 hp => ?_)
    obtain ⟨h5, hp⟩ := hp
    refine x_iald C rfl (by decide) h5 (dX8_annotatedHead_p0 10 rfl) ?_
    refine x_goto (tgt := 24) C (dX8_annotatedHead_p0 11 rfl) (by decide) ?_
    exact hret _ _ _ _ (dX8_annotatedHead_p0 13 rfl) (nar_i _) hp)
def P_X8_append (p1 : Int32) (σ : St) (K : Int32 → St → Prop) : Prop := P_X8_in p1 0 127 σ (fun r2 s1 => (r2 = 0 → (K (-1000002) s1)) ∧ (¬ (r2 = 0) → (((s1.1 204 1) = 100 → (K (-1000003) s1)) ∧ (¬ ((s1.1 204 1) = 100) → (vp_in (s1.1 204 1) 100 ∧ ∀ s4 : St, s4 = wI s1 205 (ix (s1.1 204 1)) p1 → (∀ s5 : St, s5 = wI s4 204 1 ((s4.1 204 1) + 1) → (K (s5.1 204 1) s5)))))))
set_option maxHeartbeats 4000000 in
set_option maxRecDepth 100000 in
theorem m_X8_append (l : Launch) (ad : Nat → Nat) (D : va_G) (ca : Nat → ClassId) (had : adOk ad) (p1 : Int32)  (σ : St) (K : Int32 → St → Prop) (hp : P_X8_append p1 σ K) : CtI l ad D ca yX8_append cX8_append 2 .int 1 [.ref (ad 204), .int p1] σ K := CtI_of (av := fun ad => [.ref (ad 204), .int p1]) (plainFor_of_name (by decide)) had (Nat.le_of_ble_eq_true rfl) (fun κ C hret => by
  have C : Ok κ RX8 cX8_append 2 1 := C
  show GG κ 0 [(0, .ref (kad κ 204)), (1, .int p1)] [] σ
  unfold P_X8_append at hp
  refine x_iload_n 1 C rfl (dX8_append_p0 0 rfl) ?_
  refine x_iconst (v := 0) C (by decide) (dX8_append_p0 1 rfl) ?_
  refine x_bipush (v := 127) C (by decide) (dX8_append_p0 2 rfl) ?_
  refine x_csI (As := [.int p1, .int 0, .int 127]) (st := []) C LRX8_94 (m_X8_in (kL κ) (kad κ) (kD κ) (kca κ) C.ado p1 0 127  σ _ hp) rfl (by decide) rfl (Nat.le_of_ble_eq_true rfl) (dX8_append_p0 3 rfl) (fun r2 s1 hp => ?_)
  refine x_if_ne (tgt := 13) C (dX8_append_p0 4 rfl) (by decide) (fun hc => ?_) (fun hc => ?_)
  · have hp := hp.2 hc
    refine x_aload_n 0 C rfl (dX8_append_p0 7 rfl) ?_
    refine gX8_1 C rfl (by decide) tw_749 (dX8_append_p0 8 rfl) ?_
    refine x_bipush (v := 100) C (by decide) (dX8_append_p0 9 rfl) ?_
    refine x_icmp_ne (tgt := 25) C (dX8_append_p0 10 rfl) (by decide) (fun hc => ?_) (fun hc => ?_)
    · have hp := hp.2 hc
      refine x_aload_n 0 C rfl (dX8_append_p0 13 rfl) ?_
      refine gX8_0 (b := 205) C rfl (by decide) rfl tw_748 (dX8_append_p0 14 rfl) ?_
      refine x_aload_n 0 C rfl (dX8_append_p0 15 rfl) ?_
      refine gX8_1 C rfl (by decide) tw_749 (dX8_append_p0 16 rfl) ?_
      refine x_iload_n 1 C rfl (dX8_append_p0 17 rfl) ?_
      obtain ⟨h3, hp⟩ := hp
      refine x_iast C rfl (by decide) h3 (dX8_append_p0 18 rfl) ?_
      refine x_nmS (fun s4 es4 => ?_)
      have hp := hp s4 es4
      refine x_aload_n 0 C rfl (dX8_append_p0 19 rfl) ?_
      refine x_dup C rfl (dX8_append_p0 20 rfl) ?_
      refine gX8_1 C rfl (by decide) tw_749 (dX8_append_p0 21 rfl) ?_
      refine x_iconst (v := 1) C (by decide) (dX8_append_p0 22 rfl) ?_
      refine x_iadd C (dX8_append_p0 23 rfl) ?_
      refine qX8_1 C rfl (by decide) tw_749 (dX8_append_p0 24 rfl) ?_
      refine x_nmS (fun s5 es5 => ?_)
      have hp := hp s5 es5
      refine x_aload_n 0 C rfl (dX8_append_p0 25 rfl) ?_
      refine gX8_1 C rfl (by decide) tw_749 (dX8_append_p0 26 rfl) ?_
      exact hret _ _ _ _ (dX8_append_p0 27 rfl) (nar_i _) hp
    · have hp := hp.1 hc
      refine x_ldc C tw_877 (dX8_append_p0 11 rfl) ?_
      exact hret _ _ _ _ (dX8_append_p0 12 rfl) (nar_i _) hp
  · have hp := hp.1 hc
    refine x_ldc C tw_876 (dX8_append_p0 5 rfl) ?_
    exact hret _ _ _ _ (dX8_append_p0 6 rfl) (nar_i _) hp)
def P_X8_areTags (p0 : Int32) (p1 : Int32) (σ : St) (K : Int32 → St → Prop) : Prop := P_X8_in p0 0 8 σ (fun r2 s1 => (r2 = 0 → (K 0 s1)) ∧ (¬ (r2 = 0) → P_X8_in p1 0 7 s1 (fun r4 s3 => (r4 = 0 → (K 0 s3)) ∧ (¬ (r4 = 0) → (K 1 s3)))))
set_option maxHeartbeats 4000000 in
set_option maxRecDepth 100000 in
theorem m_X8_areTags (l : Launch) (ad : Nat → Nat) (D : va_G) (ca : Nat → ClassId) (had : adOk ad) (p0 : Int32) (p1 : Int32)  (σ : St) (K : Int32 → St → Prop) (hp : P_X8_areTags p0 p1 σ K) : CtI l ad D ca yX8_areTags cX8_areTags 2 .boolean 1 [.int p0, .int p1] σ K := CtI_of (av := fun ad => [.int p0, .int p1]) (plainFor_of_name (by decide)) had (Nat.le_of_ble_eq_true rfl) (fun κ C hret => by
  have C : Ok κ RX8 cX8_areTags 2 1 := C
  show GG κ 0 [(0, .int p0), (1, .int p1)] [] σ
  unfold P_X8_areTags at hp
  refine x_iload_n 0 C rfl (dX8_areTags_p0 0 rfl) ?_
  refine x_iconst (v := 0) C (by decide) (dX8_areTags_p0 1 rfl) ?_
  refine x_bipush (v := 8) C (by decide) (dX8_areTags_p0 2 rfl) ?_
  refine x_csI (As := [.int p0, .int 0, .int 8]) (st := []) C LRX8_94 (m_X8_in (kL κ) (kad κ) (kD κ) (kca κ) C.ado p0 0 8  σ _ hp) rfl (by decide) rfl (Nat.le_of_ble_eq_true rfl) (dX8_areTags_p0 3 rfl) (fun r2 s1 hp => ?_)
  refine x_if_eq (tgt := 24) C (dX8_areTags_p0 4 rfl) (by decide) (fun hc => ?_) (fun hc => ?_)
  · have hp := hp.1 hc
    refine x_iconst (v := 0) C (by decide) (dX8_areTags_p0 12 rfl) ?_
    exact hret _ _ _ _ (dX8_areTags_p0 13 rfl) (nar_z isB0) hp
  · have hp := hp.2 hc
    refine x_iload_n 1 C rfl (dX8_areTags_p0 5 rfl) ?_
    refine x_iconst (v := 0) C (by decide) (dX8_areTags_p0 6 rfl) ?_
    refine x_bipush (v := 7) C (by decide) (dX8_areTags_p0 7 rfl) ?_
    refine x_csI (As := [.int p1, .int 0, .int 7]) (st := []) C LRX8_94 (m_X8_in (kL κ) (kad κ) (kD κ) (kca κ) C.ado p1 0 7  s1 _ hp) rfl (by decide) rfl (Nat.le_of_ble_eq_true rfl) (dX8_areTags_p0 8 rfl) (fun r4 s3 hp => ?_)
    refine x_if_eq (tgt := 24) C (dX8_areTags_p0 9 rfl) (by decide) (fun hc => ?_) (fun hc => ?_)
    · have hp := hp.1 hc
      refine x_iconst (v := 0) C (by decide) (dX8_areTags_p0 12 rfl) ?_
      exact hret _ _ _ _ (dX8_areTags_p0 13 rfl) (nar_z isB0) hp
    · have hp := hp.2 hc
      refine x_iconst (v := 1) C (by decide) (dX8_areTags_p0 10 rfl) ?_
      refine x_goto (tgt := 25) C (dX8_areTags_p0 11 rfl) (by decide) ?_
      exact hret _ _ _ _ (dX8_areTags_p0 13 rfl) (nar_z isB1) hp)
def P_X8_bestHead (p1 : Int32) (p2 : Int32) (σ : St) (K : Int32 → St → Prop) : Prop := P_X8_isWord p1 p2 σ (fun r2 s1 => (r2 = 0 → (K (-1000001) s1)) ∧ (¬ (r2 = 0) → P_X8_looks p1 s1 (fun s3 => ((s3.1 204 21) ≤ 0 → (K (-1000004) s3)) ∧ (¬ ((s3.1 204 21) ≤ 0) → vp_in p2 49 ∧ (K (s3.1 221 (ix p2)) s3)))))
set_option maxHeartbeats 4000000 in
set_option maxRecDepth 100000 in
theorem m_X8_bestHead (l : Launch) (ad : Nat → Nat) (D : va_G) (ca : Nat → ClassId) (had : adOk ad) (p1 : Int32) (p2 : Int32)  (σ : St) (K : Int32 → St → Prop) (hp : P_X8_bestHead p1 p2 σ K) : CtI l ad D ca yX8_bestHead cX8_bestHead 3 .int 6 [.ref (ad 204), .int p1, .int p2] σ K := CtI_of (av := fun ad => [.ref (ad 204), .int p1, .int p2]) (plainFor_of_name (by decide)) had (Nat.le_of_ble_eq_true rfl) (fun κ C hret => by
  have C : Ok κ RX8 cX8_bestHead 3 6 := C
  show GG κ 0 [(0, .ref (kad κ 204)), (1, .int p1), (2, .int p2)] [] σ
  unfold P_X8_bestHead at hp
  refine x_aload_n 0 C rfl (dX8_bestHead_p0 0 rfl) ?_
  refine x_iload_n 1 C rfl (dX8_bestHead_p0 1 rfl) ?_
  refine x_iload_n 2 C rfl (dX8_bestHead_p0 2 rfl) ?_
  refine x_cvI (As := [.int p1, .int p2]) (st := []) C LRX8_102 (ci := 8) rfl rfl (by decide) (by decide) (m_X8_isWord (kL κ) (kad κ) (kD κ) (kca κ) C.ado p1 p2  σ _ hp) rfl (by decide) rfl (Nat.le_of_ble_eq_true rfl) (dX8_bestHead_p0 3 rfl) (fun r2 s1 hp => ?_)
  refine x_if_ne (tgt := 12) C (dX8_bestHead_p0 4 rfl) (by decide) (fun hc => ?_) (fun hc => ?_)
  · have hp := hp.2 hc
    refine x_aload_n 0 C rfl (dX8_bestHead_p0 7 rfl) ?_
    refine x_iload_n 1 C rfl (dX8_bestHead_p0 8 rfl) ?_
    refine x_cvV (As := [.int p1]) (st := []) C LRX8_226 (ci := 8) rfl rfl (by decide) (by decide) (m_X8_looks (kL κ) (kad κ) (kD κ) (kca κ) C.ado p1  s1 _ hp) rfl (by decide) rfl (Nat.le_of_ble_eq_true rfl) (dX8_bestHead_p0 9 rfl) (fun s3 hp => ?_)
    refine x_aload_n 0 C rfl (dX8_bestHead_p0 10 rfl) ?_
    refine gX8_21 C rfl (by decide) tw_769 (dX8_bestHead_p0 11 rfl) ?_
    refine x_if_le (tgt := 33) C (dX8_bestHead_p0 12 rfl) (by decide) (fun hc => ?_) (fun hc => ?_)
    · have hp := hp.1 hc
      refine x_ldc C tw_893 (dX8_bestHead_p0 18 rfl) ?_
      exact hret _ _ _ _ (dX8_bestHead_p0 19 rfl) (nar_i _) hp
    · have hp := hp.2 hc
      refine x_aload_n 0 C rfl (dX8_bestHead_p0 13 rfl) ?_
      refine gX8_23 (b := 221) C rfl (by decide) rfl tw_771 (dX8_bestHead_p0 14 rfl) ?_
      refine x_iload_n 2 C rfl (dX8_bestHead_p0 15 rfl) ?_
      obtain ⟨h4, hp⟩ := hp
      refine x_iald C rfl (by decide) h4 (dX8_bestHead_p0 16 rfl) ?_
      refine x_goto (tgt := 35) C (dX8_bestHead_p0 17 rfl) (by decide) ?_
      exact hret _ _ _ _ (dX8_bestHead_p0 19 rfl) (nar_i _) hp
  · have hp := hp.1 hc
    refine x_ldc C tw_910 (dX8_bestHead_p0 5 rfl) ?_
    exact hret _ _ _ _ (dX8_bestHead_p0 6 rfl) (nar_i _) hp)
def P_X8_bestScore (p1 : Int32) (σ : St) (K : Int32 → St → Prop) : Prop := P_X8_isSentence p1 σ (fun r2 s1 => (r2 = 0 → (K (-1000001) s1)) ∧ (¬ (r2 = 0) → P_X8_looks p1 s1 (fun s3 => ((s3.1 204 21) ≤ 0 → (K (-1000004) s3)) ∧ (¬ ((s3.1 204 21) ≤ 0) → (K (s3.1 220 (ix 0)) s3)))))
set_option maxHeartbeats 4000000 in
set_option maxRecDepth 100000 in
theorem m_X8_bestScore (l : Launch) (ad : Nat → Nat) (D : va_G) (ca : Nat → ClassId) (had : adOk ad) (p1 : Int32)  (σ : St) (K : Int32 → St → Prop) (hp : P_X8_bestScore p1 σ K) : CtI l ad D ca yX8_bestScore cX8_bestScore 2 .int 6 [.ref (ad 204), .int p1] σ K := CtI_of (av := fun ad => [.ref (ad 204), .int p1]) (plainFor_of_name (by decide)) had (Nat.le_of_ble_eq_true rfl) (fun κ C hret => by
  have C : Ok κ RX8 cX8_bestScore 2 6 := C
  show GG κ 0 [(0, .ref (kad κ 204)), (1, .int p1)] [] σ
  unfold P_X8_bestScore at hp
  refine x_aload_n 0 C rfl (dX8_bestScore_p0 0 rfl) ?_
  refine x_iload_n 1 C rfl (dX8_bestScore_p0 1 rfl) ?_
  refine x_cvI (As := [.int p1]) (st := []) C LRX8_98 (ci := 8) rfl rfl (by decide) (by decide) (m_X8_isSentence (kL κ) (kad κ) (kD κ) (kca κ) C.ado p1  σ _ hp) rfl (by decide) rfl (Nat.le_of_ble_eq_true rfl) (dX8_bestScore_p0 2 rfl) (fun r2 s1 hp => ?_)
  refine x_if_ne (tgt := 11) C (dX8_bestScore_p0 3 rfl) (by decide) (fun hc => ?_) (fun hc => ?_)
  · have hp := hp.2 hc
    refine x_aload_n 0 C rfl (dX8_bestScore_p0 6 rfl) ?_
    refine x_iload_n 1 C rfl (dX8_bestScore_p0 7 rfl) ?_
    refine x_cvV (As := [.int p1]) (st := []) C LRX8_226 (ci := 8) rfl rfl (by decide) (by decide) (m_X8_looks (kL κ) (kad κ) (kD κ) (kca κ) C.ado p1  s1 _ hp) rfl (by decide) rfl (Nat.le_of_ble_eq_true rfl) (dX8_bestScore_p0 8 rfl) (fun s3 hp => ?_)
    refine x_aload_n 0 C rfl (dX8_bestScore_p0 9 rfl) ?_
    refine gX8_21 C rfl (by decide) tw_769 (dX8_bestScore_p0 10 rfl) ?_
    refine x_if_le (tgt := 32) C (dX8_bestScore_p0 11 rfl) (by decide) (fun hc => ?_) (fun hc => ?_)
    · have hp := hp.1 hc
      refine x_ldc C tw_893 (dX8_bestScore_p0 17 rfl) ?_
      exact hret _ _ _ _ (dX8_bestScore_p0 18 rfl) (nar_i _) hp
    · have hp := hp.2 hc
      refine x_aload_n 0 C rfl (dX8_bestScore_p0 12 rfl) ?_
      refine gX8_22 (b := 220) C rfl (by decide) rfl tw_770 (dX8_bestScore_p0 13 rfl) ?_
      refine x_iconst (v := 0) C (by decide) (dX8_bestScore_p0 14 rfl) ?_
      refine x_iald C rfl (by decide) (vp_lit (by decide) (by decide)) (dX8_bestScore_p0 15 rfl) ?_
      refine x_goto (tgt := 34) C (dX8_bestScore_p0 16 rfl) (by decide) ?_
      exact hret _ _ _ _ (dX8_bestScore_p0 18 rfl) (nar_i _) hp
  · have hp := hp.1 hc
    refine x_ldc C tw_910 (dX8_bestScore_p0 4 rfl) ?_
    exact hret _ _ _ _ (dX8_bestScore_p0 5 rfl) (nar_i _) hp)
def F_X8_chance_55 (K : Int64 → St → Prop) (c55 : (Int64 × Int64 × St) → Prop) (u4 : Int32) (u5 : Int64) (u7 : Int64) (u9 : Int64) (σ : St) : Prop := (u9 = 0 → ((u4 = 0 → ¬ u7 = 0 ∧ (K (u5 / u7) σ)) ∧ (¬ (u4 = 0) → ¬ u7 = 0 ∧ (K ((σ.2.1 204 25) / u7) σ)))) ∧ (¬ (u9 = 0) → ¬ u9 = 0 ∧ (∀ v10 : Int64, v10 = (u7 - u7 / u9 * u9) → c55 (u9, v10, σ)))
set_option maxHeartbeats 4000000 in
set_option maxRecDepth 100000 in
theorem F_X8_chance_55_w {κ : Kap} {K : Int64 → St → Prop} {c55 : (Int64 × Int64 × St) → Prop} (C : Ok κ RX8 cX8_chance 13 6) (hret : RetL κ cX8_chance K) (u4 : Int32) (u5 : Int64) (u7 : Int64) (u9 : Int64)      (σ : St) (hc55 : ∀ (u7 : Int64) (u9 : Int64) (σ : St), c55 (u7, u9, σ) → GG κ 55 [(0, .ref (kad κ 204)), (4, .int u4), (5, .long u5), (7, .long u7), (9, .long u9)] [] σ) (hp : F_X8_chance_55 K c55 u4 u5 u7 u9 σ) : GG κ 55 [(0, .ref (kad κ 204)), (4, .int u4), (5, .long u5), (7, .long u7), (9, .long u9)] [] σ := by
  unfold F_X8_chance_55 at hp
  refine x_lload 4 C rfl (dX8_chance_p0 32 rfl) ?_
  refine x_lconst (v := 0) C (by decide) (dX8_chance_p0 33 rfl) ?_
  refine x_lcmp C (dX8_chance_p0 34 rfl) ?_
  refine x_if_eq (tgt := 80) C (dX8_chance_p0 35 rfl) (by decide) (fun hc => ?_) (fun hc => ?_)
  · have hp := hp.1 (lgc_eq.mp hc)
    refine x_iload 1 C rfl (dX8_chance_p0 45 rfl) ?_
    refine x_if_eq (tgt := 95) C (dX8_chance_p0 46 rfl) (by decide) (fun hc => ?_) (fun hc => ?_)
    · have hp := hp.1 hc
      refine x_lload 2 C rfl (dX8_chance_p0 52 rfl) ?_
      refine x_lload 3 C rfl (dX8_chance_p0 53 rfl) ?_
      obtain ⟨h7, hp⟩ := hp
      refine x_ldiv C h7 (dX8_chance_p0 54 rfl) ?_
      exact hret _ _ _ _ (dX8_chance_p0 55 rfl) hp
    · have hp := hp.2 hc
      refine x_aload_n 0 C rfl (dX8_chance_p0 47 rfl) ?_
      refine gX8_25 C rfl (by decide) tw_773 (dX8_chance_p0 48 rfl) ?_
      refine x_lload 3 C rfl (dX8_chance_p0 49 rfl) ?_
      obtain ⟨h8, hp⟩ := hp
      refine x_ldiv C h8 (dX8_chance_p0 50 rfl) ?_
      refine x_goto (tgt := 100) C (dX8_chance_p0 51 rfl) (by decide) ?_
      exact hret _ _ _ _ (dX8_chance_p0 55 rfl) hp
  · have hp := hp.2 (fun q => hc (lgc_eq.mpr q))
    refine x_lload 3 C rfl (dX8_chance_p0 36 rfl) ?_
    refine x_lload 4 C rfl (dX8_chance_p0 37 rfl) ?_
    obtain ⟨h9, hp⟩ := hp
    refine x_lrem C h9 (dX8_chance_p0 38 rfl) ?_
    refine x_topL (fun v10 ev10 => ?_)
    have hp := hp v10 ev10
    refine x_lstore (loc' := [(11, .long v10), (0, .ref (kad κ 204)), (4, .int u4), (5, .long u5), (7, .long u7), (9, .long u9)]) C (by decide) rfl (dX8_chance_p0 39 rfl) ?_
    refine x_lload 5 C rfl (dX8_chance_p0 40 rfl) ?_
    refine x_lstore (loc' := [(7, .long u9), (11, .long v10), (0, .ref (kad κ 204)), (4, .int u4), (5, .long u5), (9, .long u9)]) C (by decide) rfl (dX8_chance_p0 41 rfl) ?_
    refine x_lload 1 C rfl (dX8_chance_p0 42 rfl) ?_
    refine x_lstore (loc' := [(9, .long v10), (7, .long u9), (11, .long v10), (0, .ref (kad κ 204)), (4, .int u4), (5, .long u5)]) C (by decide) rfl (dX8_chance_p0 43 rfl) ?_
    refine x_goto (tgt := 55) C (dX8_chance_p0 44 rfl) (by decide) ?_
    refine x_loc (loc' := [(0, .ref (kad κ 204)), (4, .int u4), (5, .long u5), (7, .long u9), (9, .long v10)]) [3, 4, 5, 1, 0] rfl ?_
    exact hc55 u9 v10 σ hp
def P_X8_chance (p1 : Int32) (p2 : Int32) (p3 : Int32) (p4 : Int32) (σ : St) (K : Int64 → St → Prop) : Prop := P_X8_isArc p1 p2 p3 σ (fun r2 s1 => (r2 = 0 → (K (-1000001) s1)) ∧ (¬ (r2 = 0) → P_X8_looks p1 s1 (fun s3 => ((s3.2.1 204 25) = 0 → (K (-1000004) s3)) ∧ (¬ ((s3.2.1 204 25) = 0) → (vp_in ((7 * p2) + p3) 49 ∧ (∀ v5 : Int64, v5 = (s3.2.1 223 (ix ((7 * p2) + p3))) → (∀ v6 : Int64, v6 = (s3.2.1 204 25) → (LpE (fun c s => F_X8_chance_55 K  c p4 v5 s.1 s.2.1 s.2.2) (v5, v6, s3)))))))))
set_option maxHeartbeats 4000000 in
set_option maxRecDepth 100000 in
theorem m_X8_chance (l : Launch) (ad : Nat → Nat) (D : va_G) (ca : Nat → ClassId) (had : adOk ad) (p1 : Int32) (p2 : Int32) (p3 : Int32) (p4 : Int32)  (σ : St) (K : Int64 → St → Prop) (hp : P_X8_chance p1 p2 p3 p4 σ K) : CtL l ad D ca yX8_chance cX8_chance 13 6 [.ref (ad 204), .int p1, .int p2, .int p3, .int p4] σ K := CtL_of (av := fun ad => [.ref (ad 204), .int p1, .int p2, .int p3, .int p4]) (plainFor_of_name (by decide)) had (Nat.le_of_ble_eq_true rfl) (fun κ C hret => by
  have C : Ok κ RX8 cX8_chance 13 6 := C
  show GG κ 0 [(0, .ref (kad κ 204)), (1, .int p1), (2, .int p2), (3, .int p3), (4, .int p4)] [] σ
  unfold P_X8_chance at hp
  refine x_aload_n 0 C rfl (dX8_chance_p0 0 rfl) ?_
  refine x_iload_n 1 C rfl (dX8_chance_p0 1 rfl) ?_
  refine x_iload_n 2 C rfl (dX8_chance_p0 2 rfl) ?_
  refine x_iload_n 3 C rfl (dX8_chance_p0 3 rfl) ?_
  refine x_cvI (As := [.int p1, .int p2, .int p3]) (st := []) C LRX8_129 (ci := 8) rfl rfl (by decide) (by decide) (m_X8_isArc (kL κ) (kad κ) (kD κ) (kca κ) C.ado p1 p2 p3  σ _ hp) rfl (by decide) rfl (Nat.le_of_ble_eq_true rfl) (dX8_chance_p0 4 rfl) (fun r2 s1 hp => ?_)
  refine x_if_ne (tgt := 14) C (dX8_chance_p0 5 rfl) (by decide) (fun hc => ?_) (fun hc => ?_)
  · have hp := hp.2 hc
    refine x_aload_n 0 C rfl (dX8_chance_p0 8 rfl) ?_
    refine x_iload_n 1 C rfl (dX8_chance_p0 9 rfl) ?_
    refine x_cvV (As := [.int p1]) (st := []) C LRX8_226 (ci := 8) rfl rfl (by decide) (by decide) (m_X8_looks (kL κ) (kad κ) (kD κ) (kca κ) C.ado p1  s1 _ hp) rfl (by decide) rfl (Nat.le_of_ble_eq_true rfl) (dX8_chance_p0 10 rfl) (fun s3 hp => ?_)
    refine x_aload_n 0 C rfl (dX8_chance_p0 11 rfl) ?_
    refine gX8_25 C rfl (by decide) tw_773 (dX8_chance_p0 12 rfl) ?_
    refine x_lconst (v := 0) C (by decide) (dX8_chance_p0 13 rfl) ?_
    refine x_lcmp C (dX8_chance_p0 14 rfl) ?_
    refine x_if_ne (tgt := 32) C (dX8_chance_p0 15 rfl) (by decide) (fun hc => ?_) (fun hc => ?_)
    · have hp := hp.2 (fun q => hc (lgc_eq.mpr q))
      refine x_aload_n 0 C rfl (dX8_chance_p0 18 rfl) ?_
      refine gX8_27 (b := 223) C rfl (by decide) rfl tw_775 (dX8_chance_p0 19 rfl) ?_
      refine x_bipush (v := 7) C (by decide) (dX8_chance_p0 20 rfl) ?_
      refine x_iload_n 2 C rfl (dX8_chance_p0 21 rfl) ?_
      refine x_imul C (dX8_chance_p0 22 rfl) ?_
      refine x_iload_n 3 C rfl (dX8_chance_p0 23 rfl) ?_
      refine x_iadd C (dX8_chance_p0 24 rfl) ?_
      obtain ⟨h4, hp⟩ := hp
      refine x_lald C rfl (by decide) h4 (dX8_chance_p0 25 rfl) ?_
      refine x_topL (fun v5 ev5 => ?_)
      have hp := hp v5 ev5
      refine x_lstore (loc' := [(5, .long v5), (0, .ref (kad κ 204)), (1, .int p1), (2, .int p2), (3, .int p3), (4, .int p4)]) C (by decide) rfl (dX8_chance_p0 26 rfl) ?_
      refine x_lload 0 C rfl (dX8_chance_p0 27 rfl) ?_
      refine x_lstore (loc' := [(7, .long v5), (5, .long v5), (0, .ref (kad κ 204)), (1, .int p1), (2, .int p2), (3, .int p3), (4, .int p4)]) C (by decide) rfl (dX8_chance_p0 28 rfl) ?_
      refine x_aload_n 2 C rfl (dX8_chance_p0 29 rfl) ?_
      refine gX8_25 C rfl (by decide) tw_773 (dX8_chance_p0 30 rfl) ?_
      refine x_topL (fun v6 ev6 => ?_)
      have hp := hp v6 ev6
      refine x_lstore (loc' := [(9, .long v6), (7, .long v5), (5, .long v5), (0, .ref (kad κ 204)), (1, .int p1), (2, .int p2), (3, .int p3), (4, .int p4)]) C (by decide) rfl (dX8_chance_p0 31 rfl) ?_
      refine x_loc (loc' := [(0, .ref (kad κ 204)), (4, .int p4), (5, .long v5), (7, .long v5), (9, .long v6)]) [3, 7, 2, 1, 0] rfl ?_
      exact LpE_GG (S := (Int64 × Int64 × St)) (F := fun c s => F_X8_chance_55 K  c p4 v5 s.1 s.2.1 s.2.2) (W := fun s => GG κ 55 [(0, .ref (kad κ 204)), (4, .int p4), (5, .long v5), (7, .long s.1), (9, .long s.2.1)] [] s.2.2) (fun c s hcc hp => F_X8_chance_55_w C hret p4 v5 s.1 s.2.1  s.2.2  (fun u7 u9 σ h => hcc (u7, u9, σ) h) hp) hp
    · have hp := hp.1 (lgc_eq.mp hc)
      refine x_ldc2 C tw_1106 (dX8_chance_p0 16 rfl) ?_
      exact hret _ _ _ _ (dX8_chance_p0 17 rfl) hp
  · have hp := hp.1 hc
    refine x_ldc2 C tw_1101 (dX8_chance_p0 6 rfl) ?_
    exact hret _ _ _ _ (dX8_chance_p0 7 rfl) hp)
def P_X8_changes (p1 : Int32) (p2 : Int32) (σ : St) (K : St → Prop) : Prop := vp_in p1 84 ∧ (∀ v2 : Int32, v2 = ((σ.1 211 (ix p1)) + p2) → ((v2 ≤ 999 → (((-999) ≤ v2 → (vp_in p1 84 ∧ ∀ s4 : St, s4 = wI σ 211 (ix p1) v2 → (K s4))) ∧ (¬ ((-999) ≤ v2) → (vp_in p1 84 ∧ ∀ s6 : St, s6 = wI σ 211 (ix p1) (-999) → (K s6))))) ∧ (¬ (v2 ≤ 999) → (vp_in p1 84 ∧ ∀ s8 : St, s8 = wI σ 211 (ix p1) 999 → (K s8)))))
set_option maxHeartbeats 4000000 in
set_option maxRecDepth 100000 in
theorem m_X8_changes (l : Launch) (ad : Nat → Nat) (D : va_G) (ca : Nat → ClassId) (had : adOk ad) (p1 : Int32) (p2 : Int32)  (σ : St) (K : St → Prop) (hp : P_X8_changes p1 p2 σ K) : CtV l ad D ca yX8_changes cX8_changes 4 0 [.ref (ad 204), .int p1, .int p2] σ K := CtV_of (av := fun ad => [.ref (ad 204), .int p1, .int p2]) (plainFor_of_name (by decide)) had (Nat.le_of_ble_eq_true rfl) (fun κ C hret => by
  have C : Ok κ RX8 cX8_changes 4 0 := C
  show GG κ 0 [(0, .ref (kad κ 204)), (1, .int p1), (2, .int p2)] [] σ
  unfold P_X8_changes at hp
  refine x_aload_n 0 C rfl (dX8_changes_p0 0 rfl) ?_
  refine gX8_8 (b := 211) C rfl (by decide) rfl tw_756 (dX8_changes_p0 1 rfl) ?_
  refine x_iload_n 1 C rfl (dX8_changes_p0 2 rfl) ?_
  obtain ⟨h1, hp⟩ := hp
  refine x_iald C rfl (by decide) h1 (dX8_changes_p0 3 rfl) ?_
  refine x_iload_n 2 C rfl (dX8_changes_p0 4 rfl) ?_
  refine x_iadd C (dX8_changes_p0 5 rfl) ?_
  refine x_topI (fun v2 ev2 => ?_)
  have hp := hp v2 ev2
  refine x_istore_n (loc' := [(3, .int v2), (0, .ref (kad κ 204)), (1, .int p1), (2, .int p2)]) C rfl (by decide) rfl (dX8_changes_p0 6 rfl) ?_
  refine x_aload_n 1 C rfl (dX8_changes_p0 7 rfl) ?_
  refine gX8_8 (b := 211) C rfl (by decide) rfl tw_756 (dX8_changes_p0 8 rfl) ?_
  refine x_iload_n 2 C rfl (dX8_changes_p0 9 rfl) ?_
  refine x_iload_n 0 C rfl (dX8_changes_p0 10 rfl) ?_
  refine x_sipush (v := 999) C (by decide) (dX8_changes_p0 11 rfl) ?_
  refine x_icmp_le (tgt := 27) C (dX8_changes_p0 12 rfl) (by decide) (fun hc => ?_) (fun hc => ?_)
  · have hp := hp.1 hc
    refine x_iload_n 0 C rfl (dX8_changes_p0 15 rfl) ?_
    refine x_sipush (v := -999) C (by decide) (dX8_changes_p0 16 rfl) ?_
    refine x_icmp_ge (tgt := 40) C (dX8_changes_p0 17 rfl) (by decide) (fun hc => ?_) (fun hc => ?_)
    · have hp := hp.1 hc
      refine x_iload_n 0 C rfl (dX8_changes_p0 20 rfl) ?_
      obtain ⟨h3, hp⟩ := hp
      refine x_iast C rfl (by decide) h3 (dX8_changes_p0 21 rfl) ?_
      refine x_nmS (fun s4 es4 => ?_)
      have hp := hp s4 es4
      exact hret _ _ _ (dX8_changes_p0 22 rfl) hp
    · have hp := hp.2 hc
      refine x_sipush (v := -999) C (by decide) (dX8_changes_p0 18 rfl) ?_
      refine x_goto (tgt := 41) C (dX8_changes_p0 19 rfl) (by decide) ?_
      obtain ⟨h5, hp⟩ := hp
      refine x_iast C rfl (by decide) h5 (dX8_changes_p0 21 rfl) ?_
      refine x_nmS (fun s6 es6 => ?_)
      have hp := hp s6 es6
      exact hret _ _ _ (dX8_changes_p0 22 rfl) hp
  · have hp := hp.2 hc
    refine x_sipush (v := 999) C (by decide) (dX8_changes_p0 13 rfl) ?_
    refine x_goto (tgt := 41) C (dX8_changes_p0 14 rfl) (by decide) ?_
    obtain ⟨h7, hp⟩ := hp
    refine x_iast C rfl (by decide) h7 (dX8_changes_p0 21 rfl) ?_
    refine x_nmS (fun s8 es8 => ?_)
    have hp := hp s8 es8
    exact hret _ _ _ (dX8_changes_p0 22 rfl) hp)
def F_X8_placeOf_2 (K : Int32 → St → Prop) (c2 : (Int32 × St) → Prop) (u1 : Int32) (u2 : Int32) (u3 : Int32) (σ : St) : Prop := (u2 ≤ u3 → (K (-1) σ)) ∧ (¬ (u2 ≤ u3) → vp_in u3 7 ∧ (((σ.1 225 (ix u3)) = u1 → (K u3 σ)) ∧ (¬ ((σ.1 225 (ix u3)) = u1) → ∀ v2 : Int32, v2 = u3 + 1 → c2 (v2, σ))))
set_option maxHeartbeats 4000000 in
set_option maxRecDepth 100000 in
theorem F_X8_placeOf_2_w {κ : Kap} {K : Int32 → St → Prop} {c2 : (Int32 × St) → Prop} (C : Ok κ RX8 cX8_placeOf 4 0) (hret : RetI κ cX8_placeOf .int K) (u1 : Int32) (u2 : Int32) (u3 : Int32)     (σ : St) (hc2 : ∀ (u3 : Int32) (σ : St), c2 (u3, σ) → GG κ 2 [(0, .ref (kad κ 204)), (1, .int u1), (2, .int u2), (3, .int u3)] [] σ) (hp : F_X8_placeOf_2 K c2 u1 u2 u3 σ) : GG κ 2 [(0, .ref (kad κ 204)), (1, .int u1), (2, .int u2), (3, .int u3)] [] σ := by
  unfold F_X8_placeOf_2 at hp
  refine x_iload_n 3 C rfl (dX8_placeOf_p0 2 rfl) ?_
  refine x_iload_n 2 C rfl (dX8_placeOf_p0 3 rfl) ?_
  refine x_icmp_ge (tgt := 25) C (dX8_placeOf_p0 4 rfl) (by decide) (fun hc => ?_) (fun hc => ?_)
  · have hp := hp.1 hc
    refine x_iconst (v := -1) C (by decide) (dX8_placeOf_p0 15 rfl) ?_
    exact hret _ _ _ _ (dX8_placeOf_p0 16 rfl) (nar_i _) hp
  · have hp := hp.2 hc
    refine x_aload_n 0 C rfl (dX8_placeOf_p0 5 rfl) ?_
    refine gX8_31 (b := 225) C rfl (by decide) rfl tw_779 (dX8_placeOf_p0 6 rfl) ?_
    refine x_iload_n 3 C rfl (dX8_placeOf_p0 7 rfl) ?_
    obtain ⟨h1, hp⟩ := hp
    refine x_iald C rfl (by decide) h1 (dX8_placeOf_p0 8 rfl) ?_
    refine x_iload_n 1 C rfl (dX8_placeOf_p0 9 rfl) ?_
    refine x_icmp_ne (tgt := 19) C (dX8_placeOf_p0 10 rfl) (by decide) (fun hc => ?_) (fun hc => ?_)
    · have hp := hp.2 hc
      obtain ⟨v2, ev2⟩ : ∃ z : Int32, z = u3 + 1 := ⟨_, rfl⟩
      have hp := hp v2 ev2
      refine x_iinc (v := v2) (loc' := [(3, .int v2), (0, .ref (kad κ 204)), (1, .int u1), (2, .int u2)]) 3 C rfl (by rw [ev2]; rfl) (by decide) rfl (dX8_placeOf_p0 13 rfl) ?_
      refine x_goto (tgt := 2) C (dX8_placeOf_p0 14 rfl) (by decide) ?_
      refine x_loc (loc' := [(0, .ref (kad κ 204)), (1, .int u1), (2, .int u2), (3, .int v2)]) [1, 2, 3, 0] rfl ?_
      exact hc2 v2 σ hp
    · have hp := hp.1 hc
      refine x_iload_n 3 C rfl (dX8_placeOf_p0 11 rfl) ?_
      exact hret _ _ _ _ (dX8_placeOf_p0 12 rfl) (nar_i _) hp
def P_X8_placeOf (p1 : Int32) (p2 : Int32) (σ : St) (K : Int32 → St → Prop) : Prop := LpE (fun c s => F_X8_placeOf_2 K  c p1 p2 s.1 s.2) (0, σ)
set_option maxHeartbeats 4000000 in
set_option maxRecDepth 100000 in
theorem m_X8_placeOf (l : Launch) (ad : Nat → Nat) (D : va_G) (ca : Nat → ClassId) (had : adOk ad) (p1 : Int32) (p2 : Int32)  (σ : St) (K : Int32 → St → Prop) (hp : P_X8_placeOf p1 p2 σ K) : CtI l ad D ca yX8_placeOf cX8_placeOf 4 .int 0 [.ref (ad 204), .int p1, .int p2] σ K := CtI_of (av := fun ad => [.ref (ad 204), .int p1, .int p2]) (plainFor_of_name (by decide)) had (Nat.le_of_ble_eq_true rfl) (fun κ C hret => by
  have C : Ok κ RX8 cX8_placeOf 4 0 := C
  show GG κ 0 [(0, .ref (kad κ 204)), (1, .int p1), (2, .int p2)] [] σ
  unfold P_X8_placeOf at hp
  refine x_iconst (v := 0) C (by decide) (dX8_placeOf_p0 0 rfl) ?_
  refine x_istore_n (loc' := [(3, .int 0), (0, .ref (kad κ 204)), (1, .int p1), (2, .int p2)]) C rfl (by decide) rfl (dX8_placeOf_p0 1 rfl) ?_
  refine x_loc (loc' := [(0, .ref (kad κ 204)), (1, .int p1), (2, .int p2), (3, .int 0)]) [1, 2, 3, 0] rfl ?_
  exact LpE_GG (S := (Int32 × St)) (F := fun c s => F_X8_placeOf_2 K  c p1 p2 s.1 s.2) (W := fun s => GG κ 2 [(0, .ref (kad κ 204)), (1, .int p1), (2, .int p2), (3, .int s.1)] [] s.2) (fun c s hcc hp => F_X8_placeOf_2_w C hret p1 p2 s.1  s.2  (fun u3 σ h => hcc (u3, σ) h) hp) hp)
def F_X8_inserts_3 (K : St → Prop) (c3 : (Int32 × St) → Prop) (u1 : Int32) (u3 : Int32) (u4 : Int32) (σ : St) : Prop := (u4 ≤ u1 → (vp_in u1 7 ∧ ∀ s2 : St, s2 = wI σ 225 (ix u1) u3 → (K s2))) ∧ (¬ (u4 ≤ u1) → (vp_in (u4 - 1) 7 ∧ (vp_in u4 7 ∧ ∀ s5 : St, s5 = wI σ 225 (ix u4) (σ.1 225 (ix (u4 - 1))) → (∀ v6 : Int32, v6 = u4 + (-1) → c3 (v6, s5)))))
set_option maxHeartbeats 4000000 in
set_option maxRecDepth 100000 in
theorem F_X8_inserts_3_w {κ : Kap} {K : St → Prop} {c3 : (Int32 × St) → Prop} (C : Ok κ RX8 cX8_inserts 5 0) (hret : RetV κ cX8_inserts K) (u1 : Int32) (u3 : Int32) (u4 : Int32)     (σ : St) (hc3 : ∀ (u4 : Int32) (σ : St), c3 (u4, σ) → GG κ 3 [(0, .ref (kad κ 204)), (1, .int u1), (3, .int u3), (4, .int u4)] [] σ) (hp : F_X8_inserts_3 K c3 u1 u3 u4 σ) : GG κ 3 [(0, .ref (kad κ 204)), (1, .int u1), (3, .int u3), (4, .int u4)] [] σ := by
  unfold F_X8_inserts_3 at hp
  refine x_iload 3 C rfl (dX8_inserts_p0 2 rfl) ?_
  refine x_iload_n 1 C rfl (dX8_inserts_p0 3 rfl) ?_
  refine x_icmp_le (tgt := 31) C (dX8_inserts_p0 4 rfl) (by decide) (fun hc => ?_) (fun hc => ?_)
  · have hp := hp.1 hc
    refine x_aload_n 0 C rfl (dX8_inserts_p0 17 rfl) ?_
    refine gX8_31 (b := 225) C rfl (by decide) rfl tw_779 (dX8_inserts_p0 18 rfl) ?_
    refine x_iload_n 1 C rfl (dX8_inserts_p0 19 rfl) ?_
    refine x_iload_n 2 C rfl (dX8_inserts_p0 20 rfl) ?_
    obtain ⟨h1, hp⟩ := hp
    refine x_iast C rfl (by decide) h1 (dX8_inserts_p0 21 rfl) ?_
    refine x_nmS (fun s2 es2 => ?_)
    have hp := hp s2 es2
    exact hret _ _ _ (dX8_inserts_p0 22 rfl) hp
  · have hp := hp.2 hc
    refine x_aload_n 0 C rfl (dX8_inserts_p0 5 rfl) ?_
    refine gX8_31 (b := 225) C rfl (by decide) rfl tw_779 (dX8_inserts_p0 6 rfl) ?_
    refine x_iload 3 C rfl (dX8_inserts_p0 7 rfl) ?_
    refine x_aload_n 0 C rfl (dX8_inserts_p0 8 rfl) ?_
    refine gX8_31 (b := 225) C rfl (by decide) rfl tw_779 (dX8_inserts_p0 9 rfl) ?_
    refine x_iload 3 C rfl (dX8_inserts_p0 10 rfl) ?_
    refine x_iconst (v := 1) C (by decide) (dX8_inserts_p0 11 rfl) ?_
    refine x_isub C (dX8_inserts_p0 12 rfl) ?_
    obtain ⟨h3, hp⟩ := hp
    refine x_iald C rfl (by decide) h3 (dX8_inserts_p0 13 rfl) ?_
    obtain ⟨h4, hp⟩ := hp
    refine x_iast C rfl (by decide) h4 (dX8_inserts_p0 14 rfl) ?_
    refine x_nmS (fun s5 es5 => ?_)
    have hp := hp s5 es5
    obtain ⟨v6, ev6⟩ : ∃ z : Int32, z = u4 + (-1) := ⟨_, rfl⟩
    have hp := hp v6 ev6
    refine x_iinc (v := v6) (loc' := [(4, .int v6), (0, .ref (kad κ 204)), (1, .int u1), (3, .int u3)]) 3 C rfl (by rw [ev6]; rfl) (by decide) rfl (dX8_inserts_p0 15 rfl) ?_
    refine x_goto (tgt := 3) C (dX8_inserts_p0 16 rfl) (by decide) ?_
    refine x_loc (loc' := [(0, .ref (kad κ 204)), (1, .int u1), (3, .int u3), (4, .int v6)]) [1, 2, 3, 0] rfl ?_
    exact hc3 v6 s5 hp
def P_X8_inserts (p1 : Int32) (p2 : Int32) (p3 : Int32) (σ : St) (K : St → Prop) : Prop := LpE (fun c s => F_X8_inserts_3 K  c p1 p3 s.1 s.2) (p2, σ)
set_option maxHeartbeats 4000000 in
set_option maxRecDepth 100000 in
theorem m_X8_inserts (l : Launch) (ad : Nat → Nat) (D : va_G) (ca : Nat → ClassId) (had : adOk ad) (p1 : Int32) (p2 : Int32) (p3 : Int32)  (σ : St) (K : St → Prop) (hp : P_X8_inserts p1 p2 p3 σ K) : CtV l ad D ca yX8_inserts cX8_inserts 5 0 [.ref (ad 204), .int p1, .int p2, .int p3] σ K := CtV_of (av := fun ad => [.ref (ad 204), .int p1, .int p2, .int p3]) (plainFor_of_name (by decide)) had (Nat.le_of_ble_eq_true rfl) (fun κ C hret => by
  have C : Ok κ RX8 cX8_inserts 5 0 := C
  show GG κ 0 [(0, .ref (kad κ 204)), (1, .int p1), (2, .int p2), (3, .int p3)] [] σ
  unfold P_X8_inserts at hp
  refine x_iload_n 2 C rfl (dX8_inserts_p0 0 rfl) ?_
  refine x_istore (loc' := [(4, .int p2), (0, .ref (kad κ 204)), (1, .int p1), (2, .int p2), (3, .int p3)]) C (by decide) rfl (dX8_inserts_p0 1 rfl) ?_
  refine x_loc (loc' := [(0, .ref (kad κ 204)), (1, .int p1), (3, .int p3), (4, .int p2)]) [1, 2, 4, 0] rfl ?_
  exact LpE_GG (S := (Int32 × St)) (F := fun c s => F_X8_inserts_3 K  c p1 p3 s.1 s.2) (W := fun s => GG κ 3 [(0, .ref (kad κ 204)), (1, .int p1), (3, .int p3), (4, .int s.1)] [] s.2) (fun c s hcc hp => F_X8_inserts_3_w C hret p1 p3 s.1  s.2  (fun u4 σ h => hcc (u4, σ) h) hp) hp)
def F_X8_orders_178 (K : St → Prop) (c178 : (Int32 × St) → Prop) (u2 : Int32) (u5 : Int32) (σ : St) : Prop := (u2 < u5 → (K σ)) ∧ (¬ (u2 < u5) → vp_in u5 7 ∧ (vp_in (σ.1 225 (ix u5)) 7 ∧ ∀ s6 : St, s6 = wI σ 226 (ix (σ.1 225 (ix u5))) u5 → ∀ v7 : Int32, v7 = u5 + 1 → c178 (v7, s6)))
set_option maxHeartbeats 4000000 in
set_option maxRecDepth 100000 in
theorem F_X8_orders_178_w {κ : Kap} {K : St → Prop} {c178 : (Int32 × St) → Prop} (C : Ok κ RX8 cX8_orders 8 1) (hret : RetV κ cX8_orders K) (u2 : Int32) (u5 : Int32)    (σ : St) (hc178 : ∀ (u5 : Int32) (σ : St), c178 (u5, σ) → GG κ 178 [(0, .ref (kad κ 204)), (2, .int u2), (5, .int u5)] [] σ) (hp : F_X8_orders_178 K c178 u2 u5 σ) : GG κ 178 [(0, .ref (kad κ 204)), (2, .int u2), (5, .int u5)] [] σ := by
  unfold F_X8_orders_178 at hp
  refine x_iload 2 C rfl (dX8_orders_p1 33 rfl) ?_
  refine x_iload_n 1 C rfl (dX8_orders_p1 34 rfl) ?_
  refine x_icmp_gt (tgt := 204) C (dX8_orders_p1 35 rfl) (by decide) (fun hc => ?_) (fun hc => ?_)
  · have hp := hp.1 hc
    exact hret _ _ _ (dX8_orders_p1 46 rfl) hp
  · have hp := hp.2 hc
    refine x_aload_n 0 C rfl (dX8_orders_p1 36 rfl) ?_
    refine gX8_32 (b := 226) C rfl (by decide) rfl tw_780 (dX8_orders_p1 37 rfl) ?_
    refine x_aload_n 0 C rfl (dX8_orders_p1 38 rfl) ?_
    refine gX8_31 (b := 225) C rfl (by decide) rfl tw_779 (dX8_orders_p1 39 rfl) ?_
    refine x_iload 2 C rfl (dX8_orders_p1 40 rfl) ?_
    obtain ⟨h4, hp⟩ := hp
    refine x_iald C rfl (by decide) h4 (dX8_orders_p1 41 rfl) ?_
    refine x_iload 2 C rfl (dX8_orders_p1 42 rfl) ?_
    obtain ⟨h5, hp⟩ := hp
    refine x_iast C rfl (by decide) h5 (dX8_orders_p1 43 rfl) ?_
    refine x_nmS (fun s6 es6 => ?_)
    have hp := hp s6 es6
    obtain ⟨v7, ev7⟩ : ∃ z : Int32, z = u5 + 1 := ⟨_, rfl⟩
    have hp := hp v7 ev7
    refine x_iinc (v := v7) (loc' := [(5, .int v7), (0, .ref (kad κ 204)), (2, .int u2)]) 2 C rfl (by rw [ev7]; rfl) (by decide) rfl (dX8_orders_p1 44 rfl) ?_
    refine x_goto (tgt := 178) C (dX8_orders_p1 45 rfl) (by decide) ?_
    refine x_loc (loc' := [(0, .ref (kad κ 204)), (2, .int u2), (5, .int v7)]) [1, 2, 0] rfl ?_
    exact hc178 v7 s6 hp
def F_X8_orders_129 (K : St → Prop) (c19 : (Int32 × Int32 × St) → Prop) (c129 : (Int32 × Int32 × Int32 × St) → Prop) (u1 : Int32) (u2 : Int32) (u3 : Int32) (u4 : Int32) (u5 : Int32) (u6 : Int32) (u7 : Int32) (σ : St) : Prop := (u2 < u7 → c19 (u3, u4, σ)) ∧ (¬ (u2 < u7) → P_X8_word u1 u7 σ (fun r17 s16 => vp_in r17 28 ∧ (((s16.1 208 (ix r17)) = u5 → P_X8_inserts u6 u3 u7 s16 (fun s20 => ∀ v21 : Int32, v21 = u6 + 1 → ∀ v22 : Int32, v22 = u3 + 1 → ∀ v23 : Int32, v23 = u7 + 1 → c129 (v22, v21, v23, s20))) ∧ (¬ ((s16.1 208 (ix r17)) = u5) → ∀ v19 : Int32, v19 = u7 + 1 → c129 (u3, u6, v19, s16)))))
set_option maxHeartbeats 4000000 in
set_option maxRecDepth 100000 in
theorem F_X8_orders_129_w {κ : Kap} {K : St → Prop} {c19 : (Int32 × Int32 × St) → Prop} {c129 : (Int32 × Int32 × Int32 × St) → Prop} (C : Ok κ RX8 cX8_orders 8 1) (hret : RetV κ cX8_orders K) (u1 : Int32) (u2 : Int32) (u3 : Int32) (u4 : Int32) (u5 : Int32) (u6 : Int32) (u7 : Int32)         (σ : St) (hc19 : ∀ (u3 : Int32) (u4 : Int32) (σ : St), c19 (u3, u4, σ) → GG κ 19 [(0, .ref (kad κ 204)), (1, .int u1), (2, .int u2), (3, .int u3), (4, .int u4)] [] σ) (hc129 : ∀ (u3 : Int32) (u6 : Int32) (u7 : Int32) (σ : St), c129 (u3, u6, u7, σ) → GG κ 129 [(0, .ref (kad κ 204)), (1, .int u1), (2, .int u2), (3, .int u3), (4, .int u4), (5, .int u5), (6, .int u6), (7, .int u7)] [] σ) (hp : F_X8_orders_129 K c19 c129 u1 u2 u3 u4 u5 u6 u7 σ) : GG κ 129 [(0, .ref (kad κ 204)), (1, .int u1), (2, .int u2), (3, .int u3), (4, .int u4), (5, .int u5), (6, .int u6), (7, .int u7)] [] σ := by
  unfold F_X8_orders_129 at hp
  refine x_iload 7 C rfl (dX8_orders_p1 10 rfl) ?_
  refine x_iload_n 2 C rfl (dX8_orders_p1 11 rfl) ?_
  refine x_icmp_gt (tgt := 172) C (dX8_orders_p1 12 rfl) (by decide) (fun hc => ?_) (fun hc => ?_)
  · have hp := hp.1 hc
    refine x_goto (tgt := 19) C (dX8_orders_p1 30 rfl) (by decide) ?_
    refine x_loc (loc' := [(0, .ref (kad κ 204)), (1, .int u1), (2, .int u2), (3, .int u3), (4, .int u4)]) [0, 1, 2, 3, 4] rfl ?_
    exact hc19 u3 u4 σ hp
  · have hp := hp.2 hc
    refine x_aload_n 0 C rfl (dX8_orders_p1 13 rfl) ?_
    refine gX8_5 (b := 208) C rfl (by decide) rfl tw_753 (dX8_orders_p1 14 rfl) ?_
    refine x_iload_n 1 C rfl (dX8_orders_p1 15 rfl) ?_
    refine x_iload 7 C rfl (dX8_orders_p1 16 rfl) ?_
    refine x_csI (As := [.int u1, .int u7]) (st := [.ref (kad κ 208)]) C LRX8_124 (m_X8_word (kL κ) (kad κ) (kD κ) (kca κ) C.ado u1 u7  σ _ hp) rfl (by decide) rfl (Nat.le_of_ble_eq_true rfl) (dX8_orders_p1 17 rfl) (fun r17 s16 hp => ?_)
    obtain ⟨h18, hp⟩ := hp
    refine x_iald C rfl (by decide) h18 (dX8_orders_p1 18 rfl) ?_
    refine x_iload 5 C rfl (dX8_orders_p1 19 rfl) ?_
    refine x_icmp_ne (tgt := 166) C (dX8_orders_p1 20 rfl) (by decide) (fun hc => ?_) (fun hc => ?_)
    · have hp := hp.2 hc
      obtain ⟨v19, ev19⟩ : ∃ z : Int32, z = u7 + 1 := ⟨_, rfl⟩
      have hp := hp v19 ev19
      refine x_iinc (v := v19) (loc' := [(7, .int v19), (0, .ref (kad κ 204)), (1, .int u1), (2, .int u2), (3, .int u3), (4, .int u4), (5, .int u5), (6, .int u6)]) 7 C rfl (by rw [ev19]; rfl) (by decide) rfl (dX8_orders_p1 28 rfl) ?_
      refine x_goto (tgt := 129) C (dX8_orders_p1 29 rfl) (by decide) ?_
      refine x_loc (loc' := [(0, .ref (kad κ 204)), (1, .int u1), (2, .int u2), (3, .int u3), (4, .int u4), (5, .int u5), (6, .int u6), (7, .int v19)]) [1, 2, 3, 4, 5, 6, 7, 0] rfl ?_
      exact hc129 u3 u6 v19 s16 hp
    · have hp := hp.1 hc
      refine x_aload_n 0 C rfl (dX8_orders_p1 21 rfl) ?_
      refine x_iload 6 C rfl (dX8_orders_p1 22 rfl) ?_
      refine x_iload_n 3 C rfl (dX8_orders_p1 23 rfl) ?_
      refine x_iload 7 C rfl (dX8_orders_p1 24 rfl) ?_
      refine x_cvV (As := [.int u6, .int u3, .int u7]) (st := []) C LRX8_242 (ci := 8) rfl rfl (by decide) (by decide) (m_X8_inserts (kL κ) (kad κ) (kD κ) (kca κ) C.ado u6 u3 u7  s16 _ hp) rfl (by decide) rfl (Nat.le_of_ble_eq_true rfl) (dX8_orders_p1 25 rfl) (fun s20 hp => ?_)
      obtain ⟨v21, ev21⟩ : ∃ z : Int32, z = u6 + 1 := ⟨_, rfl⟩
      have hp := hp v21 ev21
      refine x_iinc (v := v21) (loc' := [(6, .int v21), (0, .ref (kad κ 204)), (1, .int u1), (2, .int u2), (3, .int u3), (4, .int u4), (5, .int u5), (7, .int u7)]) 6 C rfl (by rw [ev21]; rfl) (by decide) rfl (dX8_orders_p1 26 rfl) ?_
      obtain ⟨v22, ev22⟩ : ∃ z : Int32, z = u3 + 1 := ⟨_, rfl⟩
      have hp := hp v22 ev22
      refine x_iinc (v := v22) (loc' := [(3, .int v22), (6, .int v21), (0, .ref (kad κ 204)), (1, .int u1), (2, .int u2), (4, .int u4), (5, .int u5), (7, .int u7)]) 4 C rfl (by rw [ev22]; rfl) (by decide) rfl (dX8_orders_p1 27 rfl) ?_
      obtain ⟨v23, ev23⟩ : ∃ z : Int32, z = u7 + 1 := ⟨_, rfl⟩
      have hp := hp v23 ev23
      refine x_iinc (v := v23) (loc' := [(7, .int v23), (3, .int v22), (6, .int v21), (0, .ref (kad κ 204)), (1, .int u1), (2, .int u2), (4, .int u4), (5, .int u5)]) 7 C rfl (by rw [ev23]; rfl) (by decide) rfl (dX8_orders_p1 28 rfl) ?_
      refine x_goto (tgt := 129) C (dX8_orders_p1 29 rfl) (by decide) ?_
      refine x_loc (loc' := [(0, .ref (kad κ 204)), (1, .int u1), (2, .int u2), (3, .int v22), (4, .int u4), (5, .int u5), (6, .int v21), (7, .int v23)]) [3, 4, 5, 1, 6, 7, 2, 0] rfl ?_
      exact hc129 v22 v21 v23 s20 hp
def F_X8_orders_66 (K : St → Prop) (c19 : (Int32 × Int32 × St) → Prop) (c66 : (Int32 × Int32 × St) → Prop) (u1 : Int32) (u2 : Int32) (u3 : Int32) (u4 : Int32) (u5 : Int32) (u6 : Int32) (σ : St) : Prop := (u5 ≤ u6 → P_X8_placeOf u5 u3 σ (fun r13 s12 => ∀ v14 : Int32, v14 = (r13 + 1) → (∀ v15 : Int32, v15 = (u5 + 1) → (LpE (fun c s => F_X8_orders_129 K c19 c u1 u2 s.1 u4 u5 s.2.1 s.2.2.1 s.2.2.2) (u3, v14, v15, s12))))) ∧ (¬ (u5 ≤ u6) → P_X8_word u1 u6 σ (fun r25 s24 => vp_in r25 28 ∧ (((s24.1 208 (ix r25)) = u5 → P_X8_placeOf u5 u3 s24 (fun r29 s28 => P_X8_inserts r29 u3 u6 s28 (fun s30 => ∀ v31 : Int32, v31 = u3 + 1 → ∀ v32 : Int32, v32 = u6 + 1 → c66 (v31, v32, s30)))) ∧ (¬ ((s24.1 208 (ix r25)) = u5) → ∀ v27 : Int32, v27 = u6 + 1 → c66 (u3, v27, s24)))))
set_option maxHeartbeats 4000000 in
set_option maxRecDepth 100000 in
theorem F_X8_orders_66_w {κ : Kap} {K : St → Prop} {c19 : (Int32 × Int32 × St) → Prop} {c66 : (Int32 × Int32 × St) → Prop} (C : Ok κ RX8 cX8_orders 8 1) (hret : RetV κ cX8_orders K) (u1 : Int32) (u2 : Int32) (u3 : Int32) (u4 : Int32) (u5 : Int32) (u6 : Int32)        (σ : St) (hc19 : ∀ (u3 : Int32) (u4 : Int32) (σ : St), c19 (u3, u4, σ) → GG κ 19 [(0, .ref (kad κ 204)), (1, .int u1), (2, .int u2), (3, .int u3), (4, .int u4)] [] σ) (hc66 : ∀ (u3 : Int32) (u6 : Int32) (σ : St), c66 (u3, u6, σ) → GG κ 66 [(0, .ref (kad κ 204)), (1, .int u1), (2, .int u2), (3, .int u3), (4, .int u4), (5, .int u5), (6, .int u6)] [] σ) (hp : F_X8_orders_66 K c19 c66 u1 u2 u3 u4 u5 u6 σ) : GG κ 66 [(0, .ref (kad κ 204)), (1, .int u1), (2, .int u2), (3, .int u3), (4, .int u4), (5, .int u5), (6, .int u6)] [] σ := by
  unfold F_X8_orders_66 at hp
  refine x_iload 6 C rfl (dX8_orders_p0 41 rfl) ?_
  refine x_iload 5 C rfl (dX8_orders_p0 42 rfl) ?_
  refine x_icmp_ge (tgt := 112) C (dX8_orders_p0 43 rfl) (by decide) (fun hc => ?_) (fun hc => ?_)
  · have hp := hp.1 hc
    refine x_aload_n 0 C rfl (dX8_orders_p0 63 rfl) ?_
    refine x_iload 5 C rfl (dX8_orders_p1 0 rfl) ?_
    refine x_iload_n 3 C rfl (dX8_orders_p1 1 rfl) ?_
    refine x_cvI (As := [.int u5, .int u3]) (st := []) C LRX8_239 (ci := 8) rfl rfl (by decide) (by decide) (m_X8_placeOf (kL κ) (kad κ) (kD κ) (kca κ) C.ado u5 u3  σ _ hp) rfl (by decide) rfl (Nat.le_of_ble_eq_true rfl) (dX8_orders_p1 2 rfl) (fun r13 s12 hp => ?_)
    refine x_iconst (v := 1) C (by decide) (dX8_orders_p1 3 rfl) ?_
    refine x_iadd C (dX8_orders_p1 4 rfl) ?_
    refine x_topI (fun v14 ev14 => ?_)
    have hp := hp v14 ev14
    refine x_istore (loc' := [(6, .int v14), (0, .ref (kad κ 204)), (1, .int u1), (2, .int u2), (3, .int u3), (4, .int u4), (5, .int u5)]) C (by decide) rfl (dX8_orders_p1 5 rfl) ?_
    refine x_iload 6 C rfl (dX8_orders_p1 6 rfl) ?_
    refine x_iconst (v := 1) C (by decide) (dX8_orders_p1 7 rfl) ?_
    refine x_iadd C (dX8_orders_p1 8 rfl) ?_
    refine x_topI (fun v15 ev15 => ?_)
    have hp := hp v15 ev15
    refine x_istore (loc' := [(7, .int v15), (6, .int v14), (0, .ref (kad κ 204)), (1, .int u1), (2, .int u2), (3, .int u3), (4, .int u4), (5, .int u5)]) C (by decide) rfl (dX8_orders_p1 9 rfl) ?_
    refine x_loc (loc' := [(0, .ref (kad κ 204)), (1, .int u1), (2, .int u2), (3, .int u3), (4, .int u4), (5, .int u5), (6, .int v14), (7, .int v15)]) [2, 3, 4, 5, 6, 7, 1, 0] rfl ?_
    exact LpE_GG (S := (Int32 × Int32 × Int32 × St)) (F := fun c s => F_X8_orders_129 K c19 c u1 u2 s.1 u4 u5 s.2.1 s.2.2.1 s.2.2.2) (W := fun s => GG κ 129 [(0, .ref (kad κ 204)), (1, .int u1), (2, .int u2), (3, .int s.1), (4, .int u4), (5, .int u5), (6, .int s.2.1), (7, .int s.2.2.1)] [] s.2.2.2) (fun c s hcc hp => F_X8_orders_129_w C hret u1 u2 s.1 u4 u5 s.2.1 s.2.2.1  s.2.2.2 hc19 (fun u3 u6 u7 σ h => hcc (u3, u6, u7, σ) h) hp) hp
  · have hp := hp.2 hc
    refine x_aload_n 0 C rfl (dX8_orders_p0 44 rfl) ?_
    refine gX8_5 (b := 208) C rfl (by decide) rfl tw_753 (dX8_orders_p0 45 rfl) ?_
    refine x_iload_n 1 C rfl (dX8_orders_p0 46 rfl) ?_
    refine x_iload 6 C rfl (dX8_orders_p0 47 rfl) ?_
    refine x_csI (As := [.int u1, .int u6]) (st := [.ref (kad κ 208)]) C LRX8_124 (m_X8_word (kL κ) (kad κ) (kD κ) (kca κ) C.ado u1 u6  σ _ hp) rfl (by decide) rfl (Nat.le_of_ble_eq_true rfl) (dX8_orders_p0 48 rfl) (fun r25 s24 hp => ?_)
    obtain ⟨h26, hp⟩ := hp
    refine x_iald C rfl (by decide) h26 (dX8_orders_p0 49 rfl) ?_
    refine x_iload 5 C rfl (dX8_orders_p0 50 rfl) ?_
    refine x_icmp_ne (tgt := 106) C (dX8_orders_p0 51 rfl) (by decide) (fun hc => ?_) (fun hc => ?_)
    · have hp := hp.2 hc
      obtain ⟨v27, ev27⟩ : ∃ z : Int32, z = u6 + 1 := ⟨_, rfl⟩
      have hp := hp v27 ev27
      refine x_iinc (v := v27) (loc' := [(6, .int v27), (0, .ref (kad κ 204)), (1, .int u1), (2, .int u2), (3, .int u3), (4, .int u4), (5, .int u5)]) 6 C rfl (by rw [ev27]; rfl) (by decide) rfl (dX8_orders_p0 61 rfl) ?_
      refine x_goto (tgt := 66) C (dX8_orders_p0 62 rfl) (by decide) ?_
      refine x_loc (loc' := [(0, .ref (kad κ 204)), (1, .int u1), (2, .int u2), (3, .int u3), (4, .int u4), (5, .int u5), (6, .int v27)]) [1, 2, 3, 4, 5, 6, 0] rfl ?_
      exact hc66 u3 v27 s24 hp
    · have hp := hp.1 hc
      refine x_aload_n 0 C rfl (dX8_orders_p0 52 rfl) ?_
      refine x_aload_n 0 C rfl (dX8_orders_p0 53 rfl) ?_
      refine x_iload 5 C rfl (dX8_orders_p0 54 rfl) ?_
      refine x_iload_n 3 C rfl (dX8_orders_p0 55 rfl) ?_
      refine x_cvI (As := [.int u5, .int u3]) (st := [.ref (kad κ 204)]) C LRX8_239 (ci := 8) rfl rfl (by decide) (by decide) (m_X8_placeOf (kL κ) (kad κ) (kD κ) (kca κ) C.ado u5 u3  s24 _ hp) rfl (by decide) rfl (Nat.le_of_ble_eq_true rfl) (dX8_orders_p0 56 rfl) (fun r29 s28 hp => ?_)
      refine x_iload_n 3 C rfl (dX8_orders_p0 57 rfl) ?_
      refine x_iload 6 C rfl (dX8_orders_p0 58 rfl) ?_
      refine x_cvV (As := [.int r29, .int u3, .int u6]) (st := []) C LRX8_242 (ci := 8) rfl rfl (by decide) (by decide) (m_X8_inserts (kL κ) (kad κ) (kD κ) (kca κ) C.ado r29 u3 u6  s28 _ hp) rfl (by decide) rfl (Nat.le_of_ble_eq_true rfl) (dX8_orders_p0 59 rfl) (fun s30 hp => ?_)
      obtain ⟨v31, ev31⟩ : ∃ z : Int32, z = u3 + 1 := ⟨_, rfl⟩
      have hp := hp v31 ev31
      refine x_iinc (v := v31) (loc' := [(3, .int v31), (0, .ref (kad κ 204)), (1, .int u1), (2, .int u2), (4, .int u4), (5, .int u5), (6, .int u6)]) 3 C rfl (by rw [ev31]; rfl) (by decide) rfl (dX8_orders_p0 60 rfl) ?_
      obtain ⟨v32, ev32⟩ : ∃ z : Int32, z = u6 + 1 := ⟨_, rfl⟩
      have hp := hp v32 ev32
      refine x_iinc (v := v32) (loc' := [(6, .int v32), (3, .int v31), (0, .ref (kad κ 204)), (1, .int u1), (2, .int u2), (4, .int u4), (5, .int u5)]) 6 C rfl (by rw [ev32]; rfl) (by decide) rfl (dX8_orders_p0 61 rfl) ?_
      refine x_goto (tgt := 66) C (dX8_orders_p0 62 rfl) (by decide) ?_
      refine x_loc (loc' := [(0, .ref (kad κ 204)), (1, .int u1), (2, .int u2), (3, .int v31), (4, .int u4), (5, .int u5), (6, .int v32)]) [2, 3, 4, 1, 5, 6, 0] rfl ?_
      exact hc66 v31 v32 s30 hp
def F_X8_orders_27 (K : St → Prop) (c19 : (Int32 × Int32 × St) → Prop) (c27 : (Int32 × St) → Prop) (u1 : Int32) (u2 : Int32) (u3 : Int32) (u4 : Int32) (u5 : Int32) (σ : St) : Prop := (((u4 >>> (u5 &&& 31)) &&& 1) = 1 → ∀ v8 : Int32, v8 = u5 + 1 → c27 (v8, σ)) ∧ (¬ (((u4 >>> (u5 &&& 31)) &&& 1) = 1) → P_X8_placeOf u5 u3 σ (fun r10 s9 => (0 ≤ r10 → (∀ v11 : Int32, v11 = (u4 ||| (1 <<< (u5 &&& 31))) → (LpE (fun c s => F_X8_orders_66 K c19 c u1 u2 s.1 v11 u5 s.2.1 s.2.2) (u3, 1, s9)))) ∧ (¬ (0 ≤ r10) → ∀ v33 : Int32, v33 = u5 + 1 → c27 (v33, s9))))
set_option maxHeartbeats 4000000 in
set_option maxRecDepth 100000 in
theorem F_X8_orders_27_w {κ : Kap} {K : St → Prop} {c19 : (Int32 × Int32 × St) → Prop} {c27 : (Int32 × St) → Prop} (C : Ok κ RX8 cX8_orders 8 1) (hret : RetV κ cX8_orders K) (u1 : Int32) (u2 : Int32) (u3 : Int32) (u4 : Int32) (u5 : Int32)       (σ : St) (hc19 : ∀ (u3 : Int32) (u4 : Int32) (σ : St), c19 (u3, u4, σ) → GG κ 19 [(0, .ref (kad κ 204)), (1, .int u1), (2, .int u2), (3, .int u3), (4, .int u4)] [] σ) (hc27 : ∀ (u5 : Int32) (σ : St), c27 (u5, σ) → GG κ 27 [(0, .ref (kad κ 204)), (1, .int u1), (2, .int u2), (3, .int u3), (4, .int u4), (5, .int u5)] [] σ) (hp : F_X8_orders_27 K c19 c27 u1 u2 u3 u4 u5 σ) : GG κ 27 [(0, .ref (kad κ 204)), (1, .int u1), (2, .int u2), (3, .int u3), (4, .int u4), (5, .int u5)] [] σ := by
  unfold F_X8_orders_27 at hp
  refine x_iload 4 C rfl (dX8_orders_p0 19 rfl) ?_
  refine x_iload 5 C rfl (dX8_orders_p0 20 rfl) ?_
  refine x_ishr C (dX8_orders_p0 21 rfl) ?_
  refine x_iconst (v := 1) C (by decide) (dX8_orders_p0 22 rfl) ?_
  refine x_iand C (dX8_orders_p0 23 rfl) ?_
  refine x_iconst (v := 1) C (by decide) (dX8_orders_p0 24 rfl) ?_
  refine x_icmp_eq (tgt := 48) C (dX8_orders_p0 25 rfl) (by decide) (fun hc => ?_) (fun hc => ?_)
  · have hp := hp.1 hc
    obtain ⟨v8, ev8⟩ : ∃ z : Int32, z = u5 + 1 := ⟨_, rfl⟩
    have hp := hp v8 ev8
    refine x_iinc (v := v8) (loc' := [(5, .int v8), (0, .ref (kad κ 204)), (1, .int u1), (2, .int u2), (3, .int u3), (4, .int u4)]) 5 C rfl (by rw [ev8]; rfl) (by decide) rfl (dX8_orders_p0 31 rfl) ?_
    refine x_goto (tgt := 27) C (dX8_orders_p0 32 rfl) (by decide) ?_
    refine x_loc (loc' := [(0, .ref (kad κ 204)), (1, .int u1), (2, .int u2), (3, .int u3), (4, .int u4), (5, .int v8)]) [1, 2, 3, 4, 5, 0] rfl ?_
    exact hc27 v8 σ hp
  · have hp := hp.2 hc
    refine x_aload_n 0 C rfl (dX8_orders_p0 26 rfl) ?_
    refine x_iload 5 C rfl (dX8_orders_p0 27 rfl) ?_
    refine x_iload_n 3 C rfl (dX8_orders_p0 28 rfl) ?_
    refine x_cvI (As := [.int u5, .int u3]) (st := []) C LRX8_239 (ci := 8) rfl rfl (by decide) (by decide) (m_X8_placeOf (kL κ) (kad κ) (kD κ) (kca κ) C.ado u5 u3  σ _ hp) rfl (by decide) rfl (Nat.le_of_ble_eq_true rfl) (dX8_orders_p0 29 rfl) (fun r10 s9 hp => ?_)
    refine x_if_ge (tgt := 54) C (dX8_orders_p0 30 rfl) (by decide) (fun hc => ?_) (fun hc => ?_)
    · have hp := hp.1 hc
      refine x_iload 4 C rfl (dX8_orders_p0 33 rfl) ?_
      refine x_iconst (v := 1) C (by decide) (dX8_orders_p0 34 rfl) ?_
      refine x_iload 5 C rfl (dX8_orders_p0 35 rfl) ?_
      refine x_ishl C (dX8_orders_p0 36 rfl) ?_
      refine x_ior C (dX8_orders_p0 37 rfl) ?_
      refine x_topI (fun v11 ev11 => ?_)
      have hp := hp v11 ev11
      refine x_istore (loc' := [(4, .int v11), (0, .ref (kad κ 204)), (1, .int u1), (2, .int u2), (3, .int u3), (5, .int u5)]) C (by decide) rfl (dX8_orders_p0 38 rfl) ?_
      refine x_iconst (v := 1) C (by decide) (dX8_orders_p0 39 rfl) ?_
      refine x_istore (loc' := [(6, .int 1), (4, .int v11), (0, .ref (kad κ 204)), (1, .int u1), (2, .int u2), (3, .int u3), (5, .int u5)]) C (by decide) rfl (dX8_orders_p0 40 rfl) ?_
      refine x_loc (loc' := [(0, .ref (kad κ 204)), (1, .int u1), (2, .int u2), (3, .int u3), (4, .int v11), (5, .int u5), (6, .int 1)]) [2, 3, 4, 5, 1, 6, 0] rfl ?_
      exact LpE_GG (S := (Int32 × Int32 × St)) (F := fun c s => F_X8_orders_66 K c19 c u1 u2 s.1 v11 u5 s.2.1 s.2.2) (W := fun s => GG κ 66 [(0, .ref (kad κ 204)), (1, .int u1), (2, .int u2), (3, .int s.1), (4, .int v11), (5, .int u5), (6, .int s.2.1)] [] s.2.2) (fun c s hcc hp => F_X8_orders_66_w C hret u1 u2 s.1 v11 u5 s.2.1  s.2.2 hc19 (fun u3 u6 σ h => hcc (u3, u6, σ) h) hp) hp
    · have hp := hp.2 hc
      obtain ⟨v33, ev33⟩ : ∃ z : Int32, z = u5 + 1 := ⟨_, rfl⟩
      have hp := hp v33 ev33
      refine x_iinc (v := v33) (loc' := [(5, .int v33), (0, .ref (kad κ 204)), (1, .int u1), (2, .int u2), (3, .int u3), (4, .int u4)]) 5 C rfl (by rw [ev33]; rfl) (by decide) rfl (dX8_orders_p0 31 rfl) ?_
      refine x_goto (tgt := 27) C (dX8_orders_p0 32 rfl) (by decide) ?_
      refine x_loc (loc' := [(0, .ref (kad κ 204)), (1, .int u1), (2, .int u2), (3, .int u3), (4, .int u4), (5, .int v33)]) [1, 2, 3, 4, 5, 0] rfl ?_
      exact hc27 v33 s9 hp
def F_X8_orders_19 (K : St → Prop) (c19 : (Int32 × Int32 × St) → Prop) (u1 : Int32) (u2 : Int32) (u3 : Int32) (u4 : Int32) (σ : St) : Prop := (u2 < u3 → (LpE (fun c s => F_X8_orders_178 K  c u2 s.1 s.2) (0, σ))) ∧ (¬ (u2 < u3) → (LpE (fun c s => F_X8_orders_27 K c19 c u1 u2 u3 u4 s.1 s.2) (0, σ)))
set_option maxHeartbeats 4000000 in
set_option maxRecDepth 100000 in
theorem F_X8_orders_19_w {κ : Kap} {K : St → Prop} {c19 : (Int32 × Int32 × St) → Prop} (C : Ok κ RX8 cX8_orders 8 1) (hret : RetV κ cX8_orders K) (u1 : Int32) (u2 : Int32) (u3 : Int32) (u4 : Int32)      (σ : St) (hc19 : ∀ (u3 : Int32) (u4 : Int32) (σ : St), c19 (u3, u4, σ) → GG κ 19 [(0, .ref (kad κ 204)), (1, .int u1), (2, .int u2), (3, .int u3), (4, .int u4)] [] σ) (hp : F_X8_orders_19 K c19 u1 u2 u3 u4 σ) : GG κ 19 [(0, .ref (kad κ 204)), (1, .int u1), (2, .int u2), (3, .int u3), (4, .int u4)] [] σ := by
  unfold F_X8_orders_19 at hp
  refine x_iload_n 3 C rfl (dX8_orders_p0 14 rfl) ?_
  refine x_iload_n 2 C rfl (dX8_orders_p0 15 rfl) ?_
  refine x_icmp_gt (tgt := 175) C (dX8_orders_p0 16 rfl) (by decide) (fun hc => ?_) (fun hc => ?_)
  · have hp := hp.1 hc
    refine x_iconst (v := 0) C (by decide) (dX8_orders_p1 31 rfl) ?_
    refine x_istore (loc' := [(5, .int 0), (0, .ref (kad κ 204)), (1, .int u1), (2, .int u2), (3, .int u3), (4, .int u4)]) C (by decide) rfl (dX8_orders_p1 32 rfl) ?_
    refine x_loc (loc' := [(0, .ref (kad κ 204)), (2, .int u2), (5, .int 0)]) [1, 3, 0] rfl ?_
    exact LpE_GG (S := (Int32 × St)) (F := fun c s => F_X8_orders_178 K  c u2 s.1 s.2) (W := fun s => GG κ 178 [(0, .ref (kad κ 204)), (2, .int u2), (5, .int s.1)] [] s.2) (fun c s hcc hp => F_X8_orders_178_w C hret u2 s.1  s.2  (fun u5 σ h => hcc (u5, σ) h) hp) hp
  · have hp := hp.2 hc
    refine x_iconst (v := 0) C (by decide) (dX8_orders_p0 17 rfl) ?_
    refine x_istore (loc' := [(5, .int 0), (0, .ref (kad κ 204)), (1, .int u1), (2, .int u2), (3, .int u3), (4, .int u4)]) C (by decide) rfl (dX8_orders_p0 18 rfl) ?_
    refine x_loc (loc' := [(0, .ref (kad κ 204)), (1, .int u1), (2, .int u2), (3, .int u3), (4, .int u4), (5, .int 0)]) [1, 2, 3, 4, 5, 0] rfl ?_
    exact LpE_GG (S := (Int32 × St)) (F := fun c s => F_X8_orders_27 K c19 c u1 u2 u3 u4 s.1 s.2) (W := fun s => GG κ 27 [(0, .ref (kad κ 204)), (1, .int u1), (2, .int u2), (3, .int u3), (4, .int u4), (5, .int s.1)] [] s.2) (fun c s hcc hp => F_X8_orders_27_w C hret u1 u2 u3 u4 s.1  s.2 hc19 (fun u5 σ h => hcc (u5, σ) h) hp) hp
def P_X8_orders (p1 : Int32) (σ : St) (K : St → Prop) : Prop := vp_in p1 4 ∧ (∀ v2 : Int32, v2 = (σ.1 206 (ix p1)) → (∀ s3 : St, s3 = wI σ 225 (ix 0) 0 → (LpE (fun c s => F_X8_orders_19 K  c p1 v2 s.1 s.2.1 s.2.2) (1, 0, s3))))
set_option maxHeartbeats 4000000 in
set_option maxRecDepth 100000 in
theorem m_X8_orders (l : Launch) (ad : Nat → Nat) (D : va_G) (ca : Nat → ClassId) (had : adOk ad) (p1 : Int32)  (σ : St) (K : St → Prop) (hp : P_X8_orders p1 σ K) : CtV l ad D ca yX8_orders cX8_orders 8 1 [.ref (ad 204), .int p1] σ K := CtV_of (av := fun ad => [.ref (ad 204), .int p1]) (plainFor_of_name (by decide)) had (Nat.le_of_ble_eq_true rfl) (fun κ C hret => by
  have C : Ok κ RX8 cX8_orders 8 1 := C
  show GG κ 0 [(0, .ref (kad κ 204)), (1, .int p1)] [] σ
  unfold P_X8_orders at hp
  refine x_aload_n 0 C rfl (dX8_orders_p0 0 rfl) ?_
  refine gX8_3 (b := 206) C rfl (by decide) rfl tw_751 (dX8_orders_p0 1 rfl) ?_
  refine x_iload_n 1 C rfl (dX8_orders_p0 2 rfl) ?_
  obtain ⟨h1, hp⟩ := hp
  refine x_iald C rfl (by decide) h1 (dX8_orders_p0 3 rfl) ?_
  refine x_topI (fun v2 ev2 => ?_)
  have hp := hp v2 ev2
  refine x_istore_n (loc' := [(2, .int v2), (0, .ref (kad κ 204)), (1, .int p1)]) C rfl (by decide) rfl (dX8_orders_p0 4 rfl) ?_
  refine x_aload_n 1 C rfl (dX8_orders_p0 5 rfl) ?_
  refine gX8_31 (b := 225) C rfl (by decide) rfl tw_779 (dX8_orders_p0 6 rfl) ?_
  refine x_iconst (v := 0) C (by decide) (dX8_orders_p0 7 rfl) ?_
  refine x_iconst (v := 0) C (by decide) (dX8_orders_p0 8 rfl) ?_
  refine x_iast C rfl (by decide) (vp_lit (by decide) (by decide)) (dX8_orders_p0 9 rfl) ?_
  refine x_nmS (fun s3 es3 => ?_)
  have hp := hp s3 es3
  refine x_iconst (v := 1) C (by decide) (dX8_orders_p0 10 rfl) ?_
  refine x_istore_n (loc' := [(3, .int 1), (2, .int v2), (0, .ref (kad κ 204)), (1, .int p1)]) C rfl (by decide) rfl (dX8_orders_p0 11 rfl) ?_
  refine x_iconst (v := 0) C (by decide) (dX8_orders_p0 12 rfl) ?_
  refine x_istore (loc' := [(4, .int 0), (3, .int 1), (2, .int v2), (0, .ref (kad κ 204)), (1, .int p1)]) C (by decide) rfl (dX8_orders_p0 13 rfl) ?_
  refine x_loc (loc' := [(0, .ref (kad κ 204)), (1, .int p1), (2, .int v2), (3, .int 1), (4, .int 0)]) [3, 4, 2, 1, 0] rfl ?_
  exact LpE_GG (S := (Int32 × Int32 × St)) (F := fun c s => F_X8_orders_19 K  c p1 v2 s.1 s.2.1 s.2.2) (W := fun s => GG κ 19 [(0, .ref (kad κ 204)), (1, .int p1), (2, .int v2), (3, .int s.1), (4, .int s.2.1)] [] s.2.2) (fun c s hcc hp => F_X8_orders_19_w C hret p1 v2 s.1 s.2.1  s.2.2  (fun u3 u4 σ h => hcc (u3, u4, σ) h) hp) hp)
def F_X8_isReady_5 (K : Int32 → St → Prop) (c5 : (Int32 × Int32 × St) → Prop) (u1 : Int32) (u2 : Int32) (u3 : Int32) (u4 : Int32) (σ : St) : Prop := vp_in u1 4 ∧ (((σ.1 206 (ix u1)) < u4 → (isB u3 ∧ K u3 σ)) ∧ (¬ ((σ.1 206 (ix u1)) < u4) → ((u3 = 0 → ∀ v2 : Int32, v2 = u4 + 1 → c5 (0, v2, σ)) ∧ (¬ (u3 = 0) → P_X8_word u1 u4 σ (fun r4 s3 => vp_in r4 28 ∧ (((s3.1 208 (ix r4)) = u2 → (((((s3.1 204 39) >>> (u4 &&& 31)) &&& 1) = 1 → ∀ v8 : Int32, v8 = u4 + 1 → c5 (1, v8, s3)) ∧ (¬ ((((s3.1 204 39) >>> (u4 &&& 31)) &&& 1) = 1) → ∀ v7 : Int32, v7 = u4 + 1 → c5 (0, v7, s3)))) ∧ (¬ ((s3.1 208 (ix r4)) = u2) → ∀ v6 : Int32, v6 = u4 + 1 → c5 (1, v6, s3))))))))
set_option maxHeartbeats 4000000 in
set_option maxRecDepth 100000 in
theorem F_X8_isReady_5_w {κ : Kap} {K : Int32 → St → Prop} {c5 : (Int32 × Int32 × St) → Prop} (C : Ok κ RX8 cX8_isReady 5 1) (hret : RetI κ cX8_isReady .boolean K) (u1 : Int32) (u2 : Int32) (u3 : Int32) (u4 : Int32)      (σ : St) (hc5 : ∀ (u3 : Int32) (u4 : Int32) (σ : St), c5 (u3, u4, σ) → GG κ 5 [(0, .ref (kad κ 204)), (1, .int u1), (2, .int u2), (3, .int u3), (4, .int u4)] [] σ) (hp : F_X8_isReady_5 K c5 u1 u2 u3 u4 σ) : GG κ 5 [(0, .ref (kad κ 204)), (1, .int u1), (2, .int u2), (3, .int u3), (4, .int u4)] [] σ := by
  unfold F_X8_isReady_5 at hp
  refine x_iload 4 C rfl (dX8_isReady_p0 4 rfl) ?_
  refine x_aload_n 0 C rfl (dX8_isReady_p0 5 rfl) ?_
  refine gX8_3 (b := 206) C rfl (by decide) rfl tw_751 (dX8_isReady_p0 6 rfl) ?_
  refine x_iload_n 1 C rfl (dX8_isReady_p0 7 rfl) ?_
  obtain ⟨h1, hp⟩ := hp
  refine x_iald C rfl (by decide) h1 (dX8_isReady_p0 8 rfl) ?_
  refine x_icmp_gt (tgt := 60) C (dX8_isReady_p0 9 rfl) (by decide) (fun hc => ?_) (fun hc => ?_)
  · have hp := hp.1 hc
    refine x_iload_n 3 C rfl (dX8_isReady_p0 34 rfl) ?_
    exact hret _ _ _ _ (dX8_isReady_p0 35 rfl) (nar_z hp.1) hp.2
  · have hp := hp.2 hc
    refine x_iload_n 3 C rfl (dX8_isReady_p0 10 rfl) ?_
    refine x_if_eq (tgt := 52) C (dX8_isReady_p0 11 rfl) (by decide) (fun hc => ?_) (fun hc => ?_)
    · have hp := hp.1 hc
      refine x_iconst (v := 0) C (by decide) (dX8_isReady_p0 30 rfl) ?_
      refine x_istore_n (loc' := [(3, .int 0), (0, .ref (kad κ 204)), (1, .int u1), (2, .int u2), (4, .int u4)]) C rfl (by decide) rfl (dX8_isReady_p0 31 rfl) ?_
      obtain ⟨v2, ev2⟩ : ∃ z : Int32, z = u4 + 1 := ⟨_, rfl⟩
      have hp := hp v2 ev2
      refine x_iinc (v := v2) (loc' := [(4, .int v2), (3, .int 0), (0, .ref (kad κ 204)), (1, .int u1), (2, .int u2)]) 4 C rfl (by rw [ev2]; rfl) (by decide) rfl (dX8_isReady_p0 32 rfl) ?_
      refine x_goto (tgt := 5) C (dX8_isReady_p0 33 rfl) (by decide) ?_
      refine x_loc (loc' := [(0, .ref (kad κ 204)), (1, .int u1), (2, .int u2), (3, .int 0), (4, .int v2)]) [2, 3, 4, 1, 0] rfl ?_
      exact hc5 0 v2 σ hp
    · have hp := hp.2 hc
      refine x_aload_n 0 C rfl (dX8_isReady_p0 12 rfl) ?_
      refine gX8_5 (b := 208) C rfl (by decide) rfl tw_753 (dX8_isReady_p0 13 rfl) ?_
      refine x_iload_n 1 C rfl (dX8_isReady_p0 14 rfl) ?_
      refine x_iload 4 C rfl (dX8_isReady_p0 15 rfl) ?_
      refine x_csI (As := [.int u1, .int u4]) (st := [.ref (kad κ 208)]) C LRX8_124 (m_X8_word (kL κ) (kad κ) (kD κ) (kca κ) C.ado u1 u4  σ _ hp) rfl (by decide) rfl (Nat.le_of_ble_eq_true rfl) (dX8_isReady_p0 16 rfl) (fun r4 s3 hp => ?_)
      obtain ⟨h5, hp⟩ := hp
      refine x_iald C rfl (by decide) h5 (dX8_isReady_p0 17 rfl) ?_
      refine x_iload_n 2 C rfl (dX8_isReady_p0 18 rfl) ?_
      refine x_icmp_ne (tgt := 48) C (dX8_isReady_p0 19 rfl) (by decide) (fun hc => ?_) (fun hc => ?_)
      · have hp := hp.2 hc
        refine x_iconst (v := 1) C (by decide) (dX8_isReady_p0 28 rfl) ?_
        refine x_goto (tgt := 53) C (dX8_isReady_p0 29 rfl) (by decide) ?_
        refine x_istore_n (loc' := [(3, .int 1), (0, .ref (kad κ 204)), (1, .int u1), (2, .int u2), (4, .int u4)]) C rfl (by decide) rfl (dX8_isReady_p0 31 rfl) ?_
        obtain ⟨v6, ev6⟩ : ∃ z : Int32, z = u4 + 1 := ⟨_, rfl⟩
        have hp := hp v6 ev6
        refine x_iinc (v := v6) (loc' := [(4, .int v6), (3, .int 1), (0, .ref (kad κ 204)), (1, .int u1), (2, .int u2)]) 4 C rfl (by rw [ev6]; rfl) (by decide) rfl (dX8_isReady_p0 32 rfl) ?_
        refine x_goto (tgt := 5) C (dX8_isReady_p0 33 rfl) (by decide) ?_
        refine x_loc (loc' := [(0, .ref (kad κ 204)), (1, .int u1), (2, .int u2), (3, .int 1), (4, .int v6)]) [2, 3, 4, 1, 0] rfl ?_
        exact hc5 1 v6 s3 hp
      · have hp := hp.1 hc
        refine x_aload_n 0 C rfl (dX8_isReady_p0 20 rfl) ?_
        refine gX8_39 C rfl (by decide) tw_787 (dX8_isReady_p0 21 rfl) ?_
        refine x_iload 4 C rfl (dX8_isReady_p0 22 rfl) ?_
        refine x_ishr C (dX8_isReady_p0 23 rfl) ?_
        refine x_iconst (v := 1) C (by decide) (dX8_isReady_p0 24 rfl) ?_
        refine x_iand C (dX8_isReady_p0 25 rfl) ?_
        refine x_iconst (v := 1) C (by decide) (dX8_isReady_p0 26 rfl) ?_
        refine x_icmp_ne (tgt := 52) C (dX8_isReady_p0 27 rfl) (by decide) (fun hc => ?_) (fun hc => ?_)
        · have hp := hp.2 hc
          refine x_iconst (v := 0) C (by decide) (dX8_isReady_p0 30 rfl) ?_
          refine x_istore_n (loc' := [(3, .int 0), (0, .ref (kad κ 204)), (1, .int u1), (2, .int u2), (4, .int u4)]) C rfl (by decide) rfl (dX8_isReady_p0 31 rfl) ?_
          obtain ⟨v7, ev7⟩ : ∃ z : Int32, z = u4 + 1 := ⟨_, rfl⟩
          have hp := hp v7 ev7
          refine x_iinc (v := v7) (loc' := [(4, .int v7), (3, .int 0), (0, .ref (kad κ 204)), (1, .int u1), (2, .int u2)]) 4 C rfl (by rw [ev7]; rfl) (by decide) rfl (dX8_isReady_p0 32 rfl) ?_
          refine x_goto (tgt := 5) C (dX8_isReady_p0 33 rfl) (by decide) ?_
          refine x_loc (loc' := [(0, .ref (kad κ 204)), (1, .int u1), (2, .int u2), (3, .int 0), (4, .int v7)]) [2, 3, 4, 1, 0] rfl ?_
          exact hc5 0 v7 s3 hp
        · have hp := hp.1 hc
          refine x_iconst (v := 1) C (by decide) (dX8_isReady_p0 28 rfl) ?_
          refine x_goto (tgt := 53) C (dX8_isReady_p0 29 rfl) (by decide) ?_
          refine x_istore_n (loc' := [(3, .int 1), (0, .ref (kad κ 204)), (1, .int u1), (2, .int u2), (4, .int u4)]) C rfl (by decide) rfl (dX8_isReady_p0 31 rfl) ?_
          obtain ⟨v8, ev8⟩ : ∃ z : Int32, z = u4 + 1 := ⟨_, rfl⟩
          have hp := hp v8 ev8
          refine x_iinc (v := v8) (loc' := [(4, .int v8), (3, .int 1), (0, .ref (kad κ 204)), (1, .int u1), (2, .int u2)]) 4 C rfl (by rw [ev8]; rfl) (by decide) rfl (dX8_isReady_p0 32 rfl) ?_
          refine x_goto (tgt := 5) C (dX8_isReady_p0 33 rfl) (by decide) ?_
          refine x_loc (loc' := [(0, .ref (kad κ 204)), (1, .int u1), (2, .int u2), (3, .int 1), (4, .int v8)]) [2, 3, 4, 1, 0] rfl ?_
          exact hc5 1 v8 s3 hp
def P_X8_isReady (p1 : Int32) (p2 : Int32) (σ : St) (K : Int32 → St → Prop) : Prop := LpE (fun c s => F_X8_isReady_5 K  c p1 p2 s.1 s.2.1 s.2.2) (1, 1, σ)
set_option maxHeartbeats 4000000 in
set_option maxRecDepth 100000 in
theorem m_X8_isReady (l : Launch) (ad : Nat → Nat) (D : va_G) (ca : Nat → ClassId) (had : adOk ad) (p1 : Int32) (p2 : Int32)  (σ : St) (K : Int32 → St → Prop) (hp : P_X8_isReady p1 p2 σ K) : CtI l ad D ca yX8_isReady cX8_isReady 5 .boolean 1 [.ref (ad 204), .int p1, .int p2] σ K := CtI_of (av := fun ad => [.ref (ad 204), .int p1, .int p2]) (plainFor_of_name (by decide)) had (Nat.le_of_ble_eq_true rfl) (fun κ C hret => by
  have C : Ok κ RX8 cX8_isReady 5 1 := C
  show GG κ 0 [(0, .ref (kad κ 204)), (1, .int p1), (2, .int p2)] [] σ
  unfold P_X8_isReady at hp
  refine x_iconst (v := 1) C (by decide) (dX8_isReady_p0 0 rfl) ?_
  refine x_istore_n (loc' := [(3, .int 1), (0, .ref (kad κ 204)), (1, .int p1), (2, .int p2)]) C rfl (by decide) rfl (dX8_isReady_p0 1 rfl) ?_
  refine x_iconst (v := 1) C (by decide) (dX8_isReady_p0 2 rfl) ?_
  refine x_istore (loc' := [(4, .int 1), (3, .int 1), (0, .ref (kad κ 204)), (1, .int p1), (2, .int p2)]) C (by decide) rfl (dX8_isReady_p0 3 rfl) ?_
  refine x_loc (loc' := [(0, .ref (kad κ 204)), (1, .int p1), (2, .int p2), (3, .int 1), (4, .int 1)]) [2, 3, 4, 1, 0] rfl ?_
  exact LpE_GG (S := (Int32 × Int32 × St)) (F := fun c s => F_X8_isReady_5 K  c p1 p2 s.1 s.2.1 s.2.2) (W := fun s => GG κ 5 [(0, .ref (kad κ 204)), (1, .int p1), (2, .int p2), (3, .int s.1), (4, .int s.2.1)] [] s.2.2) (fun c s hcc hp => F_X8_isReady_5_w C hret p1 p2 s.1 s.2.1  s.2.2  (fun u3 u4 σ h => hcc (u3, u4, σ) h) hp) hp)
def J_X8_next_112 (K : Int32 → St → Prop)   (σ : St) : Prop := ((σ.1 204 38) ≤ 0 → (K (-1) σ)) ∧ (¬ ((σ.1 204 38) ≤ 0) → (K 0 σ))
set_option maxHeartbeats 4000000 in
set_option maxRecDepth 100000 in
theorem J_X8_next_112_w {κ : Kap} {K : Int32 → St → Prop}  (C : Ok κ RX8 cX8_next 4 2) (hret : RetI κ cX8_next .int K)   (σ : St)  (hp : J_X8_next_112 K   σ) : GG κ 112 [(0, .ref (kad κ 204))] [] σ := by
  unfold J_X8_next_112 at hp
  refine x_aload_n 0 C rfl (dX8_next_p1 4 rfl) ?_
  refine gX8_38 C rfl (by decide) tw_786 (dX8_next_p1 5 rfl) ?_
  refine x_if_le (tgt := 123) C (dX8_next_p1 6 rfl) (by decide) (fun hc => ?_) (fun hc => ?_)
  · have hp := hp.1 hc
    refine x_iconst (v := -1) C (by decide) (dX8_next_p1 9 rfl) ?_
    exact hret _ _ _ _ (dX8_next_p1 10 rfl) (nar_i _) hp
  · have hp := hp.2 hc
    refine x_iconst (v := 0) C (by decide) (dX8_next_p1 7 rfl) ?_
    refine x_goto (tgt := 124) C (dX8_next_p1 8 rfl) (by decide) ?_
    exact hret _ _ _ _ (dX8_next_p1 10 rfl) (nar_i _) hp
def J_X8_next_86 (K : Int32 → St → Prop)  (u2 : Int32) (u3 : Int32) (σ : St) : Prop := (u3 = 0 → (J_X8_next_112 K   σ)) ∧ (¬ (u3 = 0) → ((u2 ≤ u3 → (J_X8_next_112 K   σ)) ∧ (¬ (u2 ≤ u3) → vp_in u3 7 ∧ vp_in u2 7 ∧ (((σ.1 226 (ix u3)) ≤ (σ.1 226 (ix u2)) → (J_X8_next_112 K   σ)) ∧ (¬ ((σ.1 226 (ix u3)) ≤ (σ.1 226 (ix u2))) → (K 3 σ))))))
set_option maxHeartbeats 4000000 in
set_option maxRecDepth 100000 in
theorem J_X8_next_86_w {κ : Kap} {K : Int32 → St → Prop}  (C : Ok κ RX8 cX8_next 4 2) (hret : RetI κ cX8_next .int K) (u2 : Int32) (u3 : Int32)    (σ : St)  (hp : J_X8_next_86 K  u2 u3 σ) : GG κ 86 [(0, .ref (kad κ 204)), (2, .int u2), (3, .int u3)] [] σ := by
  unfold J_X8_next_86 at hp
  refine x_iload_n 2 C rfl (dX8_next_p0 52 rfl) ?_
  refine x_if_eq (tgt := 112) C (dX8_next_p0 53 rfl) (by decide) (fun hc => ?_) (fun hc => ?_)
  · have hp := hp.1 hc
    refine x_loc (loc' := [(0, .ref (kad κ 204))]) [0] rfl ?_
    exact J_X8_next_112_w C hret   σ  hp
  · have hp := hp.2 hc
    refine x_iload_n 2 C rfl (dX8_next_p0 54 rfl) ?_
    refine x_iload_n 1 C rfl (dX8_next_p0 55 rfl) ?_
    refine x_icmp_ge (tgt := 112) C (dX8_next_p0 56 rfl) (by decide) (fun hc => ?_) (fun hc => ?_)
    · have hp := hp.1 hc
      refine x_loc (loc' := [(0, .ref (kad κ 204))]) [0] rfl ?_
      exact J_X8_next_112_w C hret   σ  hp
    · have hp := hp.2 hc
      refine x_aload_n 0 C rfl (dX8_next_p0 57 rfl) ?_
      refine gX8_32 (b := 226) C rfl (by decide) rfl tw_780 (dX8_next_p0 58 rfl) ?_
      refine x_iload_n 2 C rfl (dX8_next_p0 59 rfl) ?_
      obtain ⟨h8, hp⟩ := hp
      refine x_iald C rfl (by decide) h8 (dX8_next_p0 60 rfl) ?_
      refine x_aload_n 0 C rfl (dX8_next_p0 61 rfl) ?_
      refine gX8_32 (b := 226) C rfl (by decide) rfl tw_780 (dX8_next_p0 62 rfl) ?_
      refine x_iload_n 1 C rfl (dX8_next_p0 63 rfl) ?_
      obtain ⟨h9, hp⟩ := hp
      refine x_iald C rfl (by decide) h9 (dX8_next_p1 0 rfl) ?_
      refine x_icmp_le (tgt := 112) C (dX8_next_p1 1 rfl) (by decide) (fun hc => ?_) (fun hc => ?_)
      · have hp := hp.1 hc
        refine x_loc (loc' := [(0, .ref (kad κ 204))]) [0] rfl ?_
        exact J_X8_next_112_w C hret   σ  hp
      · have hp := hp.2 hc
        refine x_iconst (v := 3) C (by decide) (dX8_next_p1 2 rfl) ?_
        exact hret _ _ _ _ (dX8_next_p1 3 rfl) (nar_i _) hp
def J_X8_next_61 (K : Int32 → St → Prop)  (u1 : Int32) (u2 : Int32) (u3 : Int32) (σ : St) : Prop := P_X8_word u1 u2 σ (fun r6 s5 => vp_in r6 28 ∧ (((s5.1 208 (ix r6)) = u3 → P_X8_isReady u1 u2 s5 (fun r11 s10 => (r11 = 0 → (J_X8_next_86 K  u2 u3 s10)) ∧ (¬ (r11 = 0) → (K 2 s10)))) ∧ (¬ ((s5.1 208 (ix r6)) = u3) → (J_X8_next_86 K  u2 u3 s5))))
set_option maxHeartbeats 4000000 in
set_option maxRecDepth 100000 in
theorem J_X8_next_61_w {κ : Kap} {K : Int32 → St → Prop}  (C : Ok κ RX8 cX8_next 4 2) (hret : RetI κ cX8_next .int K) (u1 : Int32) (u2 : Int32) (u3 : Int32)     (σ : St)  (hp : J_X8_next_61 K  u1 u2 u3 σ) : GG κ 61 [(0, .ref (kad κ 204)), (1, .int u1), (2, .int u2), (3, .int u3)] [] σ := by
  unfold J_X8_next_61 at hp
  refine x_aload_n 0 C rfl (dX8_next_p0 37 rfl) ?_
  refine gX8_5 (b := 208) C rfl (by decide) rfl tw_753 (dX8_next_p0 38 rfl) ?_
  refine x_iload_n 1 C rfl (dX8_next_p0 39 rfl) ?_
  refine x_iload_n 2 C rfl (dX8_next_p0 40 rfl) ?_
  refine x_csI (As := [.int u1, .int u2]) (st := [.ref (kad κ 208)]) C LRX8_124 (m_X8_word (kL κ) (kad κ) (kD κ) (kca κ) C.ado u1 u2  σ _ hp) rfl (by decide) rfl (Nat.le_of_ble_eq_true rfl) (dX8_next_p0 41 rfl) (fun r6 s5 hp => ?_)
  obtain ⟨h7, hp⟩ := hp
  refine x_iald C rfl (by decide) h7 (dX8_next_p0 42 rfl) ?_
  refine x_iload_n 3 C rfl (dX8_next_p0 43 rfl) ?_
  refine x_icmp_ne (tgt := 86) C (dX8_next_p0 44 rfl) (by decide) (fun hc => ?_) (fun hc => ?_)
  · have hp := hp.2 hc
    refine x_loc (loc' := [(0, .ref (kad κ 204)), (2, .int u2), (3, .int u3)]) [0, 2, 3] rfl ?_
    exact J_X8_next_86_w C hret u2 u3  s5  hp
  · have hp := hp.1 hc
    refine x_aload_n 0 C rfl (dX8_next_p0 45 rfl) ?_
    refine x_iload_n 1 C rfl (dX8_next_p0 46 rfl) ?_
    refine x_iload_n 2 C rfl (dX8_next_p0 47 rfl) ?_
    refine x_cvI (As := [.int u1, .int u2]) (st := []) C LRX8_255 (ci := 8) rfl rfl (by decide) (by decide) (m_X8_isReady (kL κ) (kad κ) (kD κ) (kca κ) C.ado u1 u2  s5 _ hp) rfl (by decide) rfl (Nat.le_of_ble_eq_true rfl) (dX8_next_p0 48 rfl) (fun r11 s10 hp => ?_)
    refine x_if_eq (tgt := 86) C (dX8_next_p0 49 rfl) (by decide) (fun hc => ?_) (fun hc => ?_)
    · have hp := hp.1 hc
      refine x_loc (loc' := [(0, .ref (kad κ 204)), (2, .int u2), (3, .int u3)]) [0, 2, 3] rfl ?_
      exact J_X8_next_86_w C hret u2 u3  s10  hp
    · have hp := hp.2 hc
      refine x_iconst (v := 2) C (by decide) (dX8_next_p0 50 rfl) ?_
      exact hret _ _ _ _ (dX8_next_p0 51 rfl) (nar_i _) hp
def P_X8_next (p1 : Int32) (σ : St) (K : Int32 → St → Prop) : Prop := ((σ.1 204 36) ≤ 1 → (J_X8_next_112 K   σ)) ∧ (¬ ((σ.1 204 36) ≤ 1) → (vp_in ((σ.1 204 36) - 1) 8 ∧ (∀ v2 : Int32, v2 = (σ.1 228 (ix ((σ.1 204 36) - 1))) → (vp_in ((σ.1 204 36) - 2) 8 ∧ (∀ v4 : Int32, v4 = (σ.1 228 (ix ((σ.1 204 36) - 2))) → ((v4 = 0 → (J_X8_next_61 K  p1 v2 v4 σ)) ∧ (¬ (v4 = 0) → P_X8_word p1 v4 σ (fun r13 s12 => vp_in r13 28 ∧ (((s12.1 208 (ix r13)) = v2 → P_X8_isReady p1 v4 s12 (fun r16 s15 => (r16 = 0 → (J_X8_next_61 K  p1 v2 v4 s15)) ∧ (¬ (r16 = 0) → (K 1 s15)))) ∧ (¬ ((s12.1 208 (ix r13)) = v2) → (J_X8_next_61 K  p1 v2 v4 s12)))))))))))
set_option maxHeartbeats 4000000 in
set_option maxRecDepth 100000 in
theorem m_X8_next (l : Launch) (ad : Nat → Nat) (D : va_G) (ca : Nat → ClassId) (had : adOk ad) (p1 : Int32)  (σ : St) (K : Int32 → St → Prop) (hp : P_X8_next p1 σ K) : CtI l ad D ca yX8_next cX8_next 4 .int 2 [.ref (ad 204), .int p1] σ K := CtI_of (av := fun ad => [.ref (ad 204), .int p1]) (plainFor_of_name (by decide)) had (Nat.le_of_ble_eq_true rfl) (fun κ C hret => by
  have C : Ok κ RX8 cX8_next 4 2 := C
  show GG κ 0 [(0, .ref (kad κ 204)), (1, .int p1)] [] σ
  unfold P_X8_next at hp
  refine x_aload_n 0 C rfl (dX8_next_p0 0 rfl) ?_
  refine gX8_36 C rfl (by decide) tw_784 (dX8_next_p0 1 rfl) ?_
  refine x_iconst (v := 1) C (by decide) (dX8_next_p0 2 rfl) ?_
  refine x_icmp_le (tgt := 112) C (dX8_next_p0 3 rfl) (by decide) (fun hc => ?_) (fun hc => ?_)
  · have hp := hp.1 hc
    refine x_loc (loc' := [(0, .ref (kad κ 204))]) [0] rfl ?_
    exact J_X8_next_112_w C hret   σ  hp
  · have hp := hp.2 hc
    refine x_aload_n 0 C rfl (dX8_next_p0 4 rfl) ?_
    refine gX8_35 (b := 228) C rfl (by decide) rfl tw_783 (dX8_next_p0 5 rfl) ?_
    refine x_aload_n 0 C rfl (dX8_next_p0 6 rfl) ?_
    refine gX8_36 C rfl (by decide) tw_784 (dX8_next_p0 7 rfl) ?_
    refine x_iconst (v := 1) C (by decide) (dX8_next_p0 8 rfl) ?_
    refine x_isub C (dX8_next_p0 9 rfl) ?_
    obtain ⟨h1, hp⟩ := hp
    refine x_iald C rfl (by decide) h1 (dX8_next_p0 10 rfl) ?_
    refine x_topI (fun v2 ev2 => ?_)
    have hp := hp v2 ev2
    refine x_istore_n (loc' := [(2, .int v2), (0, .ref (kad κ 204)), (1, .int p1)]) C rfl (by decide) rfl (dX8_next_p0 11 rfl) ?_
    refine x_aload_n 1 C rfl (dX8_next_p0 12 rfl) ?_
    refine gX8_35 (b := 228) C rfl (by decide) rfl tw_783 (dX8_next_p0 13 rfl) ?_
    refine x_aload_n 1 C rfl (dX8_next_p0 14 rfl) ?_
    refine gX8_36 C rfl (by decide) tw_784 (dX8_next_p0 15 rfl) ?_
    refine x_iconst (v := 2) C (by decide) (dX8_next_p0 16 rfl) ?_
    refine x_isub C (dX8_next_p0 17 rfl) ?_
    obtain ⟨h3, hp⟩ := hp
    refine x_iald C rfl (by decide) h3 (dX8_next_p0 18 rfl) ?_
    refine x_topI (fun v4 ev4 => ?_)
    have hp := hp v4 ev4
    refine x_istore_n (loc' := [(3, .int v4), (2, .int v2), (0, .ref (kad κ 204)), (1, .int p1)]) C rfl (by decide) rfl (dX8_next_p0 19 rfl) ?_
    refine x_iload_n 0 C rfl (dX8_next_p0 20 rfl) ?_
    refine x_if_eq (tgt := 61) C (dX8_next_p0 21 rfl) (by decide) (fun hc => ?_) (fun hc => ?_)
    · have hp := hp.1 hc
      refine x_loc (loc' := [(0, .ref (kad κ 204)), (1, .int p1), (2, .int v2), (3, .int v4)]) [2, 3, 1, 0] rfl ?_
      exact J_X8_next_61_w C hret p1 v2 v4  σ  hp
    · have hp := hp.2 hc
      refine x_aload_n 2 C rfl (dX8_next_p0 22 rfl) ?_
      refine gX8_5 (b := 208) C rfl (by decide) rfl tw_753 (dX8_next_p0 23 rfl) ?_
      refine x_iload_n 3 C rfl (dX8_next_p0 24 rfl) ?_
      refine x_iload_n 0 C rfl (dX8_next_p0 25 rfl) ?_
      refine x_csI (As := [.int p1, .int v4]) (st := [.ref (kad κ 208)]) C LRX8_124 (m_X8_word (kL κ) (kad κ) (kD κ) (kca κ) C.ado p1 v4  σ _ hp) rfl (by decide) rfl (Nat.le_of_ble_eq_true rfl) (dX8_next_p0 26 rfl) (fun r13 s12 hp => ?_)
      obtain ⟨h14, hp⟩ := hp
      refine x_iald C rfl (by decide) h14 (dX8_next_p0 27 rfl) ?_
      refine x_iload_n 1 C rfl (dX8_next_p0 28 rfl) ?_
      refine x_icmp_ne (tgt := 61) C (dX8_next_p0 29 rfl) (by decide) (fun hc => ?_) (fun hc => ?_)
      · have hp := hp.2 hc
        refine x_loc (loc' := [(0, .ref (kad κ 204)), (1, .int p1), (2, .int v2), (3, .int v4)]) [2, 3, 1, 0] rfl ?_
        exact J_X8_next_61_w C hret p1 v2 v4  s12  hp
      · have hp := hp.1 hc
        refine x_aload_n 2 C rfl (dX8_next_p0 30 rfl) ?_
        refine x_iload_n 3 C rfl (dX8_next_p0 31 rfl) ?_
        refine x_iload_n 0 C rfl (dX8_next_p0 32 rfl) ?_
        refine x_cvI (As := [.int p1, .int v4]) (st := []) C LRX8_255 (ci := 8) rfl rfl (by decide) (by decide) (m_X8_isReady (kL κ) (kad κ) (kD κ) (kca κ) C.ado p1 v4  s12 _ hp) rfl (by decide) rfl (Nat.le_of_ble_eq_true rfl) (dX8_next_p0 33 rfl) (fun r16 s15 hp => ?_)
        refine x_if_eq (tgt := 61) C (dX8_next_p0 34 rfl) (by decide) (fun hc => ?_) (fun hc => ?_)
        · have hp := hp.1 hc
          refine x_loc (loc' := [(0, .ref (kad κ 204)), (1, .int p1), (2, .int v2), (3, .int v4)]) [2, 3, 1, 0] rfl ?_
          exact J_X8_next_61_w C hret p1 v2 v4  s15  hp
        · have hp := hp.2 hc
          refine x_iconst (v := 1) C (by decide) (dX8_next_p0 35 rfl) ?_
          exact hret _ _ _ _ (dX8_next_p0 36 rfl) (nar_i _) hp)
def J_X8_moves_239 (K : St → Prop) (c71 : (Int32 × St) → Prop) (u1 : Int32) (u2 : Int32) (σ : St) : Prop := vp_in (σ.1 204 33) 200 ∧ ∀ s21 : St, s21 = wI σ 227 (ix (σ.1 204 33)) u2 → (∀ s22 : St, s22 = wI s21 204 33 ((s21.1 204 33) + 1) → P_X8_next u1 s22 (fun r24 s23 => c71 (r24, s23)))
set_option maxHeartbeats 4000000 in
set_option maxRecDepth 100000 in
theorem J_X8_moves_239_w {κ : Kap} {K : St → Prop} {c71 : (Int32 × St) → Prop} (C : Ok κ RX8 cX8_moves 5 3) (hret : RetV κ cX8_moves K) (u1 : Int32) (u2 : Int32)    (σ : St) (hc71 : ∀ (u2 : Int32) (σ : St), c71 (u2, σ) → GG κ 71 [(0, .ref (kad κ 204)), (1, .int u1), (2, .int u2)] [] σ) (hp : J_X8_moves_239 K c71 u1 u2 σ) : GG κ 239 [(0, .ref (kad κ 204)), (1, .int u1), (2, .int u2)] [] σ := by
  unfold J_X8_moves_239 at hp
  refine x_aload_n 0 C rfl (dX8_moves_p2 14 rfl) ?_
  refine gX8_34 (b := 227) C rfl (by decide) rfl tw_782 (dX8_moves_p2 15 rfl) ?_
  refine x_aload_n 0 C rfl (dX8_moves_p2 16 rfl) ?_
  refine gX8_33 C rfl (by decide) tw_781 (dX8_moves_p2 17 rfl) ?_
  refine x_iload_n 2 C rfl (dX8_moves_p2 18 rfl) ?_
  obtain ⟨h20, hp⟩ := hp
  refine x_iast C rfl (by decide) h20 (dX8_moves_p2 19 rfl) ?_
  refine x_nmS (fun s21 es21 => ?_)
  have hp := hp s21 es21
  refine x_aload_n 0 C rfl (dX8_moves_p2 20 rfl) ?_
  refine x_dup C rfl (dX8_moves_p2 21 rfl) ?_
  refine gX8_33 C rfl (by decide) tw_781 (dX8_moves_p2 22 rfl) ?_
  refine x_iconst (v := 1) C (by decide) (dX8_moves_p2 23 rfl) ?_
  refine x_iadd C (dX8_moves_p2 24 rfl) ?_
  refine qX8_33 C rfl (by decide) tw_781 (dX8_moves_p2 25 rfl) ?_
  refine x_nmS (fun s22 es22 => ?_)
  have hp := hp s22 es22
  refine x_aload_n 0 C rfl (dX8_moves_p2 26 rfl) ?_
  refine x_iload_n 1 C rfl (dX8_moves_p2 27 rfl) ?_
  refine x_cvI (As := [.int u1]) (st := []) C LRX8_264 (ci := 8) rfl rfl (by decide) (by decide) (m_X8_next (kL κ) (kad κ) (kD κ) (kca κ) C.ado u1  s22 _ hp) rfl (by decide) rfl (Nat.le_of_ble_eq_true rfl) (dX8_moves_p2 28 rfl) (fun r24 s23 hp => ?_)
  refine x_istore_n (loc' := [(2, .int r24), (0, .ref (kad κ 204)), (1, .int u1)]) C rfl (by decide) rfl (dX8_moves_p2 29 rfl) ?_
  refine x_goto (tgt := 71) C (dX8_moves_p2 30 rfl) (by decide) ?_
  refine x_loc (loc' := [(0, .ref (kad κ 204)), (1, .int u1), (2, .int r24)]) [1, 2, 0] rfl ?_
  exact hc71 r24 s23 hp
def J_X8_moves_217 (K : St → Prop) (c71 : (Int32 × St) → Prop) (u1 : Int32) (u2 : Int32) (u3 : Int32) (σ : St) : Prop := vp_in ((σ.1 204 36) - 2) 8 ∧ ∀ s18 : St, s18 = wI σ 228 (ix ((σ.1 204 36) - 2)) u3 → (∀ s19 : St, s19 = wI s18 204 36 ((s18.1 204 36) - 1) → (J_X8_moves_239 K c71 u1 u2 s19))
set_option maxHeartbeats 4000000 in
set_option maxRecDepth 100000 in
theorem J_X8_moves_217_w {κ : Kap} {K : St → Prop} {c71 : (Int32 × St) → Prop} (C : Ok κ RX8 cX8_moves 5 3) (hret : RetV κ cX8_moves K) (u1 : Int32) (u2 : Int32) (u3 : Int32)     (σ : St) (hc71 : ∀ (u2 : Int32) (σ : St), c71 (u2, σ) → GG κ 71 [(0, .ref (kad κ 204)), (1, .int u1), (2, .int u2)] [] σ) (hp : J_X8_moves_217 K c71 u1 u2 u3 σ) : GG κ 217 [(0, .ref (kad κ 204)), (1, .int u1), (2, .int u2), (3, .int u3)] [] σ := by
  unfold J_X8_moves_217 at hp
  refine x_aload_n 0 C rfl (dX8_moves_p2 0 rfl) ?_
  refine gX8_35 (b := 228) C rfl (by decide) rfl tw_783 (dX8_moves_p2 1 rfl) ?_
  refine x_aload_n 0 C rfl (dX8_moves_p2 2 rfl) ?_
  refine gX8_36 C rfl (by decide) tw_784 (dX8_moves_p2 3 rfl) ?_
  refine x_iconst (v := 2) C (by decide) (dX8_moves_p2 4 rfl) ?_
  refine x_isub C (dX8_moves_p2 5 rfl) ?_
  refine x_iload_n 3 C rfl (dX8_moves_p2 6 rfl) ?_
  obtain ⟨h17, hp⟩ := hp
  refine x_iast C rfl (by decide) h17 (dX8_moves_p2 7 rfl) ?_
  refine x_nmS (fun s18 es18 => ?_)
  have hp := hp s18 es18
  refine x_aload_n 0 C rfl (dX8_moves_p2 8 rfl) ?_
  refine x_dup C rfl (dX8_moves_p2 9 rfl) ?_
  refine gX8_36 C rfl (by decide) tw_784 (dX8_moves_p2 10 rfl) ?_
  refine x_iconst (v := 1) C (by decide) (dX8_moves_p2 11 rfl) ?_
  refine x_isub C (dX8_moves_p2 12 rfl) ?_
  refine qX8_36 C rfl (by decide) tw_784 (dX8_moves_p2 13 rfl) ?_
  refine x_nmS (fun s19 es19 => ?_)
  have hp := hp s19 es19
  refine x_loc (loc' := [(0, .ref (kad κ 204)), (1, .int u1), (2, .int u2)]) [0, 1, 2] rfl ?_
  exact J_X8_moves_239_w C hret u1 u2  s19 hc71 hp
def F_X8_moves_71 (K : St → Prop) (c71 : (Int32 × St) → Prop) (u1 : Int32) (u2 : Int32) (σ : St) : Prop := (u2 < 0 → (K σ)) ∧ (¬ (u2 < 0) → (vp_in ((σ.1 204 36) - 1) 8 ∧ (∀ v11 : Int32, v11 = (σ.1 228 (ix ((σ.1 204 36) - 1))) → ((u2 = 0 → (∀ s28 : St, s28 = wI σ 204 38 ((σ.1 204 38) - 1) → (vp_in (s28.1 204 38) 8 ∧ (vp_in (s28.1 204 36) 8 ∧ ∀ s31 : St, s31 = wI s28 228 (ix (s28.1 204 36)) (s28.1 229 (ix (s28.1 204 38))) → (∀ s32 : St, s32 = wI s31 204 36 ((s31.1 204 36) + 1) → (J_X8_moves_239 K c71 u1 u2 s32)))))) ∧ (¬ (u2 = 0) → ((u2 = 2 → (∀ s26 : St, s26 = wI σ 204 39 ((σ.1 204 39) ||| (1 <<< (v11 &&& 31))) → (∀ s27 : St, s27 = wI s26 204 36 ((s26.1 204 36) - 1) → (J_X8_moves_239 K c71 u1 u2 s27)))) ∧ (¬ (u2 = 2) → (vp_in ((σ.1 204 36) - 2) 8 ∧ (∀ v13 : Int32, v13 = (σ.1 228 (ix ((σ.1 204 36) - 2))) → ((u2 = 1 → (∀ s25 : St, s25 = wI σ 204 39 ((σ.1 204 39) ||| (1 <<< (v13 &&& 31))) → (J_X8_moves_217 K c71 u1 u2 v11 s25))) ∧ (¬ (u2 = 1) → (vp_in (σ.1 204 38) 8 ∧ ∀ s15 : St, s15 = wI σ 229 (ix (σ.1 204 38)) v13 → (∀ s16 : St, s16 = wI s15 204 38 ((s15.1 204 38) + 1) → (J_X8_moves_217 K c71 u1 u2 v11 s16))))))))))))))
set_option maxHeartbeats 4000000 in
set_option maxRecDepth 100000 in
theorem F_X8_moves_71_w {κ : Kap} {K : St → Prop} {c71 : (Int32 × St) → Prop} (C : Ok κ RX8 cX8_moves 5 3) (hret : RetV κ cX8_moves K) (u1 : Int32) (u2 : Int32)    (σ : St) (hc71 : ∀ (u2 : Int32) (σ : St), c71 (u2, σ) → GG κ 71 [(0, .ref (kad κ 204)), (1, .int u1), (2, .int u2)] [] σ) (hp : F_X8_moves_71 K c71 u1 u2 σ) : GG κ 71 [(0, .ref (kad κ 204)), (1, .int u1), (2, .int u2)] [] σ := by
  unfold F_X8_moves_71 at hp
  refine x_iload_n 2 C rfl (dX8_moves_p0 43 rfl) ?_
  refine x_if_lt (tgt := 268) C (dX8_moves_p0 44 rfl) (by decide) (fun hc => ?_) (fun hc => ?_)
  · have hp := hp.1 hc
    exact hret _ _ _ (dX8_moves_p2 31 rfl) hp
  · have hp := hp.2 hc
    refine x_aload_n 0 C rfl (dX8_moves_p0 45 rfl) ?_
    refine gX8_35 (b := 228) C rfl (by decide) rfl tw_783 (dX8_moves_p0 46 rfl) ?_
    refine x_aload_n 0 C rfl (dX8_moves_p0 47 rfl) ?_
    refine gX8_36 C rfl (by decide) tw_784 (dX8_moves_p0 48 rfl) ?_
    refine x_iconst (v := 1) C (by decide) (dX8_moves_p0 49 rfl) ?_
    refine x_isub C (dX8_moves_p0 50 rfl) ?_
    obtain ⟨h10, hp⟩ := hp
    refine x_iald C rfl (by decide) h10 (dX8_moves_p0 51 rfl) ?_
    refine x_topI (fun v11 ev11 => ?_)
    have hp := hp v11 ev11
    refine x_istore_n (loc' := [(3, .int v11), (0, .ref (kad κ 204)), (1, .int u1), (2, .int u2)]) C rfl (by decide) rfl (dX8_moves_p0 52 rfl) ?_
    refine x_iload_n 3 C rfl (dX8_moves_p0 53 rfl) ?_
    refine x_if_ne (tgt := 132) C (dX8_moves_p0 54 rfl) (by decide) (fun hc => ?_) (fun hc => ?_)
    · have hp := hp.2 hc
      refine x_iload_n 3 C rfl (dX8_moves_p1 14 rfl) ?_
      refine x_iconst (v := 2) C (by decide) (dX8_moves_p1 15 rfl) ?_
      refine x_icmp_ne (tgt := 162) C (dX8_moves_p1 16 rfl) (by decide) (fun hc => ?_) (fun hc => ?_)
      · have hp := hp.2 hc
        refine x_aload_n 1 C rfl (dX8_moves_p1 32 rfl) ?_
        refine gX8_35 (b := 228) C rfl (by decide) rfl tw_783 (dX8_moves_p1 33 rfl) ?_
        refine x_aload_n 1 C rfl (dX8_moves_p1 34 rfl) ?_
        refine gX8_36 C rfl (by decide) tw_784 (dX8_moves_p1 35 rfl) ?_
        refine x_iconst (v := 2) C (by decide) (dX8_moves_p1 36 rfl) ?_
        refine x_isub C (dX8_moves_p1 37 rfl) ?_
        obtain ⟨h12, hp⟩ := hp
        refine x_iald C rfl (by decide) h12 (dX8_moves_p1 38 rfl) ?_
        refine x_topI (fun v13 ev13 => ?_)
        have hp := hp v13 ev13
        refine x_istore (loc' := [(4, .int v13), (3, .int v11), (0, .ref (kad κ 204)), (1, .int u1), (2, .int u2)]) C (by decide) rfl (dX8_moves_p1 39 rfl) ?_
        refine x_iload_n 4 C rfl (dX8_moves_p1 40 rfl) ?_
        refine x_iconst (v := 1) C (by decide) (dX8_moves_p1 41 rfl) ?_
        refine x_icmp_ne (tgt := 196) C (dX8_moves_p1 42 rfl) (by decide) (fun hc => ?_) (fun hc => ?_)
        · have hp := hp.2 hc
          refine x_aload_n 2 C rfl (dX8_moves_p1 52 rfl) ?_
          refine gX8_37 (b := 229) C rfl (by decide) rfl tw_785 (dX8_moves_p1 53 rfl) ?_
          refine x_aload_n 2 C rfl (dX8_moves_p1 54 rfl) ?_
          refine gX8_38 C rfl (by decide) tw_786 (dX8_moves_p1 55 rfl) ?_
          refine x_iload 0 C rfl (dX8_moves_p1 56 rfl) ?_
          obtain ⟨h14, hp⟩ := hp
          refine x_iast C rfl (by decide) h14 (dX8_moves_p1 57 rfl) ?_
          refine x_nmS (fun s15 es15 => ?_)
          have hp := hp s15 es15
          refine x_aload_n 2 C rfl (dX8_moves_p1 58 rfl) ?_
          refine x_dup C rfl (dX8_moves_p1 59 rfl) ?_
          refine gX8_38 C rfl (by decide) tw_786 (dX8_moves_p1 60 rfl) ?_
          refine x_iconst (v := 1) C (by decide) (dX8_moves_p1 61 rfl) ?_
          refine x_iadd C (dX8_moves_p1 62 rfl) ?_
          refine qX8_38 C rfl (by decide) tw_786 (dX8_moves_p1 63 rfl) ?_
          refine x_nmS (fun s16 es16 => ?_)
          have hp := hp s16 es16
          refine x_loc (loc' := [(0, .ref (kad κ 204)), (1, .int u1), (2, .int u2), (3, .int v11)]) [2, 3, 4, 1] rfl ?_
          exact J_X8_moves_217_w C hret u1 u2 v11  s16 hc71 hp
        · have hp := hp.1 hc
          refine x_aload_n 2 C rfl (dX8_moves_p1 43 rfl) ?_
          refine x_dup C rfl (dX8_moves_p1 44 rfl) ?_
          refine gX8_39 C rfl (by decide) tw_787 (dX8_moves_p1 45 rfl) ?_
          refine x_iconst (v := 1) C (by decide) (dX8_moves_p1 46 rfl) ?_
          refine x_iload 0 C rfl (dX8_moves_p1 47 rfl) ?_
          refine x_ishl C (dX8_moves_p1 48 rfl) ?_
          refine x_ior C (dX8_moves_p1 49 rfl) ?_
          refine qX8_39 C rfl (by decide) tw_787 (dX8_moves_p1 50 rfl) ?_
          refine x_nmS (fun s25 es25 => ?_)
          have hp := hp s25 es25
          refine x_goto (tgt := 217) C (dX8_moves_p1 51 rfl) (by decide) ?_
          refine x_loc (loc' := [(0, .ref (kad κ 204)), (1, .int u1), (2, .int u2), (3, .int v11)]) [2, 3, 4, 1] rfl ?_
          exact J_X8_moves_217_w C hret u1 u2 v11  s25 hc71 hp
      · have hp := hp.1 hc
        refine x_aload_n 1 C rfl (dX8_moves_p1 17 rfl) ?_
        refine x_dup C rfl (dX8_moves_p1 18 rfl) ?_
        refine gX8_39 C rfl (by decide) tw_787 (dX8_moves_p1 19 rfl) ?_
        refine x_iconst (v := 1) C (by decide) (dX8_moves_p1 20 rfl) ?_
        refine x_iload_n 0 C rfl (dX8_moves_p1 21 rfl) ?_
        refine x_ishl C (dX8_moves_p1 22 rfl) ?_
        refine x_ior C (dX8_moves_p1 23 rfl) ?_
        refine qX8_39 C rfl (by decide) tw_787 (dX8_moves_p1 24 rfl) ?_
        refine x_nmS (fun s26 es26 => ?_)
        have hp := hp s26 es26
        refine x_aload_n 1 C rfl (dX8_moves_p1 25 rfl) ?_
        refine x_dup C rfl (dX8_moves_p1 26 rfl) ?_
        refine gX8_36 C rfl (by decide) tw_784 (dX8_moves_p1 27 rfl) ?_
        refine x_iconst (v := 1) C (by decide) (dX8_moves_p1 28 rfl) ?_
        refine x_isub C (dX8_moves_p1 29 rfl) ?_
        refine qX8_36 C rfl (by decide) tw_784 (dX8_moves_p1 30 rfl) ?_
        refine x_nmS (fun s27 es27 => ?_)
        have hp := hp s27 es27
        refine x_goto (tgt := 239) C (dX8_moves_p1 31 rfl) (by decide) ?_
        refine x_loc (loc' := [(0, .ref (kad κ 204)), (1, .int u1), (2, .int u2)]) [1, 2, 3] rfl ?_
        exact J_X8_moves_239_w C hret u1 u2  s27 hc71 hp
    · have hp := hp.1 hc
      refine x_aload_n 1 C rfl (dX8_moves_p0 55 rfl) ?_
      refine x_dup C rfl (dX8_moves_p0 56 rfl) ?_
      refine gX8_38 C rfl (by decide) tw_786 (dX8_moves_p0 57 rfl) ?_
      refine x_iconst (v := 1) C (by decide) (dX8_moves_p0 58 rfl) ?_
      refine x_isub C (dX8_moves_p0 59 rfl) ?_
      refine qX8_38 C rfl (by decide) tw_786 (dX8_moves_p0 60 rfl) ?_
      refine x_nmS (fun s28 es28 => ?_)
      have hp := hp s28 es28
      refine x_aload_n 1 C rfl (dX8_moves_p0 61 rfl) ?_
      refine gX8_35 (b := 228) C rfl (by decide) rfl tw_783 (dX8_moves_p0 62 rfl) ?_
      refine x_aload_n 1 C rfl (dX8_moves_p0 63 rfl) ?_
      refine gX8_36 C rfl (by decide) tw_784 (dX8_moves_p1 0 rfl) ?_
      refine x_aload_n 1 C rfl (dX8_moves_p1 1 rfl) ?_
      refine gX8_37 (b := 229) C rfl (by decide) rfl tw_785 (dX8_moves_p1 2 rfl) ?_
      refine x_aload_n 1 C rfl (dX8_moves_p1 3 rfl) ?_
      refine gX8_38 C rfl (by decide) tw_786 (dX8_moves_p1 4 rfl) ?_
      obtain ⟨h29, hp⟩ := hp
      refine x_iald C rfl (by decide) h29 (dX8_moves_p1 5 rfl) ?_
      obtain ⟨h30, hp⟩ := hp
      refine x_iast C rfl (by decide) h30 (dX8_moves_p1 6 rfl) ?_
      refine x_nmS (fun s31 es31 => ?_)
      have hp := hp s31 es31
      refine x_aload_n 1 C rfl (dX8_moves_p1 7 rfl) ?_
      refine x_dup C rfl (dX8_moves_p1 8 rfl) ?_
      refine gX8_36 C rfl (by decide) tw_784 (dX8_moves_p1 9 rfl) ?_
      refine x_iconst (v := 1) C (by decide) (dX8_moves_p1 10 rfl) ?_
      refine x_iadd C (dX8_moves_p1 11 rfl) ?_
      refine qX8_36 C rfl (by decide) tw_784 (dX8_moves_p1 12 rfl) ?_
      refine x_nmS (fun s32 es32 => ?_)
      have hp := hp s32 es32
      refine x_goto (tgt := 239) C (dX8_moves_p1 13 rfl) (by decide) ?_
      refine x_loc (loc' := [(0, .ref (kad κ 204)), (1, .int u1), (2, .int u2)]) [1, 2, 3] rfl ?_
      exact J_X8_moves_239_w C hret u1 u2  s32 hc71 hp
def F_X8_moves_39 (K : St → Prop) (c39 : (Int32 × St) → Prop) (u1 : Int32) (u2 : Int32) (σ : St) : Prop := ((σ.1 204 38) ≤ u2 → P_X8_next u1 σ (fun r9 s8 => LpE (fun c s => F_X8_moves_71 K  c u1 s.1 s.2) (r9, s8))) ∧ (¬ ((σ.1 204 38) ≤ u2) → (vp_in u2 8 ∧ ∀ s34 : St, s34 = wI σ 229 (ix u2) ((σ.1 204 38) - u2) → ∀ v35 : Int32, v35 = u2 + 1 → c39 (v35, s34)))
set_option maxHeartbeats 4000000 in
set_option maxRecDepth 100000 in
theorem F_X8_moves_39_w {κ : Kap} {K : St → Prop} {c39 : (Int32 × St) → Prop} (C : Ok κ RX8 cX8_moves 5 3) (hret : RetV κ cX8_moves K) (u1 : Int32) (u2 : Int32)    (σ : St) (hc39 : ∀ (u2 : Int32) (σ : St), c39 (u2, σ) → GG κ 39 [(0, .ref (kad κ 204)), (1, .int u1), (2, .int u2)] [] σ) (hp : F_X8_moves_39 K c39 u1 u2 σ) : GG κ 39 [(0, .ref (kad κ 204)), (1, .int u1), (2, .int u2)] [] σ := by
  unfold F_X8_moves_39 at hp
  refine x_iload_n 2 C rfl (dX8_moves_p0 25 rfl) ?_
  refine x_aload_n 0 C rfl (dX8_moves_p0 26 rfl) ?_
  refine gX8_38 C rfl (by decide) tw_786 (dX8_moves_p0 27 rfl) ?_
  refine x_icmp_ge (tgt := 65) C (dX8_moves_p0 28 rfl) (by decide) (fun hc => ?_) (fun hc => ?_)
  · have hp := hp.1 hc
    refine x_aload_n 0 C rfl (dX8_moves_p0 39 rfl) ?_
    refine x_iload_n 1 C rfl (dX8_moves_p0 40 rfl) ?_
    refine x_cvI (As := [.int u1]) (st := []) C LRX8_264 (ci := 8) rfl rfl (by decide) (by decide) (m_X8_next (kL κ) (kad κ) (kD κ) (kca κ) C.ado u1  σ _ hp) rfl (by decide) rfl (Nat.le_of_ble_eq_true rfl) (dX8_moves_p0 41 rfl) (fun r9 s8 hp => ?_)
    refine x_istore_n (loc' := [(2, .int r9), (0, .ref (kad κ 204)), (1, .int u1)]) C rfl (by decide) rfl (dX8_moves_p0 42 rfl) ?_
    refine x_loc (loc' := [(0, .ref (kad κ 204)), (1, .int u1), (2, .int r9)]) [1, 2, 0] rfl ?_
    exact LpE_GG (S := (Int32 × St)) (F := fun c s => F_X8_moves_71 K  c u1 s.1 s.2) (W := fun s => GG κ 71 [(0, .ref (kad κ 204)), (1, .int u1), (2, .int s.1)] [] s.2) (fun c s hcc hp => F_X8_moves_71_w C hret u1 s.1  s.2  (fun u2 σ h => hcc (u2, σ) h) hp) hp
  · have hp := hp.2 hc
    refine x_aload_n 0 C rfl (dX8_moves_p0 29 rfl) ?_
    refine gX8_37 (b := 229) C rfl (by decide) rfl tw_785 (dX8_moves_p0 30 rfl) ?_
    refine x_iload_n 2 C rfl (dX8_moves_p0 31 rfl) ?_
    refine x_aload_n 0 C rfl (dX8_moves_p0 32 rfl) ?_
    refine gX8_38 C rfl (by decide) tw_786 (dX8_moves_p0 33 rfl) ?_
    refine x_iload_n 2 C rfl (dX8_moves_p0 34 rfl) ?_
    refine x_isub C (dX8_moves_p0 35 rfl) ?_
    obtain ⟨h33, hp⟩ := hp
    refine x_iast C rfl (by decide) h33 (dX8_moves_p0 36 rfl) ?_
    refine x_nmS (fun s34 es34 => ?_)
    have hp := hp s34 es34
    obtain ⟨v35, ev35⟩ : ∃ z : Int32, z = u2 + 1 := ⟨_, rfl⟩
    have hp := hp v35 ev35
    refine x_iinc (v := v35) (loc' := [(2, .int v35), (0, .ref (kad κ 204)), (1, .int u1)]) 2 C rfl (by rw [ev35]; rfl) (by decide) rfl (dX8_moves_p0 37 rfl) ?_
    refine x_goto (tgt := 39) C (dX8_moves_p0 38 rfl) (by decide) ?_
    refine x_loc (loc' := [(0, .ref (kad κ 204)), (1, .int u1), (2, .int v35)]) [1, 2, 0] rfl ?_
    exact hc39 v35 s34 hp
def P_X8_moves (p1 : Int32) (σ : St) (K : St → Prop) : Prop := P_X8_orders p1 σ (fun s1 => ∀ s2 : St, s2 = wI s1 204 33 0 → ∀ s3 : St, s3 = wI s2 204 39 0 → (∀ s4 : St, s4 = wI s3 228 (ix 0) 0 → ∀ s5 : St, s5 = wI s4 204 36 1 → vp_in p1 4 ∧ (∀ s7 : St, s7 = wI s5 204 38 (s5.1 206 (ix p1)) → (LpE (fun c s => F_X8_moves_39 K  c p1 s.1 s.2) (0, s7)))))
set_option maxHeartbeats 4000000 in
set_option maxRecDepth 100000 in
theorem m_X8_moves (l : Launch) (ad : Nat → Nat) (D : va_G) (ca : Nat → ClassId) (had : adOk ad) (p1 : Int32)  (σ : St) (K : St → Prop) (hp : P_X8_moves p1 σ K) : CtV l ad D ca yX8_moves cX8_moves 5 3 [.ref (ad 204), .int p1] σ K := CtV_of (av := fun ad => [.ref (ad 204), .int p1]) (plainFor_of_name (by decide)) had (Nat.le_of_ble_eq_true rfl) (fun κ C hret => by
  have C : Ok κ RX8 cX8_moves 5 3 := C
  show GG κ 0 [(0, .ref (kad κ 204)), (1, .int p1)] [] σ
  unfold P_X8_moves at hp
  refine x_aload_n 0 C rfl (dX8_moves_p0 0 rfl) ?_
  refine x_iload_n 1 C rfl (dX8_moves_p0 1 rfl) ?_
  refine x_cvV (As := [.int p1]) (st := []) C LRX8_246 (ci := 8) rfl rfl (by decide) (by decide) (m_X8_orders (kL κ) (kad κ) (kD κ) (kca κ) C.ado p1  σ _ hp) rfl (by decide) rfl (Nat.le_of_ble_eq_true rfl) (dX8_moves_p0 2 rfl) (fun s1 hp => ?_)
  refine x_aload_n 0 C rfl (dX8_moves_p0 3 rfl) ?_
  refine x_iconst (v := 0) C (by decide) (dX8_moves_p0 4 rfl) ?_
  refine qX8_33 C rfl (by decide) tw_781 (dX8_moves_p0 5 rfl) ?_
  refine x_nmS (fun s2 es2 => ?_)
  have hp := hp s2 es2
  refine x_aload_n 0 C rfl (dX8_moves_p0 6 rfl) ?_
  refine x_iconst (v := 0) C (by decide) (dX8_moves_p0 7 rfl) ?_
  refine qX8_39 C rfl (by decide) tw_787 (dX8_moves_p0 8 rfl) ?_
  refine x_nmS (fun s3 es3 => ?_)
  have hp := hp s3 es3
  refine x_aload_n 0 C rfl (dX8_moves_p0 9 rfl) ?_
  refine gX8_35 (b := 228) C rfl (by decide) rfl tw_783 (dX8_moves_p0 10 rfl) ?_
  refine x_iconst (v := 0) C (by decide) (dX8_moves_p0 11 rfl) ?_
  refine x_iconst (v := 0) C (by decide) (dX8_moves_p0 12 rfl) ?_
  refine x_iast C rfl (by decide) (vp_lit (by decide) (by decide)) (dX8_moves_p0 13 rfl) ?_
  refine x_nmS (fun s4 es4 => ?_)
  have hp := hp s4 es4
  refine x_aload_n 0 C rfl (dX8_moves_p0 14 rfl) ?_
  refine x_iconst (v := 1) C (by decide) (dX8_moves_p0 15 rfl) ?_
  refine qX8_36 C rfl (by decide) tw_784 (dX8_moves_p0 16 rfl) ?_
  refine x_nmS (fun s5 es5 => ?_)
  have hp := hp s5 es5
  refine x_aload_n 0 C rfl (dX8_moves_p0 17 rfl) ?_
  refine x_aload_n 0 C rfl (dX8_moves_p0 18 rfl) ?_
  refine gX8_3 (b := 206) C rfl (by decide) rfl tw_751 (dX8_moves_p0 19 rfl) ?_
  refine x_iload_n 1 C rfl (dX8_moves_p0 20 rfl) ?_
  obtain ⟨h6, hp⟩ := hp
  refine x_iald C rfl (by decide) h6 (dX8_moves_p0 21 rfl) ?_
  refine qX8_38 C rfl (by decide) tw_786 (dX8_moves_p0 22 rfl) ?_
  refine x_nmS (fun s7 es7 => ?_)
  have hp := hp s7 es7
  refine x_iconst (v := 0) C (by decide) (dX8_moves_p0 23 rfl) ?_
  refine x_istore_n (loc' := [(2, .int 0), (0, .ref (kad κ 204)), (1, .int p1)]) C rfl (by decide) rfl (dX8_moves_p0 24 rfl) ?_
  refine x_loc (loc' := [(0, .ref (kad κ 204)), (1, .int p1), (2, .int 0)]) [1, 2, 0] rfl ?_
  exact LpE_GG (S := (Int32 × St)) (F := fun c s => F_X8_moves_39 K  c p1 s.1 s.2) (W := fun s => GG κ 39 [(0, .ref (kad κ 204)), (1, .int p1), (2, .int s.1)] [] s.2) (fun c s hcc hp => F_X8_moves_39_w C hret p1 s.1  s.2  (fun u2 σ h => hcc (u2, σ) h) hp) hp)
