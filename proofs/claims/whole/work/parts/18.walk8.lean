def F_X8_used_4 (K : Int32 → St → Prop) (c4 : (Int32 × Int32 × St) → Prop) (u1 : Int32) (u2 : Int32) (σ : St) : Prop := (84 ≤ u2 → (K u1 σ)) ∧ (¬ (84 ≤ u2) → vp_in u2 84 ∧ (((σ.1 211 (ix u2)) = 0 → (∀ v4 : Int32, v4 = (u1 + 0) → ∀ v5 : Int32, v5 = u2 + 1 → c4 (v4, v5, σ))) ∧ (¬ ((σ.1 211 (ix u2)) = 0) → (∀ v2 : Int32, v2 = (u1 + 1) → ∀ v3 : Int32, v3 = u2 + 1 → c4 (v2, v3, σ)))))
set_option maxHeartbeats 4000000 in
set_option maxRecDepth 100000 in
theorem F_X8_used_4_w {κ : Kap} {K : Int32 → St → Prop} {c4 : (Int32 × Int32 × St) → Prop} (C : Ok κ RX8 cX8_used 3 0) (hret : RetI κ cX8_used .int K) (u1 : Int32) (u2 : Int32)    (σ : St) (hc4 : ∀ (u1 : Int32) (u2 : Int32) (σ : St), c4 (u1, u2, σ) → GG κ 4 [(0, .ref (kad κ 204)), (1, .int u1), (2, .int u2)] [] σ) (hp : F_X8_used_4 K c4 u1 u2 σ) : GG κ 4 [(0, .ref (kad κ 204)), (1, .int u1), (2, .int u2)] [] σ := by
  unfold F_X8_used_4 at hp
  refine x_iload_n 2 C rfl (dX8_used_p0 4 rfl) ?_
  refine x_bipush (v := 84) C (by decide) (dX8_used_p0 5 rfl) ?_
  refine x_icmp_ge (tgt := 33) C (dX8_used_p0 6 rfl) (by decide) (fun hc => ?_) (fun hc => ?_)
  · have hp := hp.1 hc
    refine x_iload_n 1 C rfl (dX8_used_p0 20 rfl) ?_
    exact hret _ _ _ _ (dX8_used_p0 21 rfl) (nar_i _) hp
  · have hp := hp.2 hc
    refine x_iload_n 1 C rfl (dX8_used_p0 7 rfl) ?_
    refine x_aload_n 0 C rfl (dX8_used_p0 8 rfl) ?_
    refine gX8_8 (b := 211) C rfl (by decide) rfl tw_756 (dX8_used_p0 9 rfl) ?_
    refine x_iload_n 2 C rfl (dX8_used_p0 10 rfl) ?_
    obtain ⟨h1, hp⟩ := hp
    refine x_iald C rfl (by decide) h1 (dX8_used_p0 11 rfl) ?_
    refine x_if_ne (tgt := 24) C (dX8_used_p0 12 rfl) (by decide) (fun hc => ?_) (fun hc => ?_)
    · have hp := hp.2 hc
      refine x_iconst (v := 1) C (by decide) (dX8_used_p0 15 rfl) ?_
      refine x_iadd C (dX8_used_p0 16 rfl) ?_
      refine x_topI (fun v2 ev2 => ?_)
      have hp := hp v2 ev2
      refine x_istore_n (loc' := [(1, .int v2), (0, .ref (kad κ 204)), (2, .int u2)]) C rfl (by decide) rfl (dX8_used_p0 17 rfl) ?_
      obtain ⟨v3, ev3⟩ : ∃ z : Int32, z = u2 + 1 := ⟨_, rfl⟩
      have hp := hp v3 ev3
      refine x_iinc (v := v3) (loc' := [(2, .int v3), (1, .int v2), (0, .ref (kad κ 204))]) 2 C rfl (by rw [ev3]; rfl) (by decide) rfl (dX8_used_p0 18 rfl) ?_
      refine x_goto (tgt := 4) C (dX8_used_p0 19 rfl) (by decide) ?_
      refine x_loc (loc' := [(0, .ref (kad κ 204)), (1, .int v2), (2, .int v3)]) [2, 1, 0] rfl ?_
      exact hc4 v2 v3 σ hp
    · have hp := hp.1 hc
      refine x_iconst (v := 0) C (by decide) (dX8_used_p0 13 rfl) ?_
      refine x_goto (tgt := 25) C (dX8_used_p0 14 rfl) (by decide) ?_
      refine x_iadd C (dX8_used_p0 16 rfl) ?_
      refine x_topI (fun v4 ev4 => ?_)
      have hp := hp v4 ev4
      refine x_istore_n (loc' := [(1, .int v4), (0, .ref (kad κ 204)), (2, .int u2)]) C rfl (by decide) rfl (dX8_used_p0 17 rfl) ?_
      obtain ⟨v5, ev5⟩ : ∃ z : Int32, z = u2 + 1 := ⟨_, rfl⟩
      have hp := hp v5 ev5
      refine x_iinc (v := v5) (loc' := [(2, .int v5), (1, .int v4), (0, .ref (kad κ 204))]) 2 C rfl (by rw [ev5]; rfl) (by decide) rfl (dX8_used_p0 18 rfl) ?_
      refine x_goto (tgt := 4) C (dX8_used_p0 19 rfl) (by decide) ?_
      refine x_loc (loc' := [(0, .ref (kad κ 204)), (1, .int v4), (2, .int v5)]) [2, 1, 0] rfl ?_
      exact hc4 v4 v5 σ hp
def P_X8_used  (σ : St) (K : Int32 → St → Prop) : Prop := LpE (fun c s => F_X8_used_4 K  c s.1 s.2.1 s.2.2) (0, 0, σ)
set_option maxHeartbeats 4000000 in
set_option maxRecDepth 100000 in
theorem m_X8_used (l : Launch) (ad : Nat → Nat) (D : va_G) (ca : Nat → ClassId) (had : adOk ad)   (σ : St) (K : Int32 → St → Prop) (hp : P_X8_used  σ K) : CtI l ad D ca yX8_used cX8_used 3 .int 0 [.ref (ad 204)] σ K := CtI_of (av := fun ad => [.ref (ad 204)]) (plainFor_of_name (by decide)) had (Nat.le_of_ble_eq_true rfl) (fun κ C hret => by
  have C : Ok κ RX8 cX8_used 3 0 := C
  show GG κ 0 [(0, .ref (kad κ 204))] [] σ
  unfold P_X8_used at hp
  refine x_iconst (v := 0) C (by decide) (dX8_used_p0 0 rfl) ?_
  refine x_istore_n (loc' := [(1, .int 0), (0, .ref (kad κ 204))]) C rfl (by decide) rfl (dX8_used_p0 1 rfl) ?_
  refine x_iconst (v := 0) C (by decide) (dX8_used_p0 2 rfl) ?_
  refine x_istore_n (loc' := [(2, .int 0), (1, .int 0), (0, .ref (kad κ 204))]) C rfl (by decide) rfl (dX8_used_p0 3 rfl) ?_
  refine x_loc (loc' := [(0, .ref (kad κ 204)), (1, .int 0), (2, .int 0)]) [2, 1, 0] rfl ?_
  exact LpE_GG (S := (Int32 × Int32 × St)) (F := fun c s => F_X8_used_4 K  c s.1 s.2.1 s.2.2) (W := fun s => GG κ 4 [(0, .ref (kad κ 204)), (1, .int s.1), (2, .int s.2.1)] [] s.2.2) (fun c s hcc hp => F_X8_used_4_w C hret s.1 s.2.1  s.2.2  (fun u1 u2 σ h => hcc (u1, u2, σ) h) hp) hp)
def F_X8_restore_26 (K : Int32 → St → Prop) (c26 : (Int32 × St) → Prop) (u1 : Int32) (u2 : Int32) (σ : St) : Prop := (84 ≤ u2 → P_X8_used  σ (fun r5 s4 => K r5 s4)) ∧ (¬ (84 ≤ u2) → (vp_in ((84 * u1) + u2) 168 ∧ (vp_in u2 84 ∧ ∀ s8 : St, s8 = wI σ 211 (ix u2) (σ.1 212 (ix ((84 * u1) + u2))) → ∀ v9 : Int32, v9 = u2 + 1 → c26 (v9, s8))))
set_option maxHeartbeats 4000000 in
set_option maxRecDepth 100000 in
theorem F_X8_restore_26_w {κ : Kap} {K : Int32 → St → Prop} {c26 : (Int32 × St) → Prop} (C : Ok κ RX8 cX8_restore 3 1) (hret : RetI κ cX8_restore .int K) (u1 : Int32) (u2 : Int32)    (σ : St) (hc26 : ∀ (u2 : Int32) (σ : St), c26 (u2, σ) → GG κ 26 [(0, .ref (kad κ 204)), (1, .int u1), (2, .int u2)] [] σ) (hp : F_X8_restore_26 K c26 u1 u2 σ) : GG κ 26 [(0, .ref (kad κ 204)), (1, .int u1), (2, .int u2)] [] σ := by
  unfold F_X8_restore_26 at hp
  refine x_iload_n 2 C rfl (dX8_restore_p0 16 rfl) ?_
  refine x_bipush (v := 84) C (by decide) (dX8_restore_p0 17 rfl) ?_
  refine x_icmp_ge (tgt := 55) C (dX8_restore_p0 18 rfl) (by decide) (fun hc => ?_) (fun hc => ?_)
  · have hp := hp.1 hc
    refine x_aload_n 0 C rfl (dX8_restore_p0 33 rfl) ?_
    refine x_cvI (As := []) (st := []) C LRX8_275 (ci := 8) rfl rfl (by decide) (by decide) (m_X8_used (kL κ) (kad κ) (kD κ) (kca κ) C.ado   σ _ hp) rfl (by decide) rfl (Nat.le_of_ble_eq_true rfl) (dX8_restore_p0 34 rfl) (fun r5 s4 hp => ?_)
    exact hret _ _ _ _ (dX8_restore_p0 35 rfl) (nar_i _) hp
  · have hp := hp.2 hc
    refine x_aload_n 0 C rfl (dX8_restore_p0 19 rfl) ?_
    refine gX8_8 (b := 211) C rfl (by decide) rfl tw_756 (dX8_restore_p0 20 rfl) ?_
    refine x_iload_n 2 C rfl (dX8_restore_p0 21 rfl) ?_
    refine x_aload_n 0 C rfl (dX8_restore_p0 22 rfl) ?_
    refine gX8_9 (b := 212) C rfl (by decide) rfl tw_757 (dX8_restore_p0 23 rfl) ?_
    refine x_bipush (v := 84) C (by decide) (dX8_restore_p0 24 rfl) ?_
    refine x_iload_n 1 C rfl (dX8_restore_p0 25 rfl) ?_
    refine x_imul C (dX8_restore_p0 26 rfl) ?_
    refine x_iload_n 2 C rfl (dX8_restore_p0 27 rfl) ?_
    refine x_iadd C (dX8_restore_p0 28 rfl) ?_
    obtain ⟨h6, hp⟩ := hp
    refine x_iald C rfl (by decide) h6 (dX8_restore_p0 29 rfl) ?_
    obtain ⟨h7, hp⟩ := hp
    refine x_iast C rfl (by decide) h7 (dX8_restore_p0 30 rfl) ?_
    refine x_nmS (fun s8 es8 => ?_)
    have hp := hp s8 es8
    obtain ⟨v9, ev9⟩ : ∃ z : Int32, z = u2 + 1 := ⟨_, rfl⟩
    have hp := hp v9 ev9
    refine x_iinc (v := v9) (loc' := [(2, .int v9), (0, .ref (kad κ 204)), (1, .int u1)]) 2 C rfl (by rw [ev9]; rfl) (by decide) rfl (dX8_restore_p0 31 rfl) ?_
    refine x_goto (tgt := 26) C (dX8_restore_p0 32 rfl) (by decide) ?_
    refine x_loc (loc' := [(0, .ref (kad κ 204)), (1, .int u1), (2, .int v9)]) [1, 2, 0] rfl ?_
    exact hc26 v9 s8 hp
def P_X8_restore (p1 : Int32) (σ : St) (K : Int32 → St → Prop) : Prop := P_X8_in p1 0 1 σ (fun r2 s1 => (r2 = 0 → (K (-1000001) s1)) ∧ (¬ (r2 = 0) → vp_in p1 2 ∧ (((s1.1 213 (ix p1)) = 0 → (K (-1000004) s1)) ∧ (¬ ((s1.1 213 (ix p1)) = 0) → (LpE (fun c s => F_X8_restore_26 K  c p1 s.1 s.2) (0, s1))))))
set_option maxHeartbeats 4000000 in
set_option maxRecDepth 100000 in
theorem m_X8_restore (l : Launch) (ad : Nat → Nat) (D : va_G) (ca : Nat → ClassId) (had : adOk ad) (p1 : Int32)  (σ : St) (K : Int32 → St → Prop) (hp : P_X8_restore p1 σ K) : CtI l ad D ca yX8_restore cX8_restore 3 .int 1 [.ref (ad 204), .int p1] σ K := CtI_of (av := fun ad => [.ref (ad 204), .int p1]) (plainFor_of_name (by decide)) had (Nat.le_of_ble_eq_true rfl) (fun κ C hret => by
  have C : Ok κ RX8 cX8_restore 3 1 := C
  show GG κ 0 [(0, .ref (kad κ 204)), (1, .int p1)] [] σ
  unfold P_X8_restore at hp
  refine x_iload_n 1 C rfl (dX8_restore_p0 0 rfl) ?_
  refine x_iconst (v := 0) C (by decide) (dX8_restore_p0 1 rfl) ?_
  refine x_iconst (v := 1) C (by decide) (dX8_restore_p0 2 rfl) ?_
  refine x_csI (As := [.int p1, .int 0, .int 1]) (st := []) C LRX8_94 (m_X8_in (kL κ) (kad κ) (kD κ) (kca κ) C.ado p1 0 1  σ _ hp) rfl (by decide) rfl (Nat.le_of_ble_eq_true rfl) (dX8_restore_p0 3 rfl) (fun r2 s1 hp => ?_)
  refine x_if_ne (tgt := 12) C (dX8_restore_p0 4 rfl) (by decide) (fun hc => ?_) (fun hc => ?_)
  · have hp := hp.2 hc
    refine x_aload_n 0 C rfl (dX8_restore_p0 7 rfl) ?_
    refine gX8_10 (b := 213) C rfl (by decide) rfl tw_758 (dX8_restore_p0 8 rfl) ?_
    refine x_iload_n 1 C rfl (dX8_restore_p0 9 rfl) ?_
    obtain ⟨h3, hp⟩ := hp
    refine x_zald C rfl (by decide) h3 (dX8_restore_p0 10 rfl) ?_
    refine x_if_ne (tgt := 24) C (dX8_restore_p0 11 rfl) (by decide) (fun hc => ?_) (fun hc => ?_)
    · have hp := hp.2 hc
      refine x_iconst (v := 0) C (by decide) (dX8_restore_p0 14 rfl) ?_
      refine x_istore_n (loc' := [(2, .int 0), (0, .ref (kad κ 204)), (1, .int p1)]) C rfl (by decide) rfl (dX8_restore_p0 15 rfl) ?_
      refine x_loc (loc' := [(0, .ref (kad κ 204)), (1, .int p1), (2, .int 0)]) [1, 2, 0] rfl ?_
      exact LpE_GG (S := (Int32 × St)) (F := fun c s => F_X8_restore_26 K  c p1 s.1 s.2) (W := fun s => GG κ 26 [(0, .ref (kad κ 204)), (1, .int p1), (2, .int s.1)] [] s.2) (fun c s hcc hp => F_X8_restore_26_w C hret p1 s.1  s.2  (fun u2 σ h => hcc (u2, σ) h) hp) hp
    · have hp := hp.1 hc
      refine x_ldc C tw_893 (dX8_restore_p0 12 rfl) ?_
      exact hret _ _ _ _ (dX8_restore_p0 13 rfl) (nar_i _) hp
  · have hp := hp.1 hc
    refine x_ldc C tw_910 (dX8_restore_p0 5 rfl) ?_
    exact hret _ _ _ _ (dX8_restore_p0 6 rfl) (nar_i _) hp)
def P_X8_riskHead (p1 : Int32) (p2 : Int32) (σ : St) (K : Int32 → St → Prop) : Prop := P_X8_isWord p1 p2 σ (fun r2 s1 => (r2 = 0 → (K (-1000001) s1)) ∧ (¬ (r2 = 0) → P_X8_looks p1 s1 (fun s3 => ((s3.2.1 204 25) = 0 → (K (-1000004) s3)) ∧ (¬ ((s3.2.1 204 25) = 0) → P_X8_looksForRisk p1 s3 (fun s4 => vp_in p2 7 ∧ (K (s4.1 224 (ix p2)) s4))))))
set_option maxHeartbeats 4000000 in
set_option maxRecDepth 100000 in
theorem m_X8_riskHead (l : Launch) (ad : Nat → Nat) (D : va_G) (ca : Nat → ClassId) (had : adOk ad) (p1 : Int32) (p2 : Int32)  (σ : St) (K : Int32 → St → Prop) (hp : P_X8_riskHead p1 p2 σ K) : CtI l ad D ca yX8_riskHead cX8_riskHead 3 .int 6 [.ref (ad 204), .int p1, .int p2] σ K := CtI_of (av := fun ad => [.ref (ad 204), .int p1, .int p2]) (plainFor_of_name (by decide)) had (Nat.le_of_ble_eq_true rfl) (fun κ C hret => by
  have C : Ok κ RX8 cX8_riskHead 3 6 := C
  show GG κ 0 [(0, .ref (kad κ 204)), (1, .int p1), (2, .int p2)] [] σ
  unfold P_X8_riskHead at hp
  refine x_aload_n 0 C rfl (dX8_riskHead_p0 0 rfl) ?_
  refine x_iload_n 1 C rfl (dX8_riskHead_p0 1 rfl) ?_
  refine x_iload_n 2 C rfl (dX8_riskHead_p0 2 rfl) ?_
  refine x_cvI (As := [.int p1, .int p2]) (st := []) C LRX8_102 (ci := 8) rfl rfl (by decide) (by decide) (m_X8_isWord (kL κ) (kad κ) (kD κ) (kca κ) C.ado p1 p2  σ _ hp) rfl (by decide) rfl (Nat.le_of_ble_eq_true rfl) (dX8_riskHead_p0 3 rfl) (fun r2 s1 hp => ?_)
  refine x_if_ne (tgt := 12) C (dX8_riskHead_p0 4 rfl) (by decide) (fun hc => ?_) (fun hc => ?_)
  · have hp := hp.2 hc
    refine x_aload_n 0 C rfl (dX8_riskHead_p0 7 rfl) ?_
    refine x_iload_n 1 C rfl (dX8_riskHead_p0 8 rfl) ?_
    refine x_cvV (As := [.int p1]) (st := []) C LRX8_226 (ci := 8) rfl rfl (by decide) (by decide) (m_X8_looks (kL κ) (kad κ) (kD κ) (kca κ) C.ado p1  s1 _ hp) rfl (by decide) rfl (Nat.le_of_ble_eq_true rfl) (dX8_riskHead_p0 9 rfl) (fun s3 hp => ?_)
    refine x_aload_n 0 C rfl (dX8_riskHead_p0 10 rfl) ?_
    refine gX8_25 C rfl (by decide) tw_773 (dX8_riskHead_p0 11 rfl) ?_
    refine x_lconst (v := 0) C (by decide) (dX8_riskHead_p0 12 rfl) ?_
    refine x_lcmp C (dX8_riskHead_p0 13 rfl) ?_
    refine x_if_ne (tgt := 29) C (dX8_riskHead_p0 14 rfl) (by decide) (fun hc => ?_) (fun hc => ?_)
    · have hp := hp.2 (fun q => hc (lgc_eq.mpr q))
      refine x_aload_n 0 C rfl (dX8_riskHead_p0 17 rfl) ?_
      refine x_iload_n 1 C rfl (dX8_riskHead_p0 18 rfl) ?_
      refine x_cvV (As := [.int p1]) (st := []) C LRX8_236 (ci := 8) rfl rfl (by decide) (by decide) (m_X8_looksForRisk (kL κ) (kad κ) (kD κ) (kca κ) C.ado p1  s3 _ hp) rfl (by decide) rfl (Nat.le_of_ble_eq_true rfl) (dX8_riskHead_p0 19 rfl) (fun s4 hp => ?_)
      refine x_aload_n 0 C rfl (dX8_riskHead_p0 20 rfl) ?_
      refine gX8_30 (b := 224) C rfl (by decide) rfl tw_778 (dX8_riskHead_p0 21 rfl) ?_
      refine x_iload_n 2 C rfl (dX8_riskHead_p0 22 rfl) ?_
      obtain ⟨h5, hp⟩ := hp
      refine x_iald C rfl (by decide) h5 (dX8_riskHead_p0 23 rfl) ?_
      exact hret _ _ _ _ (dX8_riskHead_p0 24 rfl) (nar_i _) hp
    · have hp := hp.1 (lgc_eq.mp hc)
      refine x_ldc C tw_893 (dX8_riskHead_p0 15 rfl) ?_
      exact hret _ _ _ _ (dX8_riskHead_p0 16 rfl) (nar_i _) hp
  · have hp := hp.1 hc
    refine x_ldc C tw_910 (dX8_riskHead_p0 5 rfl) ?_
    exact hret _ _ _ _ (dX8_riskHead_p0 6 rfl) (nar_i _) hp)
def F_X8_save_14 (K : Int32 → St → Prop) (c14 : (Int32 × St) → Prop) (u1 : Int32) (u2 : Int32) (σ : St) : Prop := (84 ≤ u2 → (vp_in u1 2 ∧ ∀ s4 : St, s4 = wI σ 213 (ix u1) 1 → P_X8_used  s4 (fun r6 s5 => K r6 s5))) ∧ (¬ (84 ≤ u2) → vp_in u2 84 ∧ (vp_in ((84 * u1) + u2) 168 ∧ ∀ s9 : St, s9 = wI σ 212 (ix ((84 * u1) + u2)) (σ.1 211 (ix u2)) → ∀ v10 : Int32, v10 = u2 + 1 → c14 (v10, s9)))
set_option maxHeartbeats 4000000 in
set_option maxRecDepth 100000 in
theorem F_X8_save_14_w {κ : Kap} {K : Int32 → St → Prop} {c14 : (Int32 × St) → Prop} (C : Ok κ RX8 cX8_save 3 1) (hret : RetI κ cX8_save .int K) (u1 : Int32) (u2 : Int32)    (σ : St) (hc14 : ∀ (u2 : Int32) (σ : St), c14 (u2, σ) → GG κ 14 [(0, .ref (kad κ 204)), (1, .int u1), (2, .int u2)] [] σ) (hp : F_X8_save_14 K c14 u1 u2 σ) : GG κ 14 [(0, .ref (kad κ 204)), (1, .int u1), (2, .int u2)] [] σ := by
  unfold F_X8_save_14 at hp
  refine x_iload_n 2 C rfl (dX8_save_p0 9 rfl) ?_
  refine x_bipush (v := 84) C (by decide) (dX8_save_p0 10 rfl) ?_
  refine x_icmp_ge (tgt := 43) C (dX8_save_p0 11 rfl) (by decide) (fun hc => ?_) (fun hc => ?_)
  · have hp := hp.1 hc
    refine x_aload_n 0 C rfl (dX8_save_p0 26 rfl) ?_
    refine gX8_10 (b := 213) C rfl (by decide) rfl tw_758 (dX8_save_p0 27 rfl) ?_
    refine x_iload_n 1 C rfl (dX8_save_p0 28 rfl) ?_
    refine x_iconst (v := 1) C (by decide) (dX8_save_p0 29 rfl) ?_
    obtain ⟨h3, hp⟩ := hp
    refine x_zast C rfl (by decide) h3 isB1 (dX8_save_p0 30 rfl) ?_
    refine x_nmS (fun s4 es4 => ?_)
    have hp := hp s4 es4
    refine x_aload_n 0 C rfl (dX8_save_p0 31 rfl) ?_
    refine x_cvI (As := []) (st := []) C LRX8_275 (ci := 8) rfl rfl (by decide) (by decide) (m_X8_used (kL κ) (kad κ) (kD κ) (kca κ) C.ado   s4 _ hp) rfl (by decide) rfl (Nat.le_of_ble_eq_true rfl) (dX8_save_p0 32 rfl) (fun r6 s5 hp => ?_)
    exact hret _ _ _ _ (dX8_save_p0 33 rfl) (nar_i _) hp
  · have hp := hp.2 hc
    refine x_aload_n 0 C rfl (dX8_save_p0 12 rfl) ?_
    refine gX8_9 (b := 212) C rfl (by decide) rfl tw_757 (dX8_save_p0 13 rfl) ?_
    refine x_bipush (v := 84) C (by decide) (dX8_save_p0 14 rfl) ?_
    refine x_iload_n 1 C rfl (dX8_save_p0 15 rfl) ?_
    refine x_imul C (dX8_save_p0 16 rfl) ?_
    refine x_iload_n 2 C rfl (dX8_save_p0 17 rfl) ?_
    refine x_iadd C (dX8_save_p0 18 rfl) ?_
    refine x_aload_n 0 C rfl (dX8_save_p0 19 rfl) ?_
    refine gX8_8 (b := 211) C rfl (by decide) rfl tw_756 (dX8_save_p0 20 rfl) ?_
    refine x_iload_n 2 C rfl (dX8_save_p0 21 rfl) ?_
    obtain ⟨h7, hp⟩ := hp
    refine x_iald C rfl (by decide) h7 (dX8_save_p0 22 rfl) ?_
    obtain ⟨h8, hp⟩ := hp
    refine x_iast C rfl (by decide) h8 (dX8_save_p0 23 rfl) ?_
    refine x_nmS (fun s9 es9 => ?_)
    have hp := hp s9 es9
    obtain ⟨v10, ev10⟩ : ∃ z : Int32, z = u2 + 1 := ⟨_, rfl⟩
    have hp := hp v10 ev10
    refine x_iinc (v := v10) (loc' := [(2, .int v10), (0, .ref (kad κ 204)), (1, .int u1)]) 2 C rfl (by rw [ev10]; rfl) (by decide) rfl (dX8_save_p0 24 rfl) ?_
    refine x_goto (tgt := 14) C (dX8_save_p0 25 rfl) (by decide) ?_
    refine x_loc (loc' := [(0, .ref (kad κ 204)), (1, .int u1), (2, .int v10)]) [1, 2, 0] rfl ?_
    exact hc14 v10 s9 hp
def P_X8_save (p1 : Int32) (σ : St) (K : Int32 → St → Prop) : Prop := P_X8_in p1 0 1 σ (fun r2 s1 => (r2 = 0 → (K (-1000001) s1)) ∧ (¬ (r2 = 0) → (LpE (fun c s => F_X8_save_14 K  c p1 s.1 s.2) (0, s1))))
set_option maxHeartbeats 4000000 in
set_option maxRecDepth 100000 in
theorem m_X8_save (l : Launch) (ad : Nat → Nat) (D : va_G) (ca : Nat → ClassId) (had : adOk ad) (p1 : Int32)  (σ : St) (K : Int32 → St → Prop) (hp : P_X8_save p1 σ K) : CtI l ad D ca yX8_save cX8_save 3 .int 1 [.ref (ad 204), .int p1] σ K := CtI_of (av := fun ad => [.ref (ad 204), .int p1]) (plainFor_of_name (by decide)) had (Nat.le_of_ble_eq_true rfl) (fun κ C hret => by
  have C : Ok κ RX8 cX8_save 3 1 := C
  show GG κ 0 [(0, .ref (kad κ 204)), (1, .int p1)] [] σ
  unfold P_X8_save at hp
  refine x_iload_n 1 C rfl (dX8_save_p0 0 rfl) ?_
  refine x_iconst (v := 0) C (by decide) (dX8_save_p0 1 rfl) ?_
  refine x_iconst (v := 1) C (by decide) (dX8_save_p0 2 rfl) ?_
  refine x_csI (As := [.int p1, .int 0, .int 1]) (st := []) C LRX8_94 (m_X8_in (kL κ) (kad κ) (kD κ) (kca κ) C.ado p1 0 1  σ _ hp) rfl (by decide) rfl (Nat.le_of_ble_eq_true rfl) (dX8_save_p0 3 rfl) (fun r2 s1 hp => ?_)
  refine x_if_ne (tgt := 12) C (dX8_save_p0 4 rfl) (by decide) (fun hc => ?_) (fun hc => ?_)
  · have hp := hp.2 hc
    refine x_iconst (v := 0) C (by decide) (dX8_save_p0 7 rfl) ?_
    refine x_istore_n (loc' := [(2, .int 0), (0, .ref (kad κ 204)), (1, .int p1)]) C rfl (by decide) rfl (dX8_save_p0 8 rfl) ?_
    refine x_loc (loc' := [(0, .ref (kad κ 204)), (1, .int p1), (2, .int 0)]) [1, 2, 0] rfl ?_
    exact LpE_GG (S := (Int32 × St)) (F := fun c s => F_X8_save_14 K  c p1 s.1 s.2) (W := fun s => GG κ 14 [(0, .ref (kad κ 204)), (1, .int p1), (2, .int s.1)] [] s.2) (fun c s hcc hp => F_X8_save_14_w C hret p1 s.1  s.2  (fun u2 σ h => hcc (u2, σ) h) hp) hp
  · have hp := hp.1 hc
    refine x_ldc C tw_910 (dX8_save_p0 5 rfl) ?_
    exact hret _ _ _ _ (dX8_save_p0 6 rfl) (nar_i _) hp)
def P_X8_score (p1 : Int32) (p2 : Int32) (p3 : Int32) (σ : St) (K : Int32 → St → Prop) : Prop := P_X8_isArc p1 p2 p3 σ (fun r2 s1 => (r2 = 0 → (K (-1000001) s1)) ∧ (¬ (r2 = 0) → P_X8_scoreOf p1 p2 p3 s1 (fun r4 s3 => K r4 s3)))
set_option maxHeartbeats 4000000 in
set_option maxRecDepth 100000 in
theorem m_X8_score (l : Launch) (ad : Nat → Nat) (D : va_G) (ca : Nat → ClassId) (had : adOk ad) (p1 : Int32) (p2 : Int32) (p3 : Int32)  (σ : St) (K : Int32 → St → Prop) (hp : P_X8_score p1 p2 p3 σ K) : CtI l ad D ca yX8_score cX8_score 4 .int 4 [.ref (ad 204), .int p1, .int p2, .int p3] σ K := CtI_of (av := fun ad => [.ref (ad 204), .int p1, .int p2, .int p3]) (plainFor_of_name (by decide)) had (Nat.le_of_ble_eq_true rfl) (fun κ C hret => by
  have C : Ok κ RX8 cX8_score 4 4 := C
  show GG κ 0 [(0, .ref (kad κ 204)), (1, .int p1), (2, .int p2), (3, .int p3)] [] σ
  unfold P_X8_score at hp
  refine x_aload_n 0 C rfl (dX8_score_p0 0 rfl) ?_
  refine x_iload_n 1 C rfl (dX8_score_p0 1 rfl) ?_
  refine x_iload_n 2 C rfl (dX8_score_p0 2 rfl) ?_
  refine x_iload_n 3 C rfl (dX8_score_p0 3 rfl) ?_
  refine x_cvI (As := [.int p1, .int p2, .int p3]) (st := []) C LRX8_129 (ci := 8) rfl rfl (by decide) (by decide) (m_X8_isArc (kL κ) (kad κ) (kD κ) (kca κ) C.ado p1 p2 p3  σ _ hp) rfl (by decide) rfl (Nat.le_of_ble_eq_true rfl) (dX8_score_p0 4 rfl) (fun r2 s1 hp => ?_)
  refine x_if_eq (tgt := 20) C (dX8_score_p0 5 rfl) (by decide) (fun hc => ?_) (fun hc => ?_)
  · have hp := hp.1 hc
    refine x_ldc C tw_910 (dX8_score_p0 12 rfl) ?_
    exact hret _ _ _ _ (dX8_score_p0 13 rfl) (nar_i _) hp
  · have hp := hp.2 hc
    refine x_aload_n 0 C rfl (dX8_score_p0 6 rfl) ?_
    refine x_iload_n 1 C rfl (dX8_score_p0 7 rfl) ?_
    refine x_iload_n 2 C rfl (dX8_score_p0 8 rfl) ?_
    refine x_iload_n 3 C rfl (dX8_score_p0 9 rfl) ?_
    refine x_cvI (As := [.int p1, .int p2, .int p3]) (st := []) C LRX8_167 (ci := 8) rfl rfl (by decide) (by decide) (m_X8_scoreOf (kL κ) (kad κ) (kD κ) (kca κ) C.ado p1 p2 p3  s1 _ hp) rfl (by decide) rfl (Nat.le_of_ble_eq_true rfl) (dX8_score_p0 10 rfl) (fun r4 s3 hp => ?_)
    refine x_goto (tgt := 22) C (dX8_score_p0 11 rfl) (by decide) ?_
    exact hret _ _ _ _ (dX8_score_p0 13 rfl) (nar_i _) hp)
def P_X8_sentences  (σ : St) (K : Int32 → St → Prop) : Prop := K (σ.1 204 2) σ
set_option maxHeartbeats 4000000 in
set_option maxRecDepth 100000 in
theorem m_X8_sentences (l : Launch) (ad : Nat → Nat) (D : va_G) (ca : Nat → ClassId) (had : adOk ad)   (σ : St) (K : Int32 → St → Prop) (hp : P_X8_sentences  σ K) : CtI l ad D ca yX8_sentences cX8_sentences 1 .int 0 [.ref (ad 204)] σ K := CtI_of (av := fun ad => [.ref (ad 204)]) (plainFor_of_name (by decide)) had (Nat.le_of_ble_eq_true rfl) (fun κ C hret => by
  have C : Ok κ RX8 cX8_sentences 1 0 := C
  show GG κ 0 [(0, .ref (kad κ 204))] [] σ
  unfold P_X8_sentences at hp
  refine x_aload_n 0 C rfl (dX8_sentences_p0 0 rfl) ?_
  refine gX8_2 C rfl (by decide) tw_750 (dX8_sentences_p0 1 rfl) ?_
  exact hret _ _ _ _ (dX8_sentences_p0 2 rfl) (nar_i _) hp)
def P_X8_setBias (p1 : Int32) (p2 : Int32) (p3 : Int32) (p4 : Int32) (σ : St) (K : Int32 → St → Prop) : Prop := P_X8_isArc p1 p2 p3 σ (fun r2 s1 => (r2 = 0 → (K (-1000001) s1)) ∧ (¬ (r2 = 0) → (P_X8_in p4 (-99) 99 s1 (fun r4 s3 => (r4 = 0 → (K (-1000002) s3)) ∧ (¬ (r4 = 0) → P_X8_arc p1 p2 p3 s3 (fun r6 s5 => vp_in r6 196 ∧ (∀ v8 : Int32, v8 = (s5.1 209 (ix r6)) → (vp_in r6 196 ∧ ∀ s10 : St, s10 = wI s5 209 (ix r6) p4 → (K v8 s10)))))))))
set_option maxHeartbeats 4000000 in
set_option maxRecDepth 100000 in
theorem m_X8_setBias (l : Launch) (ad : Nat → Nat) (D : va_G) (ca : Nat → ClassId) (had : adOk ad) (p1 : Int32) (p2 : Int32) (p3 : Int32) (p4 : Int32)  (σ : St) (K : Int32 → St → Prop) (hp : P_X8_setBias p1 p2 p3 p4 σ K) : CtI l ad D ca yX8_setBias cX8_setBias 7 .int 4 [.ref (ad 204), .int p1, .int p2, .int p3, .int p4] σ K := CtI_of (av := fun ad => [.ref (ad 204), .int p1, .int p2, .int p3, .int p4]) (plainFor_of_name (by decide)) had (Nat.le_of_ble_eq_true rfl) (fun κ C hret => by
  have C : Ok κ RX8 cX8_setBias 7 4 := C
  show GG κ 0 [(0, .ref (kad κ 204)), (1, .int p1), (2, .int p2), (3, .int p3), (4, .int p4)] [] σ
  unfold P_X8_setBias at hp
  refine x_aload_n 0 C rfl (dX8_setBias_p0 0 rfl) ?_
  refine x_iload_n 1 C rfl (dX8_setBias_p0 1 rfl) ?_
  refine x_iload_n 2 C rfl (dX8_setBias_p0 2 rfl) ?_
  refine x_iload_n 3 C rfl (dX8_setBias_p0 3 rfl) ?_
  refine x_cvI (As := [.int p1, .int p2, .int p3]) (st := []) C LRX8_129 (ci := 8) rfl rfl (by decide) (by decide) (m_X8_isArc (kL κ) (kad κ) (kD κ) (kca κ) C.ado p1 p2 p3  σ _ hp) rfl (by decide) rfl (Nat.le_of_ble_eq_true rfl) (dX8_setBias_p0 4 rfl) (fun r2 s1 hp => ?_)
  refine x_if_ne (tgt := 13) C (dX8_setBias_p0 5 rfl) (by decide) (fun hc => ?_) (fun hc => ?_)
  · have hp := hp.2 hc
    refine x_iload 4 C rfl (dX8_setBias_p0 8 rfl) ?_
    refine x_bipush (v := -99) C (by decide) (dX8_setBias_p0 9 rfl) ?_
    refine x_bipush (v := 99) C (by decide) (dX8_setBias_p0 10 rfl) ?_
    refine x_csI (As := [.int p4, .int (-99), .int 99]) (st := []) C LRX8_94 (m_X8_in (kL κ) (kad κ) (kD κ) (kca κ) C.ado p4 (-99) 99  s1 _ hp) rfl (by decide) rfl (Nat.le_of_ble_eq_true rfl) (dX8_setBias_p0 11 rfl) (fun r4 s3 hp => ?_)
    refine x_if_ne (tgt := 28) C (dX8_setBias_p0 12 rfl) (by decide) (fun hc => ?_) (fun hc => ?_)
    · have hp := hp.2 hc
      refine x_iload_n 1 C rfl (dX8_setBias_p0 15 rfl) ?_
      refine x_iload_n 2 C rfl (dX8_setBias_p0 16 rfl) ?_
      refine x_iload_n 3 C rfl (dX8_setBias_p0 17 rfl) ?_
      refine x_csI (As := [.int p1, .int p2, .int p3]) (st := []) C LRX8_147 (m_X8_arc (kL κ) (kad κ) (kD κ) (kca κ) C.ado p1 p2 p3  s3 _ hp) rfl (by decide) rfl (Nat.le_of_ble_eq_true rfl) (dX8_setBias_p0 18 rfl) (fun r6 s5 hp => ?_)
      refine x_istore (loc' := [(5, .int r6), (0, .ref (kad κ 204)), (1, .int p1), (2, .int p2), (3, .int p3), (4, .int p4)]) C (by decide) rfl (dX8_setBias_p0 19 rfl) ?_
      refine x_aload_n 1 C rfl (dX8_setBias_p0 20 rfl) ?_
      refine gX8_6 (b := 209) C rfl (by decide) rfl tw_754 (dX8_setBias_p0 21 rfl) ?_
      refine x_iload 0 C rfl (dX8_setBias_p0 22 rfl) ?_
      obtain ⟨h7, hp⟩ := hp
      refine x_iald C rfl (by decide) h7 (dX8_setBias_p0 23 rfl) ?_
      refine x_topI (fun v8 ev8 => ?_)
      have hp := hp v8 ev8
      refine x_istore (loc' := [(6, .int v8), (5, .int r6), (0, .ref (kad κ 204)), (1, .int p1), (2, .int p2), (3, .int p3), (4, .int p4)]) C (by decide) rfl (dX8_setBias_p0 24 rfl) ?_
      refine x_aload_n 2 C rfl (dX8_setBias_p0 25 rfl) ?_
      refine gX8_6 (b := 209) C rfl (by decide) rfl tw_754 (dX8_setBias_p0 26 rfl) ?_
      refine x_iload 1 C rfl (dX8_setBias_p0 27 rfl) ?_
      refine x_iload 6 C rfl (dX8_setBias_p0 28 rfl) ?_
      obtain ⟨h9, hp⟩ := hp
      refine x_iast C rfl (by decide) h9 (dX8_setBias_p0 29 rfl) ?_
      refine x_nmS (fun s10 es10 => ?_)
      have hp := hp s10 es10
      refine x_iload 0 C rfl (dX8_setBias_p0 30 rfl) ?_
      exact hret _ _ _ _ (dX8_setBias_p0 31 rfl) (nar_i _) hp
    · have hp := hp.1 hc
      refine x_ldc C tw_876 (dX8_setBias_p0 13 rfl) ?_
      exact hret _ _ _ _ (dX8_setBias_p0 14 rfl) (nar_i _) hp
  · have hp := hp.1 hc
    refine x_ldc C tw_910 (dX8_setBias_p0 6 rfl) ?_
    exact hret _ _ _ _ (dX8_setBias_p0 7 rfl) (nar_i _) hp)
def P_X8_sets (p1 : Int32) (p2 : Int32) (σ : St) (K : Int32 → St → Prop) : Prop := P_X8_in p2 (-99) 99 σ (fun r2 s1 => (r2 = 0 → (K (-1000002) s1)) ∧ (¬ (r2 = 0) → vp_in p1 84 ∧ (∀ v4 : Int32, v4 = (s1.1 211 (ix p1)) → (vp_in p1 84 ∧ ∀ s6 : St, s6 = wI s1 211 (ix p1) p2 → (K v4 s6)))))
set_option maxHeartbeats 4000000 in
set_option maxRecDepth 100000 in
theorem m_X8_sets (l : Launch) (ad : Nat → Nat) (D : va_G) (ca : Nat → ClassId) (had : adOk ad) (p1 : Int32) (p2 : Int32)  (σ : St) (K : Int32 → St → Prop) (hp : P_X8_sets p1 p2 σ K) : CtI l ad D ca yX8_sets cX8_sets 4 .int 1 [.ref (ad 204), .int p1, .int p2] σ K := CtI_of (av := fun ad => [.ref (ad 204), .int p1, .int p2]) (plainFor_of_name (by decide)) had (Nat.le_of_ble_eq_true rfl) (fun κ C hret => by
  have C : Ok κ RX8 cX8_sets 4 1 := C
  show GG κ 0 [(0, .ref (kad κ 204)), (1, .int p1), (2, .int p2)] [] σ
  unfold P_X8_sets at hp
  refine x_iload_n 2 C rfl (dX8_sets_p0 0 rfl) ?_
  refine x_bipush (v := -99) C (by decide) (dX8_sets_p0 1 rfl) ?_
  refine x_bipush (v := 99) C (by decide) (dX8_sets_p0 2 rfl) ?_
  refine x_csI (As := [.int p2, .int (-99), .int 99]) (st := []) C LRX8_94 (m_X8_in (kL κ) (kad κ) (kD κ) (kca κ) C.ado p2 (-99) 99  σ _ hp) rfl (by decide) rfl (Nat.le_of_ble_eq_true rfl) (dX8_sets_p0 3 rfl) (fun r2 s1 hp => ?_)
  refine x_if_ne (tgt := 14) C (dX8_sets_p0 4 rfl) (by decide) (fun hc => ?_) (fun hc => ?_)
  · have hp := hp.2 hc
    refine x_aload_n 0 C rfl (dX8_sets_p0 7 rfl) ?_
    refine gX8_8 (b := 211) C rfl (by decide) rfl tw_756 (dX8_sets_p0 8 rfl) ?_
    refine x_iload_n 1 C rfl (dX8_sets_p0 9 rfl) ?_
    obtain ⟨h3, hp⟩ := hp
    refine x_iald C rfl (by decide) h3 (dX8_sets_p0 10 rfl) ?_
    refine x_topI (fun v4 ev4 => ?_)
    have hp := hp v4 ev4
    refine x_istore_n (loc' := [(3, .int v4), (0, .ref (kad κ 204)), (1, .int p1), (2, .int p2)]) C rfl (by decide) rfl (dX8_sets_p0 11 rfl) ?_
    refine x_aload_n 1 C rfl (dX8_sets_p0 12 rfl) ?_
    refine gX8_8 (b := 211) C rfl (by decide) rfl tw_756 (dX8_sets_p0 13 rfl) ?_
    refine x_iload_n 2 C rfl (dX8_sets_p0 14 rfl) ?_
    refine x_iload_n 3 C rfl (dX8_sets_p0 15 rfl) ?_
    obtain ⟨h5, hp⟩ := hp
    refine x_iast C rfl (by decide) h5 (dX8_sets_p0 16 rfl) ?_
    refine x_nmS (fun s6 es6 => ?_)
    have hp := hp s6 es6
    refine x_iload_n 0 C rfl (dX8_sets_p0 17 rfl) ?_
    exact hret _ _ _ _ (dX8_sets_p0 18 rfl) (nar_i _) hp
  · have hp := hp.1 hc
    refine x_ldc C tw_876 (dX8_sets_p0 5 rfl) ?_
    exact hret _ _ _ _ (dX8_sets_p0 6 rfl) (nar_i _) hp)
def P_X8_setDistanceWeight (p1 : Int32) (p2 : Int32) (p3 : Int32) (σ : St) (K : Int32 → St → Prop) : Prop := P_X8_isDistance p1 p2 σ (fun r2 s1 => (r2 = 0 → (K (-1000001) s1)) ∧ (¬ (r2 = 0) → P_X8_distancePlace p1 p2 s1 (fun r4 s3 => P_X8_sets r4 p3 s3 (fun r6 s5 => K r6 s5))))
set_option maxHeartbeats 4000000 in
set_option maxRecDepth 100000 in
theorem m_X8_setDistanceWeight (l : Launch) (ad : Nat → Nat) (D : va_G) (ca : Nat → ClassId) (had : adOk ad) (p1 : Int32) (p2 : Int32) (p3 : Int32)  (σ : St) (K : Int32 → St → Prop) (hp : P_X8_setDistanceWeight p1 p2 p3 σ K) : CtI l ad D ca yX8_setDistanceWeight cX8_setDistanceWeight 4 .int 2 [.ref (ad 204), .int p1, .int p2, .int p3] σ K := CtI_of (av := fun ad => [.ref (ad 204), .int p1, .int p2, .int p3]) (plainFor_of_name (by decide)) had (Nat.le_of_ble_eq_true rfl) (fun κ C hret => by
  have C : Ok κ RX8 cX8_setDistanceWeight 4 2 := C
  show GG κ 0 [(0, .ref (kad κ 204)), (1, .int p1), (2, .int p2), (3, .int p3)] [] σ
  unfold P_X8_setDistanceWeight at hp
  refine x_iload_n 1 C rfl (dX8_setDistanceWeight_p0 0 rfl) ?_
  refine x_iload_n 2 C rfl (dX8_setDistanceWeight_p0 1 rfl) ?_
  refine x_csI (As := [.int p1, .int p2]) (st := []) C LRX8_141 (m_X8_isDistance (kL κ) (kad κ) (kD κ) (kca κ) C.ado p1 p2  σ _ hp) rfl (by decide) rfl (Nat.le_of_ble_eq_true rfl) (dX8_setDistanceWeight_p0 2 rfl) (fun r2 s1 hp => ?_)
  refine x_if_eq (tgt := 21) C (dX8_setDistanceWeight_p0 3 rfl) (by decide) (fun hc => ?_) (fun hc => ?_)
  · have hp := hp.1 hc
    refine x_ldc C tw_910 (dX8_setDistanceWeight_p0 11 rfl) ?_
    exact hret _ _ _ _ (dX8_setDistanceWeight_p0 12 rfl) (nar_i _) hp
  · have hp := hp.2 hc
    refine x_aload_n 0 C rfl (dX8_setDistanceWeight_p0 4 rfl) ?_
    refine x_iload_n 1 C rfl (dX8_setDistanceWeight_p0 5 rfl) ?_
    refine x_iload_n 2 C rfl (dX8_setDistanceWeight_p0 6 rfl) ?_
    refine x_csI (As := [.int p1, .int p2]) (st := [.ref (kad κ 204)]) C LRX8_144 (m_X8_distancePlace (kL κ) (kad κ) (kD κ) (kca κ) C.ado p1 p2  s1 _ hp) rfl (by decide) rfl (Nat.le_of_ble_eq_true rfl) (dX8_setDistanceWeight_p0 7 rfl) (fun r4 s3 hp => ?_)
    refine x_iload_n 3 C rfl (dX8_setDistanceWeight_p0 8 rfl) ?_
    refine x_cvI (As := [.int r4, .int p3]) (st := []) C LRX8_138 (ci := 8) rfl rfl (by decide) (by decide) (m_X8_sets (kL κ) (kad κ) (kD κ) (kca κ) C.ado r4 p3  s3 _ hp) rfl (by decide) rfl (Nat.le_of_ble_eq_true rfl) (dX8_setDistanceWeight_p0 9 rfl) (fun r6 s5 hp => ?_)
    refine x_goto (tgt := 23) C (dX8_setDistanceWeight_p0 10 rfl) (by decide) ?_
    exact hret _ _ _ _ (dX8_setDistanceWeight_p0 12 rfl) (nar_i _) hp)
def P_X8_setProjective (p1 : Int32) (σ : St) (K : Int32 → St → Prop) : Prop := ((σ.1 204 12) = 0 → isB p1 ∧ ∀ s2 : St, s2 = wI σ 204 12 p1 → (K 0 s2)) ∧ (¬ ((σ.1 204 12) = 0) → isB p1 ∧ ∀ s4 : St, s4 = wI σ 204 12 p1 → (K 1 s4))
set_option maxHeartbeats 4000000 in
set_option maxRecDepth 100000 in
theorem m_X8_setProjective (l : Launch) (ad : Nat → Nat) (D : va_G) (ca : Nat → ClassId) (had : adOk ad) (p1 : Int32)  (σ : St) (K : Int32 → St → Prop) (hp : P_X8_setProjective p1 σ K) : CtI l ad D ca yX8_setProjective cX8_setProjective 3 .int 0 [.ref (ad 204), .int p1] σ K := CtI_of (av := fun ad => [.ref (ad 204), .int p1]) (plainFor_of_name (by decide)) had (Nat.le_of_ble_eq_true rfl) (fun κ C hret => by
  have C : Ok κ RX8 cX8_setProjective 3 0 := C
  show GG κ 0 [(0, .ref (kad κ 204)), (1, .int p1)] [] σ
  unfold P_X8_setProjective at hp
  refine x_aload_n 0 C rfl (dX8_setProjective_p0 0 rfl) ?_
  refine gX8_12 C rfl (by decide) tw_760 (dX8_setProjective_p0 1 rfl) ?_
  refine x_if_eq (tgt := 11) C (dX8_setProjective_p0 2 rfl) (by decide) (fun hc => ?_) (fun hc => ?_)
  · have hp := hp.1 hc
    refine x_iconst (v := 0) C (by decide) (dX8_setProjective_p0 5 rfl) ?_
    refine x_istore_n (loc' := [(2, .int 0), (0, .ref (kad κ 204)), (1, .int p1)]) C rfl (by decide) rfl (dX8_setProjective_p0 6 rfl) ?_
    refine x_aload_n 1 C rfl (dX8_setProjective_p0 7 rfl) ?_
    refine x_iload_n 2 C rfl (dX8_setProjective_p0 8 rfl) ?_
    obtain ⟨h1, hp⟩ := hp
    refine qX8_12 C rfl (by decide) h1 tw_760 (dX8_setProjective_p0 9 rfl) ?_
    refine x_nmS (fun s2 es2 => ?_)
    have hp := hp s2 es2
    refine x_iload_n 0 C rfl (dX8_setProjective_p0 10 rfl) ?_
    exact hret _ _ _ _ (dX8_setProjective_p0 11 rfl) (nar_i _) hp
  · have hp := hp.2 hc
    refine x_iconst (v := 1) C (by decide) (dX8_setProjective_p0 3 rfl) ?_
    refine x_goto (tgt := 12) C (dX8_setProjective_p0 4 rfl) (by decide) ?_
    refine x_istore_n (loc' := [(2, .int 1), (0, .ref (kad κ 204)), (1, .int p1)]) C rfl (by decide) rfl (dX8_setProjective_p0 6 rfl) ?_
    refine x_aload_n 1 C rfl (dX8_setProjective_p0 7 rfl) ?_
    refine x_iload_n 2 C rfl (dX8_setProjective_p0 8 rfl) ?_
    obtain ⟨h3, hp⟩ := hp
    refine qX8_12 C rfl (by decide) h3 tw_760 (dX8_setProjective_p0 9 rfl) ?_
    refine x_nmS (fun s4 es4 => ?_)
    have hp := hp s4 es4
    refine x_iload_n 0 C rfl (dX8_setProjective_p0 10 rfl) ?_
    exact hret _ _ _ _ (dX8_setProjective_p0 11 rfl) (nar_i _) hp)
def P_X8_setShift (p1 : Int32) (σ : St) (K : Int32 → St → Prop) : Prop := P_X8_in p1 (-100) 100 σ (fun r2 s1 => (r2 = 0 → (K (-1000002) s1)) ∧ (¬ (r2 = 0) → (∀ v3 : Int32, v3 = (s1.1 204 13) → ∀ s4 : St, s4 = wI s1 204 13 p1 → (K v3 s4))))
set_option maxHeartbeats 4000000 in
set_option maxRecDepth 100000 in
theorem m_X8_setShift (l : Launch) (ad : Nat → Nat) (D : va_G) (ca : Nat → ClassId) (had : adOk ad) (p1 : Int32)  (σ : St) (K : Int32 → St → Prop) (hp : P_X8_setShift p1 σ K) : CtI l ad D ca yX8_setShift cX8_setShift 3 .int 1 [.ref (ad 204), .int p1] σ K := CtI_of (av := fun ad => [.ref (ad 204), .int p1]) (plainFor_of_name (by decide)) had (Nat.le_of_ble_eq_true rfl) (fun κ C hret => by
  have C : Ok κ RX8 cX8_setShift 3 1 := C
  show GG κ 0 [(0, .ref (kad κ 204)), (1, .int p1)] [] σ
  unfold P_X8_setShift at hp
  refine x_iload_n 1 C rfl (dX8_setShift_p0 0 rfl) ?_
  refine x_bipush (v := -100) C (by decide) (dX8_setShift_p0 1 rfl) ?_
  refine x_bipush (v := 100) C (by decide) (dX8_setShift_p0 2 rfl) ?_
  refine x_csI (As := [.int p1, .int (-100), .int 100]) (st := []) C LRX8_94 (m_X8_in (kL κ) (kad κ) (kD κ) (kca κ) C.ado p1 (-100) 100  σ _ hp) rfl (by decide) rfl (Nat.le_of_ble_eq_true rfl) (dX8_setShift_p0 3 rfl) (fun r2 s1 hp => ?_)
  refine x_if_ne (tgt := 14) C (dX8_setShift_p0 4 rfl) (by decide) (fun hc => ?_) (fun hc => ?_)
  · have hp := hp.2 hc
    refine x_aload_n 0 C rfl (dX8_setShift_p0 7 rfl) ?_
    refine gX8_13 C rfl (by decide) tw_761 (dX8_setShift_p0 8 rfl) ?_
    refine x_topI (fun v3 ev3 => ?_)
    have hp := hp v3 ev3
    refine x_istore_n (loc' := [(2, .int v3), (0, .ref (kad κ 204)), (1, .int p1)]) C rfl (by decide) rfl (dX8_setShift_p0 9 rfl) ?_
    refine x_aload_n 1 C rfl (dX8_setShift_p0 10 rfl) ?_
    refine x_iload_n 2 C rfl (dX8_setShift_p0 11 rfl) ?_
    refine qX8_13 C rfl (by decide) tw_761 (dX8_setShift_p0 12 rfl) ?_
    refine x_nmS (fun s4 es4 => ?_)
    have hp := hp s4 es4
    refine x_iload_n 0 C rfl (dX8_setShift_p0 13 rfl) ?_
    exact hret _ _ _ _ (dX8_setShift_p0 14 rfl) (nar_i _) hp
  · have hp := hp.1 hc
    refine x_ldc C tw_876 (dX8_setShift_p0 5 rfl) ?_
    exact hret _ _ _ _ (dX8_setShift_p0 6 rfl) (nar_i _) hp)
def P_X8_setSingleRoot (p1 : Int32) (σ : St) (K : Int32 → St → Prop) : Prop := ((σ.1 204 11) = 0 → isB p1 ∧ ∀ s2 : St, s2 = wI σ 204 11 p1 → (K 0 s2)) ∧ (¬ ((σ.1 204 11) = 0) → isB p1 ∧ ∀ s4 : St, s4 = wI σ 204 11 p1 → (K 1 s4))
set_option maxHeartbeats 4000000 in
set_option maxRecDepth 100000 in
theorem m_X8_setSingleRoot (l : Launch) (ad : Nat → Nat) (D : va_G) (ca : Nat → ClassId) (had : adOk ad) (p1 : Int32)  (σ : St) (K : Int32 → St → Prop) (hp : P_X8_setSingleRoot p1 σ K) : CtI l ad D ca yX8_setSingleRoot cX8_setSingleRoot 3 .int 0 [.ref (ad 204), .int p1] σ K := CtI_of (av := fun ad => [.ref (ad 204), .int p1]) (plainFor_of_name (by decide)) had (Nat.le_of_ble_eq_true rfl) (fun κ C hret => by
  have C : Ok κ RX8 cX8_setSingleRoot 3 0 := C
  show GG κ 0 [(0, .ref (kad κ 204)), (1, .int p1)] [] σ
  unfold P_X8_setSingleRoot at hp
  refine x_aload_n 0 C rfl (dX8_setSingleRoot_p0 0 rfl) ?_
  refine gX8_11 C rfl (by decide) tw_759 (dX8_setSingleRoot_p0 1 rfl) ?_
  refine x_if_eq (tgt := 11) C (dX8_setSingleRoot_p0 2 rfl) (by decide) (fun hc => ?_) (fun hc => ?_)
  · have hp := hp.1 hc
    refine x_iconst (v := 0) C (by decide) (dX8_setSingleRoot_p0 5 rfl) ?_
    refine x_istore_n (loc' := [(2, .int 0), (0, .ref (kad κ 204)), (1, .int p1)]) C rfl (by decide) rfl (dX8_setSingleRoot_p0 6 rfl) ?_
    refine x_aload_n 1 C rfl (dX8_setSingleRoot_p0 7 rfl) ?_
    refine x_iload_n 2 C rfl (dX8_setSingleRoot_p0 8 rfl) ?_
    obtain ⟨h1, hp⟩ := hp
    refine qX8_11 C rfl (by decide) h1 tw_759 (dX8_setSingleRoot_p0 9 rfl) ?_
    refine x_nmS (fun s2 es2 => ?_)
    have hp := hp s2 es2
    refine x_iload_n 0 C rfl (dX8_setSingleRoot_p0 10 rfl) ?_
    exact hret _ _ _ _ (dX8_setSingleRoot_p0 11 rfl) (nar_i _) hp
  · have hp := hp.2 hc
    refine x_iconst (v := 1) C (by decide) (dX8_setSingleRoot_p0 3 rfl) ?_
    refine x_goto (tgt := 12) C (dX8_setSingleRoot_p0 4 rfl) (by decide) ?_
    refine x_istore_n (loc' := [(2, .int 1), (0, .ref (kad κ 204)), (1, .int p1)]) C rfl (by decide) rfl (dX8_setSingleRoot_p0 6 rfl) ?_
    refine x_aload_n 1 C rfl (dX8_setSingleRoot_p0 7 rfl) ?_
    refine x_iload_n 2 C rfl (dX8_setSingleRoot_p0 8 rfl) ?_
    obtain ⟨h3, hp⟩ := hp
    refine qX8_11 C rfl (by decide) h3 tw_759 (dX8_setSingleRoot_p0 9 rfl) ?_
    refine x_nmS (fun s4 es4 => ?_)
    have hp := hp s4 es4
    refine x_iload_n 0 C rfl (dX8_setSingleRoot_p0 10 rfl) ?_
    exact hret _ _ _ _ (dX8_setSingleRoot_p0 11 rfl) (nar_i _) hp)
def P_X8_setTagWeight (p1 : Int32) (p2 : Int32) (p3 : Int32) (σ : St) (K : Int32 → St → Prop) : Prop := P_X8_areTags p1 p2 σ (fun r2 s1 => (r2 = 0 → (K (-1000001) s1)) ∧ (¬ (r2 = 0) → P_X8_tagPlace p1 p2 s1 (fun r4 s3 => P_X8_sets r4 p3 s3 (fun r6 s5 => K r6 s5))))
set_option maxHeartbeats 4000000 in
set_option maxRecDepth 100000 in
theorem m_X8_setTagWeight (l : Launch) (ad : Nat → Nat) (D : va_G) (ca : Nat → ClassId) (had : adOk ad) (p1 : Int32) (p2 : Int32) (p3 : Int32)  (σ : St) (K : Int32 → St → Prop) (hp : P_X8_setTagWeight p1 p2 p3 σ K) : CtI l ad D ca yX8_setTagWeight cX8_setTagWeight 4 .int 2 [.ref (ad 204), .int p1, .int p2, .int p3] σ K := CtI_of (av := fun ad => [.ref (ad 204), .int p1, .int p2, .int p3]) (plainFor_of_name (by decide)) had (Nat.le_of_ble_eq_true rfl) (fun κ C hret => by
  have C : Ok κ RX8 cX8_setTagWeight 4 2 := C
  show GG κ 0 [(0, .ref (kad κ 204)), (1, .int p1), (2, .int p2), (3, .int p3)] [] σ
  unfold P_X8_setTagWeight at hp
  refine x_iload_n 1 C rfl (dX8_setTagWeight_p0 0 rfl) ?_
  refine x_iload_n 2 C rfl (dX8_setTagWeight_p0 1 rfl) ?_
  refine x_csI (As := [.int p1, .int p2]) (st := []) C LRX8_132 (m_X8_areTags (kL κ) (kad κ) (kD κ) (kca κ) C.ado p1 p2  σ _ hp) rfl (by decide) rfl (Nat.le_of_ble_eq_true rfl) (dX8_setTagWeight_p0 2 rfl) (fun r2 s1 hp => ?_)
  refine x_if_eq (tgt := 21) C (dX8_setTagWeight_p0 3 rfl) (by decide) (fun hc => ?_) (fun hc => ?_)
  · have hp := hp.1 hc
    refine x_ldc C tw_910 (dX8_setTagWeight_p0 11 rfl) ?_
    exact hret _ _ _ _ (dX8_setTagWeight_p0 12 rfl) (nar_i _) hp
  · have hp := hp.2 hc
    refine x_aload_n 0 C rfl (dX8_setTagWeight_p0 4 rfl) ?_
    refine x_iload_n 1 C rfl (dX8_setTagWeight_p0 5 rfl) ?_
    refine x_iload_n 2 C rfl (dX8_setTagWeight_p0 6 rfl) ?_
    refine x_csI (As := [.int p1, .int p2]) (st := [.ref (kad κ 204)]) C LRX8_135 (m_X8_tagPlace (kL κ) (kad κ) (kD κ) (kca κ) C.ado p1 p2  s1 _ hp) rfl (by decide) rfl (Nat.le_of_ble_eq_true rfl) (dX8_setTagWeight_p0 7 rfl) (fun r4 s3 hp => ?_)
    refine x_iload_n 3 C rfl (dX8_setTagWeight_p0 8 rfl) ?_
    refine x_cvI (As := [.int r4, .int p3]) (st := []) C LRX8_138 (ci := 8) rfl rfl (by decide) (by decide) (m_X8_sets (kL κ) (kad κ) (kD κ) (kca κ) C.ado r4 p3  s3 _ hp) rfl (by decide) rfl (Nat.le_of_ble_eq_true rfl) (dX8_setTagWeight_p0 9 rfl) (fun r6 s5 hp => ?_)
    refine x_goto (tgt := 23) C (dX8_setTagWeight_p0 10 rfl) (by decide) ?_
    exact hret _ _ _ _ (dX8_setTagWeight_p0 12 rfl) (nar_i _) hp)
def P_X8_tag (p1 : Int32) (p2 : Int32) (σ : St) (K : Int32 → St → Prop) : Prop := P_X8_isWord p1 p2 σ (fun r2 s1 => (r2 = 0 → (K (-1000001) s1)) ∧ (¬ (r2 = 0) → P_X8_word p1 p2 s1 (fun r4 s3 => vp_in r4 28 ∧ (K (s3.1 207 (ix r4)) s3))))
set_option maxHeartbeats 4000000 in
set_option maxRecDepth 100000 in
theorem m_X8_tag (l : Launch) (ad : Nat → Nat) (D : va_G) (ca : Nat → ClassId) (had : adOk ad) (p1 : Int32) (p2 : Int32)  (σ : St) (K : Int32 → St → Prop) (hp : P_X8_tag p1 p2 σ K) : CtI l ad D ca yX8_tag cX8_tag 3 .int 3 [.ref (ad 204), .int p1, .int p2] σ K := CtI_of (av := fun ad => [.ref (ad 204), .int p1, .int p2]) (plainFor_of_name (by decide)) had (Nat.le_of_ble_eq_true rfl) (fun κ C hret => by
  have C : Ok κ RX8 cX8_tag 3 3 := C
  show GG κ 0 [(0, .ref (kad κ 204)), (1, .int p1), (2, .int p2)] [] σ
  unfold P_X8_tag at hp
  refine x_aload_n 0 C rfl (dX8_tag_p0 0 rfl) ?_
  refine x_iload_n 1 C rfl (dX8_tag_p0 1 rfl) ?_
  refine x_iload_n 2 C rfl (dX8_tag_p0 2 rfl) ?_
  refine x_cvI (As := [.int p1, .int p2]) (st := []) C LRX8_102 (ci := 8) rfl rfl (by decide) (by decide) (m_X8_isWord (kL κ) (kad κ) (kD κ) (kca κ) C.ado p1 p2  σ _ hp) rfl (by decide) rfl (Nat.le_of_ble_eq_true rfl) (dX8_tag_p0 3 rfl) (fun r2 s1 hp => ?_)
  refine x_if_eq (tgt := 22) C (dX8_tag_p0 4 rfl) (by decide) (fun hc => ?_) (fun hc => ?_)
  · have hp := hp.1 hc
    refine x_ldc C tw_910 (dX8_tag_p0 12 rfl) ?_
    exact hret _ _ _ _ (dX8_tag_p0 13 rfl) (nar_i _) hp
  · have hp := hp.2 hc
    refine x_aload_n 0 C rfl (dX8_tag_p0 5 rfl) ?_
    refine gX8_4 (b := 207) C rfl (by decide) rfl tw_752 (dX8_tag_p0 6 rfl) ?_
    refine x_iload_n 1 C rfl (dX8_tag_p0 7 rfl) ?_
    refine x_iload_n 2 C rfl (dX8_tag_p0 8 rfl) ?_
    refine x_csI (As := [.int p1, .int p2]) (st := [.ref (kad κ 207)]) C LRX8_124 (m_X8_word (kL κ) (kad κ) (kD κ) (kca κ) C.ado p1 p2  s1 _ hp) rfl (by decide) rfl (Nat.le_of_ble_eq_true rfl) (dX8_tag_p0 9 rfl) (fun r4 s3 hp => ?_)
    obtain ⟨h5, hp⟩ := hp
    refine x_iald C rfl (by decide) h5 (dX8_tag_p0 10 rfl) ?_
    refine x_goto (tgt := 24) C (dX8_tag_p0 11 rfl) (by decide) ?_
    exact hret _ _ _ _ (dX8_tag_p0 13 rfl) (nar_i _) hp)
def P_X8_tagWeight (p1 : Int32) (p2 : Int32) (σ : St) (K : Int32 → St → Prop) : Prop := P_X8_areTags p1 p2 σ (fun r2 s1 => (r2 = 0 → (K (-1000001) s1)) ∧ (¬ (r2 = 0) → P_X8_tagPlace p1 p2 s1 (fun r4 s3 => vp_in r4 84 ∧ (K (s3.1 211 (ix r4)) s3))))
set_option maxHeartbeats 4000000 in
set_option maxRecDepth 100000 in
theorem m_X8_tagWeight (l : Launch) (ad : Nat → Nat) (D : va_G) (ca : Nat → ClassId) (had : adOk ad) (p1 : Int32) (p2 : Int32)  (σ : St) (K : Int32 → St → Prop) (hp : P_X8_tagWeight p1 p2 σ K) : CtI l ad D ca yX8_tagWeight cX8_tagWeight 3 .int 2 [.ref (ad 204), .int p1, .int p2] σ K := CtI_of (av := fun ad => [.ref (ad 204), .int p1, .int p2]) (plainFor_of_name (by decide)) had (Nat.le_of_ble_eq_true rfl) (fun κ C hret => by
  have C : Ok κ RX8 cX8_tagWeight 3 2 := C
  show GG κ 0 [(0, .ref (kad κ 204)), (1, .int p1), (2, .int p2)] [] σ
  unfold P_X8_tagWeight at hp
  refine x_iload_n 1 C rfl (dX8_tagWeight_p0 0 rfl) ?_
  refine x_iload_n 2 C rfl (dX8_tagWeight_p0 1 rfl) ?_
  refine x_csI (As := [.int p1, .int p2]) (st := []) C LRX8_132 (m_X8_areTags (kL κ) (kad κ) (kD κ) (kca κ) C.ado p1 p2  σ _ hp) rfl (by decide) rfl (Nat.le_of_ble_eq_true rfl) (dX8_tagWeight_p0 2 rfl) (fun r2 s1 hp => ?_)
  refine x_if_eq (tgt := 21) C (dX8_tagWeight_p0 3 rfl) (by decide) (fun hc => ?_) (fun hc => ?_)
  · have hp := hp.1 hc
    refine x_ldc C tw_910 (dX8_tagWeight_p0 11 rfl) ?_
    exact hret _ _ _ _ (dX8_tagWeight_p0 12 rfl) (nar_i _) hp
  · have hp := hp.2 hc
    refine x_aload_n 0 C rfl (dX8_tagWeight_p0 4 rfl) ?_
    refine gX8_8 (b := 211) C rfl (by decide) rfl tw_756 (dX8_tagWeight_p0 5 rfl) ?_
    refine x_iload_n 1 C rfl (dX8_tagWeight_p0 6 rfl) ?_
    refine x_iload_n 2 C rfl (dX8_tagWeight_p0 7 rfl) ?_
    refine x_csI (As := [.int p1, .int p2]) (st := [.ref (kad κ 211)]) C LRX8_135 (m_X8_tagPlace (kL κ) (kad κ) (kD κ) (kca κ) C.ado p1 p2  s1 _ hp) rfl (by decide) rfl (Nat.le_of_ble_eq_true rfl) (dX8_tagWeight_p0 8 rfl) (fun r4 s3 hp => ?_)
    obtain ⟨h5, hp⟩ := hp
    refine x_iald C rfl (by decide) h5 (dX8_tagWeight_p0 9 rfl) ?_
    refine x_goto (tgt := 23) C (dX8_tagWeight_p0 10 rfl) (by decide) ?_
    exact hret _ _ _ _ (dX8_tagWeight_p0 12 rfl) (nar_i _) hp)
def F_X8_trains_19 (K : Int32 → St → Prop) (c19 : (Int32 × Int32 × St) → Prop) (u1 : Int32) (u2 : Int32) (u3 : Int32) (σ : St) : Prop := vp_in u1 4 ∧ (((σ.1 206 (ix u1)) < u3 → (K u2 σ)) ∧ (¬ ((σ.1 206 (ix u1)) < u3) → P_X8_word u1 u3 σ (fun r4 s3 => vp_in r4 28 ∧ (∀ v6 : Int32, v6 = (s3.1 208 (ix r4)) → vp_in u3 49 ∧ (∀ v8 : Int32, v8 = (s3.1 221 (ix u3)) → ((v6 = v8 → ∀ v9 : Int32, v9 = u3 + 1 → c19 (u2, v9, s3)) ∧ (¬ (v6 = v8) → P_X8_tagPlaceOf u1 v6 u3 s3 (fun r11 s10 => P_X8_changes r11 1 s10 (fun s12 => P_X8_distancePlaceOf v6 u3 s12 (fun r14 s13 => P_X8_changes r14 1 s13 (fun s15 => P_X8_tagPlaceOf u1 v8 u3 s15 (fun r17 s16 => P_X8_changes r17 (-1) s16 (fun s18 => P_X8_distancePlaceOf v8 u3 s18 (fun r20 s19 => P_X8_changes r20 (-1) s19 (fun s21 => ∀ v22 : Int32, v22 = u2 + 1 → ∀ v23 : Int32, v23 = u3 + 1 → c19 (v22, v23, s21))))))))))))))))
set_option maxHeartbeats 4000000 in
set_option maxRecDepth 100000 in
theorem F_X8_trains_19_w {κ : Kap} {K : Int32 → St → Prop} {c19 : (Int32 × Int32 × St) → Prop} (C : Ok κ RX8 cX8_trains 6 6) (hret : RetI κ cX8_trains .int K) (u1 : Int32) (u2 : Int32) (u3 : Int32)     (σ : St) (hc19 : ∀ (u2 : Int32) (u3 : Int32) (σ : St), c19 (u2, u3, σ) → GG κ 19 [(0, .ref (kad κ 204)), (1, .int u1), (2, .int u2), (3, .int u3)] [] σ) (hp : F_X8_trains_19 K c19 u1 u2 u3 σ) : GG κ 19 [(0, .ref (kad κ 204)), (1, .int u1), (2, .int u2), (3, .int u3)] [] σ := by
  unfold F_X8_trains_19 at hp
  refine x_iload_n 3 C rfl (dX8_trains_p0 12 rfl) ?_
  refine x_aload_n 0 C rfl (dX8_trains_p0 13 rfl) ?_
  refine gX8_3 (b := 206) C rfl (by decide) rfl tw_751 (dX8_trains_p0 14 rfl) ?_
  refine x_iload_n 1 C rfl (dX8_trains_p0 15 rfl) ?_
  obtain ⟨h2, hp⟩ := hp
  refine x_iald C rfl (by decide) h2 (dX8_trains_p0 16 rfl) ?_
  refine x_icmp_gt (tgt := 113) C (dX8_trains_p0 17 rfl) (by decide) (fun hc => ?_) (fun hc => ?_)
  · have hp := hp.1 hc
    refine x_iload_n 2 C rfl (dX8_trains_p1 0 rfl) ?_
    exact hret _ _ _ _ (dX8_trains_p1 1 rfl) (nar_i _) hp
  · have hp := hp.2 hc
    refine x_aload_n 0 C rfl (dX8_trains_p0 18 rfl) ?_
    refine gX8_5 (b := 208) C rfl (by decide) rfl tw_753 (dX8_trains_p0 19 rfl) ?_
    refine x_iload_n 1 C rfl (dX8_trains_p0 20 rfl) ?_
    refine x_iload_n 3 C rfl (dX8_trains_p0 21 rfl) ?_
    refine x_csI (As := [.int u1, .int u3]) (st := [.ref (kad κ 208)]) C LRX8_124 (m_X8_word (kL κ) (kad κ) (kD κ) (kca κ) C.ado u1 u3  σ _ hp) rfl (by decide) rfl (Nat.le_of_ble_eq_true rfl) (dX8_trains_p0 22 rfl) (fun r4 s3 hp => ?_)
    obtain ⟨h5, hp⟩ := hp
    refine x_iald C rfl (by decide) h5 (dX8_trains_p0 23 rfl) ?_
    refine x_topI (fun v6 ev6 => ?_)
    have hp := hp v6 ev6
    refine x_istore (loc' := [(4, .int v6), (0, .ref (kad κ 204)), (1, .int u1), (2, .int u2), (3, .int u3)]) C (by decide) rfl (dX8_trains_p0 24 rfl) ?_
    refine x_aload_n 1 C rfl (dX8_trains_p0 25 rfl) ?_
    refine gX8_23 (b := 221) C rfl (by decide) rfl tw_771 (dX8_trains_p0 26 rfl) ?_
    refine x_iload_n 4 C rfl (dX8_trains_p0 27 rfl) ?_
    obtain ⟨h7, hp⟩ := hp
    refine x_iald C rfl (by decide) h7 (dX8_trains_p0 28 rfl) ?_
    refine x_topI (fun v8 ev8 => ?_)
    have hp := hp v8 ev8
    refine x_istore (loc' := [(5, .int v8), (4, .int v6), (0, .ref (kad κ 204)), (1, .int u1), (2, .int u2), (3, .int u3)]) C (by decide) rfl (dX8_trains_p0 29 rfl) ?_
    refine x_iload 1 C rfl (dX8_trains_p0 30 rfl) ?_
    refine x_iload 0 C rfl (dX8_trains_p0 31 rfl) ?_
    refine x_icmp_eq (tgt := 107) C (dX8_trains_p0 32 rfl) (by decide) (fun hc => ?_) (fun hc => ?_)
    · have hp := hp.1 hc
      obtain ⟨v9, ev9⟩ : ∃ z : Int32, z = u3 + 1 := ⟨_, rfl⟩
      have hp := hp v9 ev9
      refine x_iinc (v := v9) (loc' := [(3, .int v9), (5, .int v8), (4, .int v6), (0, .ref (kad κ 204)), (1, .int u1), (2, .int u2)]) 5 C rfl (by rw [ev9]; rfl) (by decide) rfl (dX8_trains_p0 62 rfl) ?_
      refine x_goto (tgt := 19) C (dX8_trains_p0 63 rfl) (by decide) ?_
      refine x_loc (loc' := [(0, .ref (kad κ 204)), (1, .int u1), (2, .int u2), (3, .int v9)]) [3, 4, 5, 0] rfl ?_
      exact hc19 u2 v9 s3 hp
    · have hp := hp.2 hc
      refine x_aload_n 2 C rfl (dX8_trains_p0 33 rfl) ?_
      refine x_aload_n 2 C rfl (dX8_trains_p0 34 rfl) ?_
      refine x_iload_n 3 C rfl (dX8_trains_p0 35 rfl) ?_
      refine x_iload 1 C rfl (dX8_trains_p0 36 rfl) ?_
      refine x_iload_n 5 C rfl (dX8_trains_p0 37 rfl) ?_
      refine x_cvI (As := [.int u1, .int v6, .int u3]) (st := [.ref (kad κ 204)]) C LRX8_161 (ci := 8) rfl rfl (by decide) (by decide) (m_X8_tagPlaceOf (kL κ) (kad κ) (kD κ) (kca κ) C.ado u1 v6 u3  s3 _ hp) rfl (by decide) rfl (Nat.le_of_ble_eq_true rfl) (dX8_trains_p0 38 rfl) (fun r11 s10 hp => ?_)
      refine x_iconst (v := 1) C (by decide) (dX8_trains_p0 39 rfl) ?_
      refine x_cvV (As := [.int r11, .int 1]) (st := []) C LRX8_269 (ci := 8) rfl rfl (by decide) (by decide) (m_X8_changes (kL κ) (kad κ) (kD κ) (kca κ) C.ado r11 1  s10 _ hp) rfl (by decide) rfl (Nat.le_of_ble_eq_true rfl) (dX8_trains_p0 40 rfl) (fun s12 hp => ?_)
      refine x_aload_n 2 C rfl (dX8_trains_p0 41 rfl) ?_
      refine x_iload 1 C rfl (dX8_trains_p0 42 rfl) ?_
      refine x_iload_n 5 C rfl (dX8_trains_p0 43 rfl) ?_
      refine x_csI (As := [.int v6, .int u3]) (st := [.ref (kad κ 204)]) C LRX8_164 (m_X8_distancePlaceOf (kL κ) (kad κ) (kD κ) (kca κ) C.ado v6 u3  s12 _ hp) rfl (by decide) rfl (Nat.le_of_ble_eq_true rfl) (dX8_trains_p0 44 rfl) (fun r14 s13 hp => ?_)
      refine x_iconst (v := 1) C (by decide) (dX8_trains_p0 45 rfl) ?_
      refine x_cvV (As := [.int r14, .int 1]) (st := []) C LRX8_269 (ci := 8) rfl rfl (by decide) (by decide) (m_X8_changes (kL κ) (kad κ) (kD κ) (kca κ) C.ado r14 1  s13 _ hp) rfl (by decide) rfl (Nat.le_of_ble_eq_true rfl) (dX8_trains_p0 46 rfl) (fun s15 hp => ?_)
      refine x_aload_n 2 C rfl (dX8_trains_p0 47 rfl) ?_
      refine x_aload_n 2 C rfl (dX8_trains_p0 48 rfl) ?_
      refine x_iload_n 3 C rfl (dX8_trains_p0 49 rfl) ?_
      refine x_iload 0 C rfl (dX8_trains_p0 50 rfl) ?_
      refine x_iload_n 5 C rfl (dX8_trains_p0 51 rfl) ?_
      refine x_cvI (As := [.int u1, .int v8, .int u3]) (st := [.ref (kad κ 204)]) C LRX8_161 (ci := 8) rfl rfl (by decide) (by decide) (m_X8_tagPlaceOf (kL κ) (kad κ) (kD κ) (kca κ) C.ado u1 v8 u3  s15 _ hp) rfl (by decide) rfl (Nat.le_of_ble_eq_true rfl) (dX8_trains_p0 52 rfl) (fun r17 s16 hp => ?_)
      refine x_iconst (v := -1) C (by decide) (dX8_trains_p0 53 rfl) ?_
      refine x_cvV (As := [.int r17, .int (-1)]) (st := []) C LRX8_269 (ci := 8) rfl rfl (by decide) (by decide) (m_X8_changes (kL κ) (kad κ) (kD κ) (kca κ) C.ado r17 (-1)  s16 _ hp) rfl (by decide) rfl (Nat.le_of_ble_eq_true rfl) (dX8_trains_p0 54 rfl) (fun s18 hp => ?_)
      refine x_aload_n 2 C rfl (dX8_trains_p0 55 rfl) ?_
      refine x_iload 0 C rfl (dX8_trains_p0 56 rfl) ?_
      refine x_iload_n 5 C rfl (dX8_trains_p0 57 rfl) ?_
      refine x_csI (As := [.int v8, .int u3]) (st := [.ref (kad κ 204)]) C LRX8_164 (m_X8_distancePlaceOf (kL κ) (kad κ) (kD κ) (kca κ) C.ado v8 u3  s18 _ hp) rfl (by decide) rfl (Nat.le_of_ble_eq_true rfl) (dX8_trains_p0 58 rfl) (fun r20 s19 hp => ?_)
      refine x_iconst (v := -1) C (by decide) (dX8_trains_p0 59 rfl) ?_
      refine x_cvV (As := [.int r20, .int (-1)]) (st := []) C LRX8_269 (ci := 8) rfl rfl (by decide) (by decide) (m_X8_changes (kL κ) (kad κ) (kD κ) (kca κ) C.ado r20 (-1)  s19 _ hp) rfl (by decide) rfl (Nat.le_of_ble_eq_true rfl) (dX8_trains_p0 60 rfl) (fun s21 hp => ?_)
      obtain ⟨v22, ev22⟩ : ∃ z : Int32, z = u2 + 1 := ⟨_, rfl⟩
      have hp := hp v22 ev22
      refine x_iinc (v := v22) (loc' := [(2, .int v22), (5, .int v8), (4, .int v6), (0, .ref (kad κ 204)), (1, .int u1), (3, .int u3)]) 4 C rfl (by rw [ev22]; rfl) (by decide) rfl (dX8_trains_p0 61 rfl) ?_
      obtain ⟨v23, ev23⟩ : ∃ z : Int32, z = u3 + 1 := ⟨_, rfl⟩
      have hp := hp v23 ev23
      refine x_iinc (v := v23) (loc' := [(3, .int v23), (2, .int v22), (5, .int v8), (4, .int v6), (0, .ref (kad κ 204)), (1, .int u1)]) 5 C rfl (by rw [ev23]; rfl) (by decide) rfl (dX8_trains_p0 62 rfl) ?_
      refine x_goto (tgt := 19) C (dX8_trains_p0 63 rfl) (by decide) ?_
      refine x_loc (loc' := [(0, .ref (kad κ 204)), (1, .int u1), (2, .int v22), (3, .int v23)]) [4, 5, 1, 0] rfl ?_
      exact hc19 v22 v23 s21 hp
def P_X8_trains (p1 : Int32) (σ : St) (K : Int32 → St → Prop) : Prop := P_X8_looks p1 σ (fun s1 => ((s1.1 204 21) = 0 → (K (-1000004) s1)) ∧ (¬ ((s1.1 204 21) = 0) → (LpE (fun c s => F_X8_trains_19 K  c p1 s.1 s.2.1 s.2.2) (0, 1, s1))))
set_option maxHeartbeats 4000000 in
set_option maxRecDepth 100000 in
theorem m_X8_trains (l : Launch) (ad : Nat → Nat) (D : va_G) (ca : Nat → ClassId) (had : adOk ad) (p1 : Int32)  (σ : St) (K : Int32 → St → Prop) (hp : P_X8_trains p1 σ K) : CtI l ad D ca yX8_trains cX8_trains 6 .int 6 [.ref (ad 204), .int p1] σ K := CtI_of (av := fun ad => [.ref (ad 204), .int p1]) (plainFor_of_name (by decide)) had (Nat.le_of_ble_eq_true rfl) (fun κ C hret => by
  have C : Ok κ RX8 cX8_trains 6 6 := C
  show GG κ 0 [(0, .ref (kad κ 204)), (1, .int p1)] [] σ
  unfold P_X8_trains at hp
  refine x_aload_n 0 C rfl (dX8_trains_p0 0 rfl) ?_
  refine x_iload_n 1 C rfl (dX8_trains_p0 1 rfl) ?_
  refine x_cvV (As := [.int p1]) (st := []) C LRX8_226 (ci := 8) rfl rfl (by decide) (by decide) (m_X8_looks (kL κ) (kad κ) (kD κ) (kca κ) C.ado p1  σ _ hp) rfl (by decide) rfl (Nat.le_of_ble_eq_true rfl) (dX8_trains_p0 2 rfl) (fun s1 hp => ?_)
  refine x_aload_n 0 C rfl (dX8_trains_p0 3 rfl) ?_
  refine gX8_21 C rfl (by decide) tw_769 (dX8_trains_p0 4 rfl) ?_
  refine x_if_ne (tgt := 15) C (dX8_trains_p0 5 rfl) (by decide) (fun hc => ?_) (fun hc => ?_)
  · have hp := hp.2 hc
    refine x_iconst (v := 0) C (by decide) (dX8_trains_p0 8 rfl) ?_
    refine x_istore_n (loc' := [(2, .int 0), (0, .ref (kad κ 204)), (1, .int p1)]) C rfl (by decide) rfl (dX8_trains_p0 9 rfl) ?_
    refine x_iconst (v := 1) C (by decide) (dX8_trains_p0 10 rfl) ?_
    refine x_istore_n (loc' := [(3, .int 1), (2, .int 0), (0, .ref (kad κ 204)), (1, .int p1)]) C rfl (by decide) rfl (dX8_trains_p0 11 rfl) ?_
    refine x_loc (loc' := [(0, .ref (kad κ 204)), (1, .int p1), (2, .int 0), (3, .int 1)]) [2, 3, 1, 0] rfl ?_
    exact LpE_GG (S := (Int32 × Int32 × St)) (F := fun c s => F_X8_trains_19 K  c p1 s.1 s.2.1 s.2.2) (W := fun s => GG κ 19 [(0, .ref (kad κ 204)), (1, .int p1), (2, .int s.1), (3, .int s.2.1)] [] s.2.2) (fun c s hcc hp => F_X8_trains_19_w C hret p1 s.1 s.2.1  s.2.2  (fun u2 u3 σ h => hcc (u2, u3, σ) h) hp) hp
  · have hp := hp.1 hc
    refine x_ldc C tw_893 (dX8_trains_p0 6 rfl) ?_
    exact hret _ _ _ _ (dX8_trains_p0 7 rfl) (nar_i _) hp)
def P_X8_train (p1 : Int32) (σ : St) (K : Int32 → St → Prop) : Prop := P_X8_isSentence p1 σ (fun r2 s1 => (r2 = 0 → (K (-1000001) s1)) ∧ (¬ (r2 = 0) → P_X8_trains p1 s1 (fun r4 s3 => K r4 s3)))
set_option maxHeartbeats 4000000 in
set_option maxRecDepth 100000 in
theorem m_X8_train (l : Launch) (ad : Nat → Nat) (D : va_G) (ca : Nat → ClassId) (had : adOk ad) (p1 : Int32)  (σ : St) (K : Int32 → St → Prop) (hp : P_X8_train p1 σ K) : CtI l ad D ca yX8_train cX8_train 2 .int 7 [.ref (ad 204), .int p1] σ K := CtI_of (av := fun ad => [.ref (ad 204), .int p1]) (plainFor_of_name (by decide)) had (Nat.le_of_ble_eq_true rfl) (fun κ C hret => by
  have C : Ok κ RX8 cX8_train 2 7 := C
  show GG κ 0 [(0, .ref (kad κ 204)), (1, .int p1)] [] σ
  unfold P_X8_train at hp
  refine x_aload_n 0 C rfl (dX8_train_p0 0 rfl) ?_
  refine x_iload_n 1 C rfl (dX8_train_p0 1 rfl) ?_
  refine x_cvI (As := [.int p1]) (st := []) C LRX8_98 (ci := 8) rfl rfl (by decide) (by decide) (m_X8_isSentence (kL κ) (kad κ) (kD κ) (kca κ) C.ado p1  σ _ hp) rfl (by decide) rfl (Nat.le_of_ble_eq_true rfl) (dX8_train_p0 2 rfl) (fun r2 s1 hp => ?_)
  refine x_if_eq (tgt := 16) C (dX8_train_p0 3 rfl) (by decide) (fun hc => ?_) (fun hc => ?_)
  · have hp := hp.1 hc
    refine x_ldc C tw_910 (dX8_train_p0 8 rfl) ?_
    exact hret _ _ _ _ (dX8_train_p0 9 rfl) (nar_i _) hp
  · have hp := hp.2 hc
    refine x_aload_n 0 C rfl (dX8_train_p0 4 rfl) ?_
    refine x_iload_n 1 C rfl (dX8_train_p0 5 rfl) ?_
    refine x_cvI (As := [.int p1]) (st := []) C LRX8_272 (ci := 8) rfl rfl (by decide) (by decide) (m_X8_trains (kL κ) (kad κ) (kD κ) (kca κ) C.ado p1  s1 _ hp) rfl (by decide) rfl (Nat.le_of_ble_eq_true rfl) (dX8_train_p0 6 rfl) (fun r4 s3 hp => ?_)
    refine x_goto (tgt := 18) C (dX8_train_p0 7 rfl) (by decide) ?_
    exact hret _ _ _ _ (dX8_train_p0 9 rfl) (nar_i _) hp)
def F_X8_trainAll_25 (K : Int32 → St → Prop) (c15 : (Int32 × St) → Prop) (c25 : (Int32 × Int32 × St) → Prop) (u1 : Int32) (u2 : Int32) (u3 : Int32) (u4 : Int32) (σ : St) : Prop := ((σ.1 204 2) ≤ u4 → ((u3 = 0 → (K u2 σ)) ∧ (¬ (u3 = 0) → ∀ v3 : Int32, v3 = u2 + 1 → c15 (v3, σ)))) ∧ (¬ ((σ.1 204 2) ≤ u4) → P_X8_trains u4 σ (fun r5 s4 => (r5 ≤ 0 → (∀ v6 : Int32, v6 = (u3 + 0) → ∀ v7 : Int32, v7 = u4 + 1 → c25 (v6, v7, s4))) ∧ (¬ (r5 ≤ 0) → (∀ v8 : Int32, v8 = (u3 + r5) → ∀ v9 : Int32, v9 = u4 + 1 → c25 (v8, v9, s4)))))
set_option maxHeartbeats 4000000 in
set_option maxRecDepth 100000 in
theorem F_X8_trainAll_25_w {κ : Kap} {K : Int32 → St → Prop} {c15 : (Int32 × St) → Prop} {c25 : (Int32 × Int32 × St) → Prop} (C : Ok κ RX8 cX8_trainAll 6 7) (hret : RetI κ cX8_trainAll .int K) (u1 : Int32) (u2 : Int32) (u3 : Int32) (u4 : Int32)      (σ : St) (hc15 : ∀ (u2 : Int32) (σ : St), c15 (u2, σ) → GG κ 15 [(0, .ref (kad κ 204)), (1, .int u1), (2, .int u2)] [] σ) (hc25 : ∀ (u3 : Int32) (u4 : Int32) (σ : St), c25 (u3, u4, σ) → GG κ 25 [(0, .ref (kad κ 204)), (1, .int u1), (2, .int u2), (3, .int u3), (4, .int u4)] [] σ) (hp : F_X8_trainAll_25 K c15 c25 u1 u2 u3 u4 σ) : GG κ 25 [(0, .ref (kad κ 204)), (1, .int u1), (2, .int u2), (3, .int u3), (4, .int u4)] [] σ := by
  unfold F_X8_trainAll_25 at hp
  refine x_iload 4 C rfl (dX8_trainAll_p0 16 rfl) ?_
  refine x_aload_n 0 C rfl (dX8_trainAll_p0 17 rfl) ?_
  refine gX8_2 C rfl (by decide) tw_750 (dX8_trainAll_p0 18 rfl) ?_
  refine x_icmp_ge (tgt := 62) C (dX8_trainAll_p0 19 rfl) (by decide) (fun hc => ?_) (fun hc => ?_)
  · have hp := hp.1 hc
    refine x_iload_n 3 C rfl (dX8_trainAll_p0 34 rfl) ?_
    refine x_if_ne (tgt := 68) C (dX8_trainAll_p0 35 rfl) (by decide) (fun hc => ?_) (fun hc => ?_)
    · have hp := hp.2 hc
      obtain ⟨v3, ev3⟩ : ∃ z : Int32, z = u2 + 1 := ⟨_, rfl⟩
      have hp := hp v3 ev3
      refine x_iinc (v := v3) (loc' := [(2, .int v3), (0, .ref (kad κ 204)), (1, .int u1), (3, .int u3), (4, .int u4)]) 2 C rfl (by rw [ev3]; rfl) (by decide) rfl (dX8_trainAll_p0 38 rfl) ?_
      refine x_goto (tgt := 15) C (dX8_trainAll_p0 39 rfl) (by decide) ?_
      refine x_loc (loc' := [(0, .ref (kad κ 204)), (1, .int u1), (2, .int v3)]) [1, 2, 0] rfl ?_
      exact hc15 v3 σ hp
    · have hp := hp.1 hc
      refine x_iload_n 2 C rfl (dX8_trainAll_p0 36 rfl) ?_
      exact hret _ _ _ _ (dX8_trainAll_p0 37 rfl) (nar_i _) hp
  · have hp := hp.2 hc
    refine x_aload_n 0 C rfl (dX8_trainAll_p0 20 rfl) ?_
    refine x_iload 4 C rfl (dX8_trainAll_p0 21 rfl) ?_
    refine x_cvI (As := [.int u4]) (st := []) C LRX8_272 (ci := 8) rfl rfl (by decide) (by decide) (m_X8_trains (kL κ) (kad κ) (kD κ) (kca κ) C.ado u4  σ _ hp) rfl (by decide) rfl (Nat.le_of_ble_eq_true rfl) (dX8_trainAll_p0 22 rfl) (fun r5 s4 hp => ?_)
    refine x_istore (loc' := [(5, .int r5), (0, .ref (kad κ 204)), (1, .int u1), (2, .int u2), (3, .int u3), (4, .int u4)]) C (by decide) rfl (dX8_trainAll_p0 23 rfl) ?_
    refine x_iload_n 4 C rfl (dX8_trainAll_p0 24 rfl) ?_
    refine x_iload 0 C rfl (dX8_trainAll_p0 25 rfl) ?_
    refine x_if_le (tgt := 53) C (dX8_trainAll_p0 26 rfl) (by decide) (fun hc => ?_) (fun hc => ?_)
    · have hp := hp.1 hc
      refine x_iconst (v := 0) C (by decide) (dX8_trainAll_p0 29 rfl) ?_
      refine x_iadd C (dX8_trainAll_p0 30 rfl) ?_
      refine x_topI (fun v6 ev6 => ?_)
      have hp := hp v6 ev6
      refine x_istore_n (loc' := [(3, .int v6), (5, .int r5), (0, .ref (kad κ 204)), (1, .int u1), (2, .int u2), (4, .int u4)]) C rfl (by decide) rfl (dX8_trainAll_p0 31 rfl) ?_
      obtain ⟨v7, ev7⟩ : ∃ z : Int32, z = u4 + 1 := ⟨_, rfl⟩
      have hp := hp v7 ev7
      refine x_iinc (v := v7) (loc' := [(4, .int v7), (3, .int v6), (5, .int r5), (0, .ref (kad κ 204)), (1, .int u1), (2, .int u2)]) 5 C rfl (by rw [ev7]; rfl) (by decide) rfl (dX8_trainAll_p0 32 rfl) ?_
      refine x_goto (tgt := 25) C (dX8_trainAll_p0 33 rfl) (by decide) ?_
      refine x_loc (loc' := [(0, .ref (kad κ 204)), (1, .int u1), (2, .int u2), (3, .int v6), (4, .int v7)]) [3, 4, 5, 1, 0] rfl ?_
      exact hc25 v6 v7 s4 hp
    · have hp := hp.2 hc
      refine x_iload 0 C rfl (dX8_trainAll_p0 27 rfl) ?_
      refine x_goto (tgt := 54) C (dX8_trainAll_p0 28 rfl) (by decide) ?_
      refine x_iadd C (dX8_trainAll_p0 30 rfl) ?_
      refine x_topI (fun v8 ev8 => ?_)
      have hp := hp v8 ev8
      refine x_istore_n (loc' := [(3, .int v8), (5, .int r5), (0, .ref (kad κ 204)), (1, .int u1), (2, .int u2), (4, .int u4)]) C rfl (by decide) rfl (dX8_trainAll_p0 31 rfl) ?_
      obtain ⟨v9, ev9⟩ : ∃ z : Int32, z = u4 + 1 := ⟨_, rfl⟩
      have hp := hp v9 ev9
      refine x_iinc (v := v9) (loc' := [(4, .int v9), (3, .int v8), (5, .int r5), (0, .ref (kad κ 204)), (1, .int u1), (2, .int u2)]) 5 C rfl (by rw [ev9]; rfl) (by decide) rfl (dX8_trainAll_p0 32 rfl) ?_
      refine x_goto (tgt := 25) C (dX8_trainAll_p0 33 rfl) (by decide) ?_
      refine x_loc (loc' := [(0, .ref (kad κ 204)), (1, .int u1), (2, .int u2), (3, .int v8), (4, .int v9)]) [3, 4, 5, 1, 0] rfl ?_
      exact hc25 v8 v9 s4 hp
def F_X8_trainAll_15 (K : Int32 → St → Prop) (c15 : (Int32 × St) → Prop) (u1 : Int32) (u2 : Int32) (σ : St) : Prop := (u1 ≤ u2 → (K (-1000004) σ)) ∧ (¬ (u1 ≤ u2) → (LpE (fun c s => F_X8_trainAll_25 K c15 c u1 u2 s.1 s.2.1 s.2.2) (0, 0, σ)))
set_option maxHeartbeats 4000000 in
set_option maxRecDepth 100000 in
theorem F_X8_trainAll_15_w {κ : Kap} {K : Int32 → St → Prop} {c15 : (Int32 × St) → Prop} (C : Ok κ RX8 cX8_trainAll 6 7) (hret : RetI κ cX8_trainAll .int K) (u1 : Int32) (u2 : Int32)    (σ : St) (hc15 : ∀ (u2 : Int32) (σ : St), c15 (u2, σ) → GG κ 15 [(0, .ref (kad κ 204)), (1, .int u1), (2, .int u2)] [] σ) (hp : F_X8_trainAll_15 K c15 u1 u2 σ) : GG κ 15 [(0, .ref (kad κ 204)), (1, .int u1), (2, .int u2)] [] σ := by
  unfold F_X8_trainAll_15 at hp
  refine x_iload_n 2 C rfl (dX8_trainAll_p0 9 rfl) ?_
  refine x_iload_n 1 C rfl (dX8_trainAll_p0 10 rfl) ?_
  refine x_icmp_ge (tgt := 74) C (dX8_trainAll_p0 11 rfl) (by decide) (fun hc => ?_) (fun hc => ?_)
  · have hp := hp.1 hc
    refine x_ldc C tw_893 (dX8_trainAll_p0 40 rfl) ?_
    exact hret _ _ _ _ (dX8_trainAll_p0 41 rfl) (nar_i _) hp
  · have hp := hp.2 hc
    refine x_iconst (v := 0) C (by decide) (dX8_trainAll_p0 12 rfl) ?_
    refine x_istore_n (loc' := [(3, .int 0), (0, .ref (kad κ 204)), (1, .int u1), (2, .int u2)]) C rfl (by decide) rfl (dX8_trainAll_p0 13 rfl) ?_
    refine x_iconst (v := 0) C (by decide) (dX8_trainAll_p0 14 rfl) ?_
    refine x_istore (loc' := [(4, .int 0), (3, .int 0), (0, .ref (kad κ 204)), (1, .int u1), (2, .int u2)]) C (by decide) rfl (dX8_trainAll_p0 15 rfl) ?_
    refine x_loc (loc' := [(0, .ref (kad κ 204)), (1, .int u1), (2, .int u2), (3, .int 0), (4, .int 0)]) [2, 3, 4, 1, 0] rfl ?_
    exact LpE_GG (S := (Int32 × Int32 × St)) (F := fun c s => F_X8_trainAll_25 K c15 c u1 u2 s.1 s.2.1 s.2.2) (W := fun s => GG κ 25 [(0, .ref (kad κ 204)), (1, .int u1), (2, .int u2), (3, .int s.1), (4, .int s.2.1)] [] s.2.2) (fun c s hcc hp => F_X8_trainAll_25_w C hret u1 u2 s.1 s.2.1  s.2.2 hc15 (fun u3 u4 σ h => hcc (u3, u4, σ) h) hp) hp
def P_X8_trainAll (p1 : Int32) (σ : St) (K : Int32 → St → Prop) : Prop := P_X8_in p1 1 10 σ (fun r2 s1 => (r2 = 0 → (K (-1000002) s1)) ∧ (¬ (r2 = 0) → (LpE (fun c s => F_X8_trainAll_15 K  c p1 s.1 s.2) (0, s1))))
set_option maxHeartbeats 4000000 in
set_option maxRecDepth 100000 in
theorem m_X8_trainAll (l : Launch) (ad : Nat → Nat) (D : va_G) (ca : Nat → ClassId) (had : adOk ad) (p1 : Int32)  (σ : St) (K : Int32 → St → Prop) (hp : P_X8_trainAll p1 σ K) : CtI l ad D ca yX8_trainAll cX8_trainAll 6 .int 7 [.ref (ad 204), .int p1] σ K := CtI_of (av := fun ad => [.ref (ad 204), .int p1]) (plainFor_of_name (by decide)) had (Nat.le_of_ble_eq_true rfl) (fun κ C hret => by
  have C : Ok κ RX8 cX8_trainAll 6 7 := C
  show GG κ 0 [(0, .ref (kad κ 204)), (1, .int p1)] [] σ
  unfold P_X8_trainAll at hp
  refine x_iload_n 1 C rfl (dX8_trainAll_p0 0 rfl) ?_
  refine x_iconst (v := 1) C (by decide) (dX8_trainAll_p0 1 rfl) ?_
  refine x_bipush (v := 10) C (by decide) (dX8_trainAll_p0 2 rfl) ?_
  refine x_csI (As := [.int p1, .int 1, .int 10]) (st := []) C LRX8_94 (m_X8_in (kL κ) (kad κ) (kD κ) (kca κ) C.ado p1 1 10  σ _ hp) rfl (by decide) rfl (Nat.le_of_ble_eq_true rfl) (dX8_trainAll_p0 3 rfl) (fun r2 s1 hp => ?_)
  refine x_if_ne (tgt := 13) C (dX8_trainAll_p0 4 rfl) (by decide) (fun hc => ?_) (fun hc => ?_)
  · have hp := hp.2 hc
    refine x_iconst (v := 0) C (by decide) (dX8_trainAll_p0 7 rfl) ?_
    refine x_istore_n (loc' := [(2, .int 0), (0, .ref (kad κ 204)), (1, .int p1)]) C rfl (by decide) rfl (dX8_trainAll_p0 8 rfl) ?_
    refine x_loc (loc' := [(0, .ref (kad κ 204)), (1, .int p1), (2, .int 0)]) [1, 2, 0] rfl ?_
    exact LpE_GG (S := (Int32 × St)) (F := fun c s => F_X8_trainAll_15 K  c p1 s.1 s.2) (W := fun s => GG κ 15 [(0, .ref (kad κ 204)), (1, .int p1), (2, .int s.1)] [] s.2) (fun c s hcc hp => F_X8_trainAll_15_w C hret p1 s.1  s.2  (fun u2 σ h => hcc (u2, σ) h) hp) hp
  · have hp := hp.1 hc
    refine x_ldc C tw_876 (dX8_trainAll_p0 5 rfl) ?_
    exact hret _ _ _ _ (dX8_trainAll_p0 6 rfl) (nar_i _) hp)
def P_X8_transition (p1 : Int32) (p2 : Int32) (σ : St) (K : Int32 → St → Prop) : Prop := P_X8_isSentence p1 σ (fun r2 s1 => (r2 = 0 → (K (-1000001) s1)) ∧ (¬ (r2 = 0) → P_X8_moves p1 s1 (fun s3 => P_X8_in p2 0 ((s3.1 204 33) - 1) s3 (fun r5 s4 => (r5 = 0 → (K (-1000004) s4)) ∧ (¬ (r5 = 0) → vp_in p2 200 ∧ (K (s4.1 227 (ix p2)) s4))))))
set_option maxHeartbeats 4000000 in
set_option maxRecDepth 100000 in
theorem m_X8_transition (l : Launch) (ad : Nat → Nat) (D : va_G) (ca : Nat → ClassId) (had : adOk ad) (p1 : Int32) (p2 : Int32)  (σ : St) (K : Int32 → St → Prop) (hp : P_X8_transition p1 p2 σ K) : CtI l ad D ca yX8_transition cX8_transition 3 .int 4 [.ref (ad 204), .int p1, .int p2] σ K := CtI_of (av := fun ad => [.ref (ad 204), .int p1, .int p2]) (plainFor_of_name (by decide)) had (Nat.le_of_ble_eq_true rfl) (fun κ C hret => by
  have C : Ok κ RX8 cX8_transition 3 4 := C
  show GG κ 0 [(0, .ref (kad κ 204)), (1, .int p1), (2, .int p2)] [] σ
  unfold P_X8_transition at hp
  refine x_aload_n 0 C rfl (dX8_transition_p0 0 rfl) ?_
  refine x_iload_n 1 C rfl (dX8_transition_p0 1 rfl) ?_
  refine x_cvI (As := [.int p1]) (st := []) C LRX8_98 (ci := 8) rfl rfl (by decide) (by decide) (m_X8_isSentence (kL κ) (kad κ) (kD κ) (kca κ) C.ado p1  σ _ hp) rfl (by decide) rfl (Nat.le_of_ble_eq_true rfl) (dX8_transition_p0 2 rfl) (fun r2 s1 hp => ?_)
  refine x_if_ne (tgt := 11) C (dX8_transition_p0 3 rfl) (by decide) (fun hc => ?_) (fun hc => ?_)
  · have hp := hp.2 hc
    refine x_aload_n 0 C rfl (dX8_transition_p0 6 rfl) ?_
    refine x_iload_n 1 C rfl (dX8_transition_p0 7 rfl) ?_
    refine x_cvV (As := [.int p1]) (st := []) C LRX8_267 (ci := 8) rfl rfl (by decide) (by decide) (m_X8_moves (kL κ) (kad κ) (kD κ) (kca κ) C.ado p1  s1 _ hp) rfl (by decide) rfl (Nat.le_of_ble_eq_true rfl) (dX8_transition_p0 8 rfl) (fun s3 hp => ?_)
    refine x_iload_n 2 C rfl (dX8_transition_p0 9 rfl) ?_
    refine x_iconst (v := 0) C (by decide) (dX8_transition_p0 10 rfl) ?_
    refine x_aload_n 0 C rfl (dX8_transition_p0 11 rfl) ?_
    refine gX8_33 C rfl (by decide) tw_781 (dX8_transition_p0 12 rfl) ?_
    refine x_iconst (v := 1) C (by decide) (dX8_transition_p0 13 rfl) ?_
    refine x_isub C (dX8_transition_p0 14 rfl) ?_
    refine x_csI (As := [.int p2, .int 0, .int ((s3.1 204 33) - 1)]) (st := []) C LRX8_94 (m_X8_in (kL κ) (kad κ) (kD κ) (kca κ) C.ado p2 0 ((s3.1 204 33) - 1)  s3 _ hp) rfl (by decide) rfl (Nat.le_of_ble_eq_true rfl) (dX8_transition_p0 15 rfl) (fun r5 s4 hp => ?_)
    refine x_if_eq (tgt := 39) C (dX8_transition_p0 16 rfl) (by decide) (fun hc => ?_) (fun hc => ?_)
    · have hp := hp.1 hc
      refine x_ldc C tw_893 (dX8_transition_p0 22 rfl) ?_
      exact hret _ _ _ _ (dX8_transition_p0 23 rfl) (nar_i _) hp
    · have hp := hp.2 hc
      refine x_aload_n 0 C rfl (dX8_transition_p0 17 rfl) ?_
      refine gX8_34 (b := 227) C rfl (by decide) rfl tw_782 (dX8_transition_p0 18 rfl) ?_
      refine x_iload_n 2 C rfl (dX8_transition_p0 19 rfl) ?_
      obtain ⟨h6, hp⟩ := hp
      refine x_iald C rfl (by decide) h6 (dX8_transition_p0 20 rfl) ?_
      refine x_goto (tgt := 41) C (dX8_transition_p0 21 rfl) (by decide) ?_
      exact hret _ _ _ _ (dX8_transition_p0 23 rfl) (nar_i _) hp
  · have hp := hp.1 hc
    refine x_ldc C tw_910 (dX8_transition_p0 4 rfl) ?_
    exact hret _ _ _ _ (dX8_transition_p0 5 rfl) (nar_i _) hp)
def P_X8_transitions (p1 : Int32) (σ : St) (K : Int32 → St → Prop) : Prop := P_X8_isSentence p1 σ (fun r2 s1 => (r2 = 0 → (K (-1000001) s1)) ∧ (¬ (r2 = 0) → P_X8_moves p1 s1 (fun s3 => K (s3.1 204 33) s3)))
set_option maxHeartbeats 4000000 in
set_option maxRecDepth 100000 in
theorem m_X8_transitions (l : Launch) (ad : Nat → Nat) (D : va_G) (ca : Nat → ClassId) (had : adOk ad) (p1 : Int32)  (σ : St) (K : Int32 → St → Prop) (hp : P_X8_transitions p1 σ K) : CtI l ad D ca yX8_transitions cX8_transitions 2 .int 4 [.ref (ad 204), .int p1] σ K := CtI_of (av := fun ad => [.ref (ad 204), .int p1]) (plainFor_of_name (by decide)) had (Nat.le_of_ble_eq_true rfl) (fun κ C hret => by
  have C : Ok κ RX8 cX8_transitions 2 4 := C
  show GG κ 0 [(0, .ref (kad κ 204)), (1, .int p1)] [] σ
  unfold P_X8_transitions at hp
  refine x_aload_n 0 C rfl (dX8_transitions_p0 0 rfl) ?_
  refine x_iload_n 1 C rfl (dX8_transitions_p0 1 rfl) ?_
  refine x_cvI (As := [.int p1]) (st := []) C LRX8_98 (ci := 8) rfl rfl (by decide) (by decide) (m_X8_isSentence (kL κ) (kad κ) (kD κ) (kca κ) C.ado p1  σ _ hp) rfl (by decide) rfl (Nat.le_of_ble_eq_true rfl) (dX8_transitions_p0 2 rfl) (fun r2 s1 hp => ?_)
  refine x_if_ne (tgt := 11) C (dX8_transitions_p0 3 rfl) (by decide) (fun hc => ?_) (fun hc => ?_)
  · have hp := hp.2 hc
    refine x_aload_n 0 C rfl (dX8_transitions_p0 6 rfl) ?_
    refine x_iload_n 1 C rfl (dX8_transitions_p0 7 rfl) ?_
    refine x_cvV (As := [.int p1]) (st := []) C LRX8_267 (ci := 8) rfl rfl (by decide) (by decide) (m_X8_moves (kL κ) (kad κ) (kD κ) (kca κ) C.ado p1  s1 _ hp) rfl (by decide) rfl (Nat.le_of_ble_eq_true rfl) (dX8_transitions_p0 8 rfl) (fun s3 hp => ?_)
    refine x_aload_n 0 C rfl (dX8_transitions_p0 9 rfl) ?_
    refine gX8_33 C rfl (by decide) tw_781 (dX8_transitions_p0 10 rfl) ?_
    exact hret _ _ _ _ (dX8_transitions_p0 11 rfl) (nar_i _) hp
  · have hp := hp.1 hc
    refine x_ldc C tw_910 (dX8_transitions_p0 4 rfl) ?_
    exact hret _ _ _ _ (dX8_transitions_p0 5 rfl) (nar_i _) hp)
def P_X8_treeCount (p1 : Int32) (σ : St) (K : Int32 → St → Prop) : Prop := P_X8_isSentence p1 σ (fun r2 s1 => (r2 = 0 → (K (-1000001) s1)) ∧ (¬ (r2 = 0) → P_X8_looks p1 s1 (fun s3 => K (s3.1 204 24) s3)))
set_option maxHeartbeats 4000000 in
set_option maxRecDepth 100000 in
theorem m_X8_treeCount (l : Launch) (ad : Nat → Nat) (D : va_G) (ca : Nat → ClassId) (had : adOk ad) (p1 : Int32)  (σ : St) (K : Int32 → St → Prop) (hp : P_X8_treeCount p1 σ K) : CtI l ad D ca yX8_treeCount cX8_treeCount 2 .int 6 [.ref (ad 204), .int p1] σ K := CtI_of (av := fun ad => [.ref (ad 204), .int p1]) (plainFor_of_name (by decide)) had (Nat.le_of_ble_eq_true rfl) (fun κ C hret => by
  have C : Ok κ RX8 cX8_treeCount 2 6 := C
  show GG κ 0 [(0, .ref (kad κ 204)), (1, .int p1)] [] σ
  unfold P_X8_treeCount at hp
  refine x_aload_n 0 C rfl (dX8_treeCount_p0 0 rfl) ?_
  refine x_iload_n 1 C rfl (dX8_treeCount_p0 1 rfl) ?_
  refine x_cvI (As := [.int p1]) (st := []) C LRX8_98 (ci := 8) rfl rfl (by decide) (by decide) (m_X8_isSentence (kL κ) (kad κ) (kD κ) (kca κ) C.ado p1  σ _ hp) rfl (by decide) rfl (Nat.le_of_ble_eq_true rfl) (dX8_treeCount_p0 2 rfl) (fun r2 s1 hp => ?_)
  refine x_if_ne (tgt := 11) C (dX8_treeCount_p0 3 rfl) (by decide) (fun hc => ?_) (fun hc => ?_)
  · have hp := hp.2 hc
    refine x_aload_n 0 C rfl (dX8_treeCount_p0 6 rfl) ?_
    refine x_iload_n 1 C rfl (dX8_treeCount_p0 7 rfl) ?_
    refine x_cvV (As := [.int p1]) (st := []) C LRX8_226 (ci := 8) rfl rfl (by decide) (by decide) (m_X8_looks (kL κ) (kad κ) (kD κ) (kca κ) C.ado p1  s1 _ hp) rfl (by decide) rfl (Nat.le_of_ble_eq_true rfl) (dX8_treeCount_p0 8 rfl) (fun s3 hp => ?_)
    refine x_aload_n 0 C rfl (dX8_treeCount_p0 9 rfl) ?_
    refine gX8_24 C rfl (by decide) tw_772 (dX8_treeCount_p0 10 rfl) ?_
    exact hret _ _ _ _ (dX8_treeCount_p0 11 rfl) (nar_i _) hp
  · have hp := hp.1 hc
    refine x_ldc C tw_910 (dX8_treeCount_p0 4 rfl) ?_
    exact hret _ _ _ _ (dX8_treeCount_p0 5 rfl) (nar_i _) hp)
def P_X8_weightSum (p1 : Int32) (σ : St) (K : Int64 → St → Prop) : Prop := P_X8_isSentence p1 σ (fun r2 s1 => (r2 = 0 → (K (-1000001) s1)) ∧ (¬ (r2 = 0) → P_X8_looks p1 s1 (fun s3 => K (s3.2.1 204 25) s3)))
set_option maxHeartbeats 4000000 in
set_option maxRecDepth 100000 in
theorem m_X8_weightSum (l : Launch) (ad : Nat → Nat) (D : va_G) (ca : Nat → ClassId) (had : adOk ad) (p1 : Int32)  (σ : St) (K : Int64 → St → Prop) (hp : P_X8_weightSum p1 σ K) : CtL l ad D ca yX8_weightSum cX8_weightSum 2 6 [.ref (ad 204), .int p1] σ K := CtL_of (av := fun ad => [.ref (ad 204), .int p1]) (plainFor_of_name (by decide)) had (Nat.le_of_ble_eq_true rfl) (fun κ C hret => by
  have C : Ok κ RX8 cX8_weightSum 2 6 := C
  show GG κ 0 [(0, .ref (kad κ 204)), (1, .int p1)] [] σ
  unfold P_X8_weightSum at hp
  refine x_aload_n 0 C rfl (dX8_weightSum_p0 0 rfl) ?_
  refine x_iload_n 1 C rfl (dX8_weightSum_p0 1 rfl) ?_
  refine x_cvI (As := [.int p1]) (st := []) C LRX8_98 (ci := 8) rfl rfl (by decide) (by decide) (m_X8_isSentence (kL κ) (kad κ) (kD κ) (kca κ) C.ado p1  σ _ hp) rfl (by decide) rfl (Nat.le_of_ble_eq_true rfl) (dX8_weightSum_p0 2 rfl) (fun r2 s1 hp => ?_)
  refine x_if_ne (tgt := 12) C (dX8_weightSum_p0 3 rfl) (by decide) (fun hc => ?_) (fun hc => ?_)
  · have hp := hp.2 hc
    refine x_aload_n 0 C rfl (dX8_weightSum_p0 6 rfl) ?_
    refine x_iload_n 1 C rfl (dX8_weightSum_p0 7 rfl) ?_
    refine x_cvV (As := [.int p1]) (st := []) C LRX8_226 (ci := 8) rfl rfl (by decide) (by decide) (m_X8_looks (kL κ) (kad κ) (kD κ) (kca κ) C.ado p1  s1 _ hp) rfl (by decide) rfl (Nat.le_of_ble_eq_true rfl) (dX8_weightSum_p0 8 rfl) (fun s3 hp => ?_)
    refine x_aload_n 0 C rfl (dX8_weightSum_p0 9 rfl) ?_
    refine gX8_25 C rfl (by decide) tw_773 (dX8_weightSum_p0 10 rfl) ?_
    exact hret _ _ _ _ (dX8_weightSum_p0 11 rfl) hp
  · have hp := hp.1 hc
    refine x_ldc2 C tw_1101 (dX8_weightSum_p0 4 rfl) ?_
    exact hret _ _ _ _ (dX8_weightSum_p0 5 rfl) hp)
def P_X8_words (p1 : Int32) (σ : St) (K : Int32 → St → Prop) : Prop := P_X8_isSentence p1 σ (fun r2 s1 => (r2 = 0 → (K (-1000001) s1)) ∧ (¬ (r2 = 0) → vp_in p1 4 ∧ (K (s1.1 206 (ix p1)) s1)))
set_option maxHeartbeats 4000000 in
set_option maxRecDepth 100000 in
theorem m_X8_words (l : Launch) (ad : Nat → Nat) (D : va_G) (ca : Nat → ClassId) (had : adOk ad) (p1 : Int32)  (σ : St) (K : Int32 → St → Prop) (hp : P_X8_words p1 σ K) : CtI l ad D ca yX8_words cX8_words 2 .int 2 [.ref (ad 204), .int p1] σ K := CtI_of (av := fun ad => [.ref (ad 204), .int p1]) (plainFor_of_name (by decide)) had (Nat.le_of_ble_eq_true rfl) (fun κ C hret => by
  have C : Ok κ RX8 cX8_words 2 2 := C
  show GG κ 0 [(0, .ref (kad κ 204)), (1, .int p1)] [] σ
  unfold P_X8_words at hp
  refine x_aload_n 0 C rfl (dX8_words_p0 0 rfl) ?_
  refine x_iload_n 1 C rfl (dX8_words_p0 1 rfl) ?_
  refine x_cvI (As := [.int p1]) (st := []) C LRX8_98 (ci := 8) rfl rfl (by decide) (by decide) (m_X8_isSentence (kL κ) (kad κ) (kD κ) (kca κ) C.ado p1  σ _ hp) rfl (by decide) rfl (Nat.le_of_ble_eq_true rfl) (dX8_words_p0 2 rfl) (fun r2 s1 hp => ?_)
  refine x_if_eq (tgt := 17) C (dX8_words_p0 3 rfl) (by decide) (fun hc => ?_) (fun hc => ?_)
  · have hp := hp.1 hc
    refine x_ldc C tw_910 (dX8_words_p0 9 rfl) ?_
    exact hret _ _ _ _ (dX8_words_p0 10 rfl) (nar_i _) hp
  · have hp := hp.2 hc
    refine x_aload_n 0 C rfl (dX8_words_p0 4 rfl) ?_
    refine gX8_3 (b := 206) C rfl (by decide) rfl tw_751 (dX8_words_p0 5 rfl) ?_
    refine x_iload_n 1 C rfl (dX8_words_p0 6 rfl) ?_
    obtain ⟨h3, hp⟩ := hp
    refine x_iald C rfl (by decide) h3 (dX8_words_p0 7 rfl) ?_
    refine x_goto (tgt := 19) C (dX8_words_p0 8 rfl) (by decide) ?_
    exact hret _ _ _ _ (dX8_words_p0 10 rfl) (nar_i _) hp)
