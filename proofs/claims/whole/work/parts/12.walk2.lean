def J_X5_spreadForest_88 (K : St → Prop) (c25 : (Int32 × St) → Prop) (u1 : Int32) (u2 : Int32) (u3 : Int64) (u5 : Int32) (u6 : Int32) (σ : St) : Prop := ∀ v5 : Int32, v5 = ((u6 - 1) &&& u2) → c25 (v5, σ)
set_option maxHeartbeats 4000000 in
set_option maxRecDepth 100000 in
theorem J_X5_spreadForest_88_w {κ : Kap} {K : St → Prop} {c25 : (Int32 × St) → Prop} (C : Ok κ RX5 cX5_spreadForest 7 0) (hret : RetV κ cX5_spreadForest K) (u1 : Int32) (u2 : Int32) (u3 : Int64) (u5 : Int32) (u6 : Int32)       (σ : St) (hc25 : ∀ (u6 : Int32) (σ : St), c25 (u6, σ) → GG κ 25 [(0, .ref (kad κ 147)), (1, .int u1), (2, .int u2), (3, .long u3), (5, .int u5), (6, .int u6)] [] σ) (hp : J_X5_spreadForest_88 K c25 u1 u2 u3 u5 u6 σ) : GG κ 88 [(0, .ref (kad κ 147)), (1, .int u1), (2, .int u2), (3, .long u3), (5, .int u5), (6, .int u6)] [] σ := by
  unfold J_X5_spreadForest_88 at hp
  refine x_iload 5 C rfl (dX5_spreadForest_p0 63 rfl) ?_
  refine x_iconst (v := 1) C (by decide) (dX5_spreadForest_p1 0 rfl) ?_
  refine x_isub C (dX5_spreadForest_p1 1 rfl) ?_
  refine x_iload_n 2 C rfl (dX5_spreadForest_p1 2 rfl) ?_
  refine x_iand C (dX5_spreadForest_p1 3 rfl) ?_
  refine x_topI (fun v5 ev5 => ?_)
  have hp := hp v5 ev5
  refine x_istore (loc' := [(6, .int v5), (0, .ref (kad κ 147)), (1, .int u1), (2, .int u2), (3, .long u3), (5, .int u5)]) C (by decide) rfl (dX5_spreadForest_p1 4 rfl) ?_
  refine x_goto (tgt := 25) C (dX5_spreadForest_p1 5 rfl) (by decide) ?_
  refine x_loc (loc' := [(0, .ref (kad κ 147)), (1, .int u1), (2, .int u2), (3, .long u3), (5, .int u5), (6, .int v5)]) [1, 2, 3, 4, 5, 0] rfl ?_
  exact hc25 v5 σ hp
def F_X5_spreadForest_25 (K : St → Prop) (c25 : (Int32 × St) → Prop) (u1 : Int32) (u2 : Int32) (u3 : Int64) (u5 : Int32) (u6 : Int32) (σ : St) : Prop := (u6 ≤ 0 → (K σ)) ∧ (¬ (u6 ≤ 0) → (((u6 &&& u5) = 0 → (J_X5_spreadForest_88 K c25 u1 u2 u3 u5 u6 σ)) ∧ (¬ ((u6 &&& u5) = 0) → vp_in u1 7 ∧ vp_in u6 64 ∧ vp_in u1 7 ∧ (vp_in (u2 ^^^ u6) 64 ∧ (vp_in u6 64 ∧ ∀ s11 : St, s11 = wL σ (172 + 1 + ix u1) (ix u6) ((σ.2.1 (172 + 1 + ix u1) (ix u6)) + (u3 * (σ.2.1 (164 + 1 + ix u1) (ix (u2 ^^^ u6))))) → vp_in u1 7 ∧ (vp_in (u2 ^^^ u6) 64 ∧ vp_in u1 7 ∧ vp_in u6 64 ∧ (vp_in (u2 ^^^ u6) 64 ∧ ∀ s17 : St, s17 = wL s11 (180 + 1 + ix u1) (ix (u2 ^^^ u6)) ((s11.2.1 (180 + 1 + ix u1) (ix (u2 ^^^ u6))) + (u3 * (s11.2.1 (156 + 1 + ix u1) (ix u6)))) → (J_X5_spreadForest_88 K c25 u1 u2 u3 u5 u6 s17))))))))
set_option maxHeartbeats 4000000 in
set_option maxRecDepth 100000 in
theorem F_X5_spreadForest_25_w {κ : Kap} {K : St → Prop} {c25 : (Int32 × St) → Prop} (C : Ok κ RX5 cX5_spreadForest 7 0) (hret : RetV κ cX5_spreadForest K) (u1 : Int32) (u2 : Int32) (u3 : Int64) (u5 : Int32) (u6 : Int32)       (σ : St) (hc25 : ∀ (u6 : Int32) (σ : St), c25 (u6, σ) → GG κ 25 [(0, .ref (kad κ 147)), (1, .int u1), (2, .int u2), (3, .long u3), (5, .int u5), (6, .int u6)] [] σ) (hp : F_X5_spreadForest_25 K c25 u1 u2 u3 u5 u6 σ) : GG κ 25 [(0, .ref (kad κ 147)), (1, .int u1), (2, .int u2), (3, .long u3), (5, .int u5), (6, .int u6)] [] σ := by
  unfold F_X5_spreadForest_25 at hp
  refine x_iload 5 C rfl (dX5_spreadForest_p0 19 rfl) ?_
  refine x_if_le (tgt := 99) C (dX5_spreadForest_p0 20 rfl) (by decide) (fun hc => ?_) (fun hc => ?_)
  · have hp := hp.1 hc
    exact hret _ _ _ (dX5_spreadForest_p1 6 rfl) hp
  · have hp := hp.2 hc
    refine x_iload 5 C rfl (dX5_spreadForest_p0 21 rfl) ?_
    refine x_iload 4 C rfl (dX5_spreadForest_p0 22 rfl) ?_
    refine x_iand C (dX5_spreadForest_p0 23 rfl) ?_
    refine x_if_eq (tgt := 88) C (dX5_spreadForest_p0 24 rfl) (by decide) (fun hc => ?_) (fun hc => ?_)
    · have hp := hp.1 hc
      exact J_X5_spreadForest_88_w C hret u1 u2 u3 u5 u6  σ hc25 hp
    · have hp := hp.2 hc
      refine x_aload_n 0 C rfl (dX5_spreadForest_p0 25 rfl) ?_
      refine gX5_5 (b := 172) C rfl (by decide) rfl tw_168 (dX5_spreadForest_p0 26 rfl) ?_
      refine x_iload_n 1 C rfl (dX5_spreadForest_p0 27 rfl) ?_
      obtain ⟨h6, hp⟩ := hp
      refine x_aald (c := 14) (b := 172 + 1 + ix u1) C rfl (by decide) rfl rfl (by decide) h6 (row_mr14 rfl (by decide) h6) (dX5_spreadForest_p0 28 rfl) ?_
      refine x_iload 5 C rfl (dX5_spreadForest_p0 29 rfl) ?_
      refine x_dup2 C rfl rfl (dX5_spreadForest_p0 30 rfl) ?_
      obtain ⟨h7, hp⟩ := hp
      refine x_lald C (row_kd14 rfl (by decide) h6) (row_lt14 rfl (by decide) h6) (vp_ln ((row_ln14 rfl (by decide) h6).trans rfl) h7) (dX5_spreadForest_p0 31 rfl) ?_
      refine x_lload_n 3 C rfl (dX5_spreadForest_p0 32 rfl) ?_
      refine x_aload_n 0 C rfl (dX5_spreadForest_p0 33 rfl) ?_
      refine gX5_4 (b := 164) C rfl (by decide) rfl tw_167 (dX5_spreadForest_p0 34 rfl) ?_
      refine x_iload_n 1 C rfl (dX5_spreadForest_p0 35 rfl) ?_
      obtain ⟨h8, hp⟩ := hp
      refine x_aald (c := 14) (b := 164 + 1 + ix u1) C rfl (by decide) rfl rfl (by decide) h8 (row_mr14 rfl (by decide) h8) (dX5_spreadForest_p0 36 rfl) ?_
      refine x_iload_n 2 C rfl (dX5_spreadForest_p0 37 rfl) ?_
      refine x_iload 5 C rfl (dX5_spreadForest_p0 38 rfl) ?_
      refine x_ixor C (dX5_spreadForest_p0 39 rfl) ?_
      obtain ⟨h9, hp⟩ := hp
      refine x_lald C (row_kd14 rfl (by decide) h8) (row_lt14 rfl (by decide) h8) (vp_ln ((row_ln14 rfl (by decide) h8).trans rfl) h9) (dX5_spreadForest_p0 40 rfl) ?_
      refine x_lmul C (dX5_spreadForest_p0 41 rfl) ?_
      refine x_ladd C (dX5_spreadForest_p0 42 rfl) ?_
      obtain ⟨h10, hp⟩ := hp
      refine x_last C (row_kd14 rfl (by decide) h6) (row_lt14 rfl (by decide) h6) (vp_ln ((row_ln14 rfl (by decide) h6).trans rfl) h10) (dX5_spreadForest_p0 43 rfl) ?_
      refine x_nmS (fun s11 es11 => ?_)
      have hp := hp s11 es11
      refine x_aload_n 0 C rfl (dX5_spreadForest_p0 44 rfl) ?_
      refine gX5_6 (b := 180) C rfl (by decide) rfl tw_169 (dX5_spreadForest_p0 45 rfl) ?_
      refine x_iload_n 1 C rfl (dX5_spreadForest_p0 46 rfl) ?_
      obtain ⟨h12, hp⟩ := hp
      refine x_aald (c := 14) (b := 180 + 1 + ix u1) C rfl (by decide) rfl rfl (by decide) h12 (row_mr14 rfl (by decide) h12) (dX5_spreadForest_p0 47 rfl) ?_
      refine x_iload_n 2 C rfl (dX5_spreadForest_p0 48 rfl) ?_
      refine x_iload 5 C rfl (dX5_spreadForest_p0 49 rfl) ?_
      refine x_ixor C (dX5_spreadForest_p0 50 rfl) ?_
      refine x_dup2 C rfl rfl (dX5_spreadForest_p0 51 rfl) ?_
      obtain ⟨h13, hp⟩ := hp
      refine x_lald C (row_kd14 rfl (by decide) h12) (row_lt14 rfl (by decide) h12) (vp_ln ((row_ln14 rfl (by decide) h12).trans rfl) h13) (dX5_spreadForest_p0 52 rfl) ?_
      refine x_lload_n 3 C rfl (dX5_spreadForest_p0 53 rfl) ?_
      refine x_aload_n 0 C rfl (dX5_spreadForest_p0 54 rfl) ?_
      refine gX5_3 (b := 156) C rfl (by decide) rfl tw_166 (dX5_spreadForest_p0 55 rfl) ?_
      refine x_iload_n 1 C rfl (dX5_spreadForest_p0 56 rfl) ?_
      obtain ⟨h14, hp⟩ := hp
      refine x_aald (c := 14) (b := 156 + 1 + ix u1) C rfl (by decide) rfl rfl (by decide) h14 (row_mr14 rfl (by decide) h14) (dX5_spreadForest_p0 57 rfl) ?_
      refine x_iload 5 C rfl (dX5_spreadForest_p0 58 rfl) ?_
      obtain ⟨h15, hp⟩ := hp
      refine x_lald C (row_kd14 rfl (by decide) h14) (row_lt14 rfl (by decide) h14) (vp_ln ((row_ln14 rfl (by decide) h14).trans rfl) h15) (dX5_spreadForest_p0 59 rfl) ?_
      refine x_lmul C (dX5_spreadForest_p0 60 rfl) ?_
      refine x_ladd C (dX5_spreadForest_p0 61 rfl) ?_
      obtain ⟨h16, hp⟩ := hp
      refine x_last C (row_kd14 rfl (by decide) h12) (row_lt14 rfl (by decide) h12) (vp_ln ((row_ln14 rfl (by decide) h12).trans rfl) h16) (dX5_spreadForest_p0 62 rfl) ?_
      refine x_nmS (fun s17 es17 => ?_)
      have hp := hp s17 es17
      exact J_X5_spreadForest_88_w C hret u1 u2 u3 u5 u6  s17 hc25 hp
def P_X5_spreadForest (p1 : Int32) (p2 : Int32) (σ : St) (K : St → Prop) : Prop := vp_in p1 7 ∧ vp_in p2 64 ∧ (∀ v3 : Int64, v3 = (σ.2.1 (180 + 1 + ix p1) (ix p2)) → ((v3 = 0 → (K σ)) ∧ (¬ (v3 = 0) → (∀ v4 : Int32, v4 = (p2 &&& (-p2)) → (LpE (fun c s => F_X5_spreadForest_25 K  c p1 p2 v3 v4 s.1 s.2) (p2, σ))))))
set_option maxHeartbeats 4000000 in
set_option maxRecDepth 100000 in
theorem m_X5_spreadForest (l : Launch) (ad : Nat → Nat) (D : va_G) (ca : Nat → ClassId) (had : adOk ad) (p1 : Int32) (p2 : Int32)  (σ : St) (K : St → Prop) (hp : P_X5_spreadForest p1 p2 σ K) : CtV l ad D ca yX5_spreadForest cX5_spreadForest 7 0 [.ref (ad 147), .int p1, .int p2] σ K := CtV_of (av := fun ad => [.ref (ad 147), .int p1, .int p2]) (plainFor_of_name (by decide)) had (Nat.le_of_ble_eq_true rfl) (fun κ C hret => by
  have C : Ok κ RX5 cX5_spreadForest 7 0 := C
  show GG κ 0 [(0, .ref (kad κ 147)), (1, .int p1), (2, .int p2)] [] σ
  unfold P_X5_spreadForest at hp
  refine x_aload_n 0 C rfl (dX5_spreadForest_p0 0 rfl) ?_
  refine gX5_6 (b := 180) C rfl (by decide) rfl tw_169 (dX5_spreadForest_p0 1 rfl) ?_
  refine x_iload_n 1 C rfl (dX5_spreadForest_p0 2 rfl) ?_
  obtain ⟨h1, hp⟩ := hp
  refine x_aald (c := 14) (b := 180 + 1 + ix p1) C rfl (by decide) rfl rfl (by decide) h1 (row_mr14 rfl (by decide) h1) (dX5_spreadForest_p0 3 rfl) ?_
  refine x_iload_n 2 C rfl (dX5_spreadForest_p0 4 rfl) ?_
  obtain ⟨h2, hp⟩ := hp
  refine x_lald C (row_kd14 rfl (by decide) h1) (row_lt14 rfl (by decide) h1) (vp_ln ((row_ln14 rfl (by decide) h1).trans rfl) h2) (dX5_spreadForest_p0 5 rfl) ?_
  refine x_topL (fun v3 ev3 => ?_)
  have hp := hp v3 ev3
  refine x_lstore_n (loc' := [(3, .long v3), (0, .ref (kad κ 147)), (1, .int p1), (2, .int p2)]) C rfl (by decide) rfl (dX5_spreadForest_p0 6 rfl) ?_
  refine x_lload_n 0 C rfl (dX5_spreadForest_p0 7 rfl) ?_
  refine x_lconst (v := 0) C (by decide) (dX5_spreadForest_p0 8 rfl) ?_
  refine x_lcmp C (dX5_spreadForest_p0 9 rfl) ?_
  refine x_if_ne (tgt := 16) C (dX5_spreadForest_p0 10 rfl) (by decide) (fun hc => ?_) (fun hc => ?_)
  · have hp := hp.2 (fun q => hc (lgc_eq.mpr q))
    refine x_iload_n 3 C rfl (dX5_spreadForest_p0 12 rfl) ?_
    refine x_iload_n 3 C rfl (dX5_spreadForest_p0 13 rfl) ?_
    refine x_ineg C (dX5_spreadForest_p0 14 rfl) ?_
    refine x_iand C (dX5_spreadForest_p0 15 rfl) ?_
    refine x_topI (fun v4 ev4 => ?_)
    have hp := hp v4 ev4
    refine x_istore (loc' := [(5, .int v4), (3, .long v3), (0, .ref (kad κ 147)), (1, .int p1), (2, .int p2)]) C (by decide) rfl (dX5_spreadForest_p0 16 rfl) ?_
    refine x_iload_n 4 C rfl (dX5_spreadForest_p0 17 rfl) ?_
    refine x_istore (loc' := [(6, .int p2), (5, .int v4), (3, .long v3), (0, .ref (kad κ 147)), (1, .int p1), (2, .int p2)]) C (by decide) rfl (dX5_spreadForest_p0 18 rfl) ?_
    refine x_loc (loc' := [(0, .ref (kad κ 147)), (1, .int p1), (2, .int p2), (3, .long v3), (5, .int v4), (6, .int p2)]) [3, 4, 5, 2, 1, 0] rfl ?_
    exact LpE_GG (S := (Int32 × St)) (F := fun c s => F_X5_spreadForest_25 K  c p1 p2 v3 v4 s.1 s.2) (W := fun s => GG κ 25 [(0, .ref (kad κ 147)), (1, .int p1), (2, .int p2), (3, .long v3), (5, .int v4), (6, .int s.1)] [] s.2) (fun c s hcc hp => F_X5_spreadForest_25_w C hret p1 p2 v3 v4 s.1  s.2  (fun u6 σ h => hcc (u6, σ) h) hp) hp
  · have hp := hp.1 (lgc_eq.mp hc)
    exact hret _ _ _ (dX5_spreadForest_p0 11 rfl) hp)
def F_X5_spreadBranch_27 (K : St → Prop) (c27 : (Int32 × St) → Prop) (u1 : Int32) (u2 : Int32) (u3 : Int64) (u5 : Int32) (σ : St) : Prop := ((σ.1 147 1) < u5 → (K σ)) ∧ (¬ ((σ.1 147 1) < u5) → P_X5_hasNode u2 u5 σ (fun r7 s6 => (r7 = 0 → ∀ v8 : Int32, v8 = u5 + 1 → c27 (v8, s6)) ∧ (¬ (r7 = 0) → P_X5_bit u5 s6 (fun r10 s9 => ∀ v11 : Int32, v11 = (u2 ^^^ r10) → vp_in u1 7 ∧ vp_in u5 7 ∧ vp_in u5 7 ∧ vp_in v11 64 ∧ (vp_in u5 7 ∧ ∀ s17 : St, s17 = wL s9 (188 + 1 + ix u1) (ix u5) ((s9.2.1 (188 + 1 + ix u1) (ix u5)) + (u3 * (s9.2.1 (164 + 1 + ix u5) (ix v11)))) → vp_in u5 7 ∧ vp_in v11 64 ∧ vp_in u1 7 ∧ vp_in u5 7 ∧ (vp_in v11 64 ∧ ∀ s23 : St, s23 = wL s17 (180 + 1 + ix u5) (ix v11) ((s17.2.1 (180 + 1 + ix u5) (ix v11)) + (u3 * (s17.2.1 (148 + 1 + ix u1) (ix u5)))) → ∀ v24 : Int32, v24 = u5 + 1 → c27 (v24, s23)))))))
set_option maxHeartbeats 4000000 in
set_option maxRecDepth 100000 in
theorem F_X5_spreadBranch_27_w {κ : Kap} {K : St → Prop} {c27 : (Int32 × St) → Prop} (C : Ok κ RX5 cX5_spreadBranch 7 2) (hret : RetV κ cX5_spreadBranch K) (u1 : Int32) (u2 : Int32) (u3 : Int64) (u5 : Int32)      (σ : St) (hc27 : ∀ (u5 : Int32) (σ : St), c27 (u5, σ) → GG κ 27 [(0, .ref (kad κ 147)), (1, .int u1), (2, .int u2), (3, .long u3), (5, .int u5)] [] σ) (hp : F_X5_spreadBranch_27 K c27 u1 u2 u3 u5 σ) : GG κ 27 [(0, .ref (kad κ 147)), (1, .int u1), (2, .int u2), (3, .long u3), (5, .int u5)] [] σ := by
  unfold F_X5_spreadBranch_27 at hp
  refine x_iload 4 C rfl (dX5_spreadBranch_p0 18 rfl) ?_
  refine x_aload_n 0 C rfl (dX5_spreadBranch_p0 19 rfl) ?_
  refine gX5_1 C rfl (by decide) tw_164 (dX5_spreadBranch_p0 20 rfl) ?_
  refine x_icmp_gt (tgt := 108) C (dX5_spreadBranch_p0 21 rfl) (by decide) (fun hc => ?_) (fun hc => ?_)
  · have hp := hp.1 hc
    exact hret _ _ _ (dX5_spreadBranch_p1 3 rfl) hp
  · have hp := hp.2 hc
    refine x_iload_n 2 C rfl (dX5_spreadBranch_p0 22 rfl) ?_
    refine x_iload 4 C rfl (dX5_spreadBranch_p0 23 rfl) ?_
    refine x_csI (As := [.int u2, .int u5]) (st := []) C LRX5_39 (m_X5_hasNode (kL κ) (kad κ) (kD κ) (kca κ) C.ado u2 u5  σ _ hp) rfl (by decide) rfl (Nat.le_of_ble_eq_true rfl) (dX5_spreadBranch_p0 24 rfl) (fun r7 s6 hp => ?_)
    refine x_if_eq (tgt := 102) C (dX5_spreadBranch_p0 25 rfl) (by decide) (fun hc => ?_) (fun hc => ?_)
    · have hp := hp.1 hc
      obtain ⟨v8, ev8⟩ : ∃ z : Int32, z = u5 + 1 := ⟨_, rfl⟩
      have hp := hp v8 ev8
      refine x_iinc (v := v8) (loc' := [(5, .int v8), (0, .ref (kad κ 147)), (1, .int u1), (2, .int u2), (3, .long u3)]) 4 C rfl (by rw [ev8]; rfl) (by decide) rfl (dX5_spreadBranch_p1 1 rfl) ?_
      refine x_goto (tgt := 27) C (dX5_spreadBranch_p1 2 rfl) (by decide) ?_
      refine x_loc (loc' := [(0, .ref (kad κ 147)), (1, .int u1), (2, .int u2), (3, .long u3), (5, .int v8)]) [1, 2, 3, 4, 0] rfl ?_
      exact hc27 v8 s6 hp
    · have hp := hp.2 hc
      refine x_iload_n 2 C rfl (dX5_spreadBranch_p0 26 rfl) ?_
      refine x_iload 4 C rfl (dX5_spreadBranch_p0 27 rfl) ?_
      refine x_csI (As := [.int u5]) (st := [.int u2]) C LRX5_60 (m_X5_bit (kL κ) (kad κ) (kD κ) (kca κ) C.ado u5  s6 _ hp) rfl (by decide) rfl (Nat.le_of_ble_eq_true rfl) (dX5_spreadBranch_p0 28 rfl) (fun r10 s9 hp => ?_)
      refine x_ixor C (dX5_spreadBranch_p0 29 rfl) ?_
      refine x_topI (fun v11 ev11 => ?_)
      have hp := hp v11 ev11
      refine x_istore (loc' := [(6, .int v11), (0, .ref (kad κ 147)), (1, .int u1), (2, .int u2), (3, .long u3), (5, .int u5)]) C (by decide) rfl (dX5_spreadBranch_p0 30 rfl) ?_
      refine x_aload_n 1 C rfl (dX5_spreadBranch_p0 31 rfl) ?_
      refine gX5_7 (b := 188) C rfl (by decide) rfl tw_170 (dX5_spreadBranch_p0 32 rfl) ?_
      refine x_iload_n 2 C rfl (dX5_spreadBranch_p0 33 rfl) ?_
      obtain ⟨h12, hp⟩ := hp
      refine x_aald (c := 14) (b := 188 + 1 + ix u1) C rfl (by decide) rfl rfl (by decide) h12 (row_mr14 rfl (by decide) h12) (dX5_spreadBranch_p0 34 rfl) ?_
      refine x_iload 5 C rfl (dX5_spreadBranch_p0 35 rfl) ?_
      refine x_dup2 C rfl rfl (dX5_spreadBranch_p0 36 rfl) ?_
      obtain ⟨h13, hp⟩ := hp
      refine x_lald C (row_kd14 rfl (by decide) h12) (row_lt14 rfl (by decide) h12) (vp_ln ((row_ln14 rfl (by decide) h12).trans rfl) h13) (dX5_spreadBranch_p0 37 rfl) ?_
      refine x_lload_n 4 C rfl (dX5_spreadBranch_p0 38 rfl) ?_
      refine x_aload_n 1 C rfl (dX5_spreadBranch_p0 39 rfl) ?_
      refine gX5_4 (b := 164) C rfl (by decide) rfl tw_167 (dX5_spreadBranch_p0 40 rfl) ?_
      refine x_iload 5 C rfl (dX5_spreadBranch_p0 41 rfl) ?_
      obtain ⟨h14, hp⟩ := hp
      refine x_aald (c := 14) (b := 164 + 1 + ix u5) C rfl (by decide) rfl rfl (by decide) h14 (row_mr14 rfl (by decide) h14) (dX5_spreadBranch_p0 42 rfl) ?_
      refine x_iload 0 C rfl (dX5_spreadBranch_p0 43 rfl) ?_
      obtain ⟨h15, hp⟩ := hp
      refine x_lald C (row_kd14 rfl (by decide) h14) (row_lt14 rfl (by decide) h14) (vp_ln ((row_ln14 rfl (by decide) h14).trans rfl) h15) (dX5_spreadBranch_p0 44 rfl) ?_
      refine x_lmul C (dX5_spreadBranch_p0 45 rfl) ?_
      refine x_ladd C (dX5_spreadBranch_p0 46 rfl) ?_
      obtain ⟨h16, hp⟩ := hp
      refine x_last C (row_kd14 rfl (by decide) h12) (row_lt14 rfl (by decide) h12) (vp_ln ((row_ln14 rfl (by decide) h12).trans rfl) h16) (dX5_spreadBranch_p0 47 rfl) ?_
      refine x_nmS (fun s17 es17 => ?_)
      have hp := hp s17 es17
      refine x_aload_n 1 C rfl (dX5_spreadBranch_p0 48 rfl) ?_
      refine gX5_6 (b := 180) C rfl (by decide) rfl tw_169 (dX5_spreadBranch_p0 49 rfl) ?_
      refine x_iload 5 C rfl (dX5_spreadBranch_p0 50 rfl) ?_
      obtain ⟨h18, hp⟩ := hp
      refine x_aald (c := 14) (b := 180 + 1 + ix u5) C rfl (by decide) rfl rfl (by decide) h18 (row_mr14 rfl (by decide) h18) (dX5_spreadBranch_p0 51 rfl) ?_
      refine x_iload 0 C rfl (dX5_spreadBranch_p0 52 rfl) ?_
      refine x_dup2 C rfl rfl (dX5_spreadBranch_p0 53 rfl) ?_
      obtain ⟨h19, hp⟩ := hp
      refine x_lald C (row_kd14 rfl (by decide) h18) (row_lt14 rfl (by decide) h18) (vp_ln ((row_ln14 rfl (by decide) h18).trans rfl) h19) (dX5_spreadBranch_p0 54 rfl) ?_
      refine x_lload_n 4 C rfl (dX5_spreadBranch_p0 55 rfl) ?_
      refine x_aload_n 1 C rfl (dX5_spreadBranch_p0 56 rfl) ?_
      refine gX5_2 (b := 148) C rfl (by decide) rfl tw_165 (dX5_spreadBranch_p0 57 rfl) ?_
      refine x_iload_n 2 C rfl (dX5_spreadBranch_p0 58 rfl) ?_
      obtain ⟨h20, hp⟩ := hp
      refine x_aald (c := 14) (b := 148 + 1 + ix u1) C rfl (by decide) rfl rfl (by decide) h20 (row_mr14 rfl (by decide) h20) (dX5_spreadBranch_p0 59 rfl) ?_
      refine x_iload 5 C rfl (dX5_spreadBranch_p0 60 rfl) ?_
      obtain ⟨h21, hp⟩ := hp
      refine x_lald C (row_kd14 rfl (by decide) h20) (row_lt14 rfl (by decide) h20) (vp_ln ((row_ln14 rfl (by decide) h20).trans rfl) h21) (dX5_spreadBranch_p0 61 rfl) ?_
      refine x_lmul C (dX5_spreadBranch_p0 62 rfl) ?_
      refine x_ladd C (dX5_spreadBranch_p0 63 rfl) ?_
      obtain ⟨h22, hp⟩ := hp
      refine x_last C (row_kd14 rfl (by decide) h18) (row_lt14 rfl (by decide) h18) (vp_ln ((row_ln14 rfl (by decide) h18).trans rfl) h22) (dX5_spreadBranch_p1 0 rfl) ?_
      refine x_nmS (fun s23 es23 => ?_)
      have hp := hp s23 es23
      obtain ⟨v24, ev24⟩ : ∃ z : Int32, z = u5 + 1 := ⟨_, rfl⟩
      have hp := hp v24 ev24
      refine x_iinc (v := v24) (loc' := [(5, .int v24), (6, .int v11), (0, .ref (kad κ 147)), (1, .int u1), (2, .int u2), (3, .long u3)]) 5 C rfl (by rw [ev24]; rfl) (by decide) rfl (dX5_spreadBranch_p1 1 rfl) ?_
      refine x_goto (tgt := 27) C (dX5_spreadBranch_p1 2 rfl) (by decide) ?_
      refine x_loc (loc' := [(0, .ref (kad κ 147)), (1, .int u1), (2, .int u2), (3, .long u3), (5, .int v24)]) [2, 3, 4, 5, 0] rfl ?_
      exact hc27 v24 s23 hp
def P_X5_spreadBranch (p1 : Int32) (p2 : Int32) (σ : St) (K : St → Prop) : Prop := vp_in p1 7 ∧ vp_in p2 64 ∧ (∀ v3 : Int64, v3 = (σ.2.1 (172 + 1 + ix p1) (ix p2)) → ((v3 = 0 → (K σ)) ∧ (¬ (v3 = 0) → P_X5_mayBranch p2 σ (fun r5 s4 => (r5 = 0 → (K s4)) ∧ (¬ (r5 = 0) → (LpE (fun c s => F_X5_spreadBranch_27 K  c p1 p2 v3 s.1 s.2) (1, s4)))))))
set_option maxHeartbeats 4000000 in
set_option maxRecDepth 100000 in
theorem m_X5_spreadBranch (l : Launch) (ad : Nat → Nat) (D : va_G) (ca : Nat → ClassId) (had : adOk ad) (p1 : Int32) (p2 : Int32)  (σ : St) (K : St → Prop) (hp : P_X5_spreadBranch p1 p2 σ K) : CtV l ad D ca yX5_spreadBranch cX5_spreadBranch 7 2 [.ref (ad 147), .int p1, .int p2] σ K := CtV_of (av := fun ad => [.ref (ad 147), .int p1, .int p2]) (plainFor_of_name (by decide)) had (Nat.le_of_ble_eq_true rfl) (fun κ C hret => by
  have C : Ok κ RX5 cX5_spreadBranch 7 2 := C
  show GG κ 0 [(0, .ref (kad κ 147)), (1, .int p1), (2, .int p2)] [] σ
  unfold P_X5_spreadBranch at hp
  refine x_aload_n 0 C rfl (dX5_spreadBranch_p0 0 rfl) ?_
  refine gX5_5 (b := 172) C rfl (by decide) rfl tw_168 (dX5_spreadBranch_p0 1 rfl) ?_
  refine x_iload_n 1 C rfl (dX5_spreadBranch_p0 2 rfl) ?_
  obtain ⟨h1, hp⟩ := hp
  refine x_aald (c := 14) (b := 172 + 1 + ix p1) C rfl (by decide) rfl rfl (by decide) h1 (row_mr14 rfl (by decide) h1) (dX5_spreadBranch_p0 3 rfl) ?_
  refine x_iload_n 2 C rfl (dX5_spreadBranch_p0 4 rfl) ?_
  obtain ⟨h2, hp⟩ := hp
  refine x_lald C (row_kd14 rfl (by decide) h1) (row_lt14 rfl (by decide) h1) (vp_ln ((row_ln14 rfl (by decide) h1).trans rfl) h2) (dX5_spreadBranch_p0 5 rfl) ?_
  refine x_topL (fun v3 ev3 => ?_)
  have hp := hp v3 ev3
  refine x_lstore_n (loc' := [(3, .long v3), (0, .ref (kad κ 147)), (1, .int p1), (2, .int p2)]) C rfl (by decide) rfl (dX5_spreadBranch_p0 6 rfl) ?_
  refine x_lload_n 0 C rfl (dX5_spreadBranch_p0 7 rfl) ?_
  refine x_lconst (v := 0) C (by decide) (dX5_spreadBranch_p0 8 rfl) ?_
  refine x_lcmp C (dX5_spreadBranch_p0 9 rfl) ?_
  refine x_if_eq (tgt := 23) C (dX5_spreadBranch_p0 10 rfl) (by decide) (fun hc => ?_) (fun hc => ?_)
  · have hp := hp.1 (lgc_eq.mp hc)
    exact hret _ _ _ (dX5_spreadBranch_p0 15 rfl) hp
  · have hp := hp.2 (fun q => hc (lgc_eq.mpr q))
    refine x_aload_n 1 C rfl (dX5_spreadBranch_p0 11 rfl) ?_
    refine x_iload_n 3 C rfl (dX5_spreadBranch_p0 12 rfl) ?_
    refine x_cvI (As := [.int p2]) (st := []) C LRX5_56 (ci := 5) rfl rfl (by decide) (by decide) (m_X5_mayBranch (kL κ) (kad κ) (kD κ) (kca κ) C.ado p2  σ _ hp) rfl (by decide) rfl (Nat.le_of_ble_eq_true rfl) (dX5_spreadBranch_p0 13 rfl) (fun r5 s4 hp => ?_)
    refine x_if_ne (tgt := 24) C (dX5_spreadBranch_p0 14 rfl) (by decide) (fun hc => ?_) (fun hc => ?_)
    · have hp := hp.2 hc
      refine x_iconst (v := 1) C (by decide) (dX5_spreadBranch_p0 16 rfl) ?_
      refine x_istore (loc' := [(5, .int 1), (3, .long v3), (0, .ref (kad κ 147)), (1, .int p1), (2, .int p2)]) C (by decide) rfl (dX5_spreadBranch_p0 17 rfl) ?_
      refine x_loc (loc' := [(0, .ref (kad κ 147)), (1, .int p1), (2, .int p2), (3, .long v3), (5, .int 1)]) [2, 3, 4, 1, 0] rfl ?_
      exact LpE_GG (S := (Int32 × St)) (F := fun c s => F_X5_spreadBranch_27 K  c p1 p2 v3 s.1 s.2) (W := fun s => GG κ 27 [(0, .ref (kad κ 147)), (1, .int p1), (2, .int p2), (3, .long v3), (5, .int s.1)] [] s.2) (fun c s hcc hp => F_X5_spreadBranch_27_w C hret p1 p2 v3 s.1  s.2  (fun u5 σ h => hcc (u5, σ) h) hp) hp
    · have hp := hp.1 hc
      exact hret _ _ _ (dX5_spreadBranch_p0 15 rfl) hp)
def F_X5_spread_53 (K : St → Prop) (c46 : (Int32 × St) → Prop) (c53 : (Int32 × St) → Prop) (u2 : Int32) (u3 : Int32) (σ : St) : Prop := ((σ.1 147 1) < u3 → (∀ v5 : Int32, v5 = u2 + (-1) → c46 (v5, σ))) ∧ (¬ ((σ.1 147 1) < u3) → P_X5_hasNode u2 u3 σ (fun r7 s6 => (r7 = 0 → P_X5_spreadForest u3 u2 s6 (fun s9 => P_X5_spreadBranch u3 u2 s9 (fun s10 => ∀ v11 : Int32, v11 = u3 + 1 → c53 (v11, s10)))) ∧ (¬ (r7 = 0) → ∀ v8 : Int32, v8 = u3 + 1 → c53 (v8, s6))))
set_option maxHeartbeats 4000000 in
set_option maxRecDepth 100000 in
theorem F_X5_spread_53_w {κ : Kap} {K : St → Prop} {c46 : (Int32 × St) → Prop} {c53 : (Int32 × St) → Prop} (C : Ok κ RX5 cX5_spread 4 3) (hret : RetV κ cX5_spread K) (u2 : Int32) (u3 : Int32)    (σ : St) (hc46 : ∀ (u2 : Int32) (σ : St), c46 (u2, σ) → GG κ 46 [(0, .ref (kad κ 147)), (2, .int u2)] [] σ) (hc53 : ∀ (u3 : Int32) (σ : St), c53 (u3, σ) → GG κ 53 [(0, .ref (kad κ 147)), (2, .int u2), (3, .int u3)] [] σ) (hp : F_X5_spread_53 K c46 c53 u2 u3 σ) : GG κ 53 [(0, .ref (kad κ 147)), (2, .int u2), (3, .int u3)] [] σ := by
  unfold F_X5_spread_53 at hp
  refine x_iload_n 2 C rfl (dX5_spread_p0 35 rfl) ?_
  refine x_aload_n 0 C rfl (dX5_spread_p0 36 rfl) ?_
  refine gX5_1 C rfl (by decide) tw_164 (dX5_spread_p0 37 rfl) ?_
  refine x_icmp_gt (tgt := 87) C (dX5_spread_p0 38 rfl) (by decide) (fun hc => ?_) (fun hc => ?_)
  · have hp := hp.1 hc
    obtain ⟨v5, ev5⟩ : ∃ z : Int32, z = u2 + (-1) := ⟨_, rfl⟩
    have hp := hp v5 ev5
    refine x_iinc (v := v5) (loc' := [(2, .int v5), (0, .ref (kad κ 147)), (3, .int u3)]) 1 C rfl (by rw [ev5]; rfl) (by decide) rfl (dX5_spread_p0 53 rfl) ?_
    refine x_goto (tgt := 46) C (dX5_spread_p0 54 rfl) (by decide) ?_
    refine x_loc (loc' := [(0, .ref (kad κ 147)), (2, .int v5)]) [1, 0] rfl ?_
    exact hc46 v5 σ hp
  · have hp := hp.2 hc
    refine x_iload_n 1 C rfl (dX5_spread_p0 39 rfl) ?_
    refine x_iload_n 2 C rfl (dX5_spread_p0 40 rfl) ?_
    refine x_csI (As := [.int u2, .int u3]) (st := []) C LRX5_39 (m_X5_hasNode (kL κ) (kad κ) (kD κ) (kca κ) C.ado u2 u3  σ _ hp) rfl (by decide) rfl (Nat.le_of_ble_eq_true rfl) (dX5_spread_p0 41 rfl) (fun r7 s6 hp => ?_)
    refine x_if_ne (tgt := 81) C (dX5_spread_p0 42 rfl) (by decide) (fun hc => ?_) (fun hc => ?_)
    · have hp := hp.2 hc
      obtain ⟨v8, ev8⟩ : ∃ z : Int32, z = u3 + 1 := ⟨_, rfl⟩
      have hp := hp v8 ev8
      refine x_iinc (v := v8) (loc' := [(3, .int v8), (0, .ref (kad κ 147)), (2, .int u2)]) 2 C rfl (by rw [ev8]; rfl) (by decide) rfl (dX5_spread_p0 51 rfl) ?_
      refine x_goto (tgt := 53) C (dX5_spread_p0 52 rfl) (by decide) ?_
      refine x_loc (loc' := [(0, .ref (kad κ 147)), (2, .int u2), (3, .int v8)]) [1, 2, 0] rfl ?_
      exact hc53 v8 s6 hp
    · have hp := hp.1 hc
      refine x_aload_n 0 C rfl (dX5_spread_p0 43 rfl) ?_
      refine x_iload_n 2 C rfl (dX5_spread_p0 44 rfl) ?_
      refine x_iload_n 1 C rfl (dX5_spread_p0 45 rfl) ?_
      refine x_cvV (As := [.int u3, .int u2]) (st := []) C LRX5_67 (ci := 5) rfl rfl (by decide) (by decide) (m_X5_spreadForest (kL κ) (kad κ) (kD κ) (kca κ) C.ado u3 u2  s6 _ hp) rfl (by decide) rfl (Nat.le_of_ble_eq_true rfl) (dX5_spread_p0 46 rfl) (fun s9 hp => ?_)
      refine x_aload_n 0 C rfl (dX5_spread_p0 47 rfl) ?_
      refine x_iload_n 2 C rfl (dX5_spread_p0 48 rfl) ?_
      refine x_iload_n 1 C rfl (dX5_spread_p0 49 rfl) ?_
      refine x_cvV (As := [.int u3, .int u2]) (st := []) C LRX5_71 (ci := 5) rfl rfl (by decide) (by decide) (m_X5_spreadBranch (kL κ) (kad κ) (kD κ) (kca κ) C.ado u3 u2  s9 _ hp) rfl (by decide) rfl (Nat.le_of_ble_eq_true rfl) (dX5_spread_p0 50 rfl) (fun s10 hp => ?_)
      obtain ⟨v11, ev11⟩ : ∃ z : Int32, z = u3 + 1 := ⟨_, rfl⟩
      have hp := hp v11 ev11
      refine x_iinc (v := v11) (loc' := [(3, .int v11), (0, .ref (kad κ 147)), (2, .int u2)]) 2 C rfl (by rw [ev11]; rfl) (by decide) rfl (dX5_spread_p0 51 rfl) ?_
      refine x_goto (tgt := 53) C (dX5_spread_p0 52 rfl) (by decide) ?_
      refine x_loc (loc' := [(0, .ref (kad κ 147)), (2, .int u2), (3, .int v11)]) [1, 2, 0] rfl ?_
      exact hc53 v11 s10 hp
def F_X5_spread_46 (K : St → Prop) (c46 : (Int32 × St) → Prop) (u2 : Int32) (σ : St) : Prop := (u2 < 1 → (K σ)) ∧ (¬ (u2 < 1) → (LpE (fun c s => F_X5_spread_53 K c46 c u2 s.1 s.2) (0, σ)))
set_option maxHeartbeats 4000000 in
set_option maxRecDepth 100000 in
theorem F_X5_spread_46_w {κ : Kap} {K : St → Prop} {c46 : (Int32 × St) → Prop} (C : Ok κ RX5 cX5_spread 4 3) (hret : RetV κ cX5_spread K) (u2 : Int32)   (σ : St) (hc46 : ∀ (u2 : Int32) (σ : St), c46 (u2, σ) → GG κ 46 [(0, .ref (kad κ 147)), (2, .int u2)] [] σ) (hp : F_X5_spread_46 K c46 u2 σ) : GG κ 46 [(0, .ref (kad κ 147)), (2, .int u2)] [] σ := by
  unfold F_X5_spread_46 at hp
  refine x_iload_n 1 C rfl (dX5_spread_p0 30 rfl) ?_
  refine x_iconst (v := 1) C (by decide) (dX5_spread_p0 31 rfl) ?_
  refine x_icmp_lt (tgt := 93) C (dX5_spread_p0 32 rfl) (by decide) (fun hc => ?_) (fun hc => ?_)
  · have hp := hp.1 hc
    exact hret _ _ _ (dX5_spread_p0 55 rfl) hp
  · have hp := hp.2 hc
    refine x_iconst (v := 0) C (by decide) (dX5_spread_p0 33 rfl) ?_
    refine x_istore_n (loc' := [(3, .int 0), (0, .ref (kad κ 147)), (2, .int u2)]) C rfl (by decide) rfl (dX5_spread_p0 34 rfl) ?_
    refine x_loc (loc' := [(0, .ref (kad κ 147)), (2, .int u2), (3, .int 0)]) [1, 2, 0] rfl ?_
    exact LpE_GG (S := (Int32 × St)) (F := fun c s => F_X5_spread_53 K c46 c u2 s.1 s.2) (W := fun s => GG κ 53 [(0, .ref (kad κ 147)), (2, .int u2), (3, .int s.1)] [] s.2) (fun c s hcc hp => F_X5_spread_53_w C hret u2 s.1  s.2 hc46 (fun u3 σ h => hcc (u3, σ) h) hp) hp
def P_X5_spread  (σ : St) (K : St → Prop) : Prop := P_X5_clearGains  σ (fun s1 => ∀ v2 : Int32, v2 = ((1 <<< ((s1.1 147 1) &&& 31)) - 1) → (((s1.1 125 0) = 0 → (vp_in v2 64 ∧ ∀ s4 : St, s4 = wL s1 (180 + 1 + ix 0) (ix v2) 1 → (LpE (fun c s => F_X5_spread_46 K  c s.1 s.2) (v2, s4)))) ∧ (¬ ((s1.1 125 0) = 0) → (vp_in v2 64 ∧ ∀ s13 : St, s13 = wL s1 (172 + 1 + ix 0) (ix v2) 1 → (LpE (fun c s => F_X5_spread_46 K  c s.1 s.2) (v2, s13))))))
set_option maxHeartbeats 4000000 in
set_option maxRecDepth 100000 in
theorem m_X5_spread (l : Launch) (ad : Nat → Nat) (D : va_G) (ca : Nat → ClassId) (had : adOk ad)   (σ : St) (K : St → Prop) (hp : P_X5_spread  σ K) : CtV l ad D ca yX5_spread cX5_spread 4 3 [.ref (ad 147)] σ K := CtV_of (av := fun ad => [.ref (ad 147)]) (plainFor_of_name (by decide)) had (Nat.le_of_ble_eq_true rfl) (fun κ C hret => by
  have C : Ok κ RX5 cX5_spread 4 3 := C
  show GG κ 0 [(0, .ref (kad κ 147))] [] σ
  unfold P_X5_spread at hp
  refine x_aload_n 0 C rfl (dX5_spread_p0 0 rfl) ?_
  refine x_cvV (As := []) (st := []) C LRX5_64 (ci := 5) rfl rfl (by decide) (by decide) (m_X5_clearGains (kL κ) (kad κ) (kD κ) (kca κ) C.ado   σ _ hp) rfl (by decide) rfl (Nat.le_of_ble_eq_true rfl) (dX5_spread_p0 1 rfl) (fun s1 hp => ?_)
  refine x_iconst (v := 1) C (by decide) (dX5_spread_p0 2 rfl) ?_
  refine x_aload_n 0 C rfl (dX5_spread_p0 3 rfl) ?_
  refine gX5_1 C rfl (by decide) tw_164 (dX5_spread_p0 4 rfl) ?_
  refine x_ishl C (dX5_spread_p0 5 rfl) ?_
  refine x_iconst (v := 1) C (by decide) (dX5_spread_p0 6 rfl) ?_
  refine x_isub C (dX5_spread_p0 7 rfl) ?_
  refine x_topI (fun v2 ev2 => ?_)
  have hp := hp v2 ev2
  refine x_istore_n (loc' := [(1, .int v2), (0, .ref (kad κ 147))]) C rfl (by decide) rfl (dX5_spread_p0 8 rfl) ?_
  refine x_aload_n 1 C rfl (dX5_spread_p0 9 rfl) ?_
  refine gX5_0 (b := 125) C rfl (by decide) rfl tw_163 (dX5_spread_p0 10 rfl) ?_
  refine gX1_0 C rfl (by decide) tw_97 (dX5_spread_p0 11 rfl) ?_
  refine x_if_eq (tgt := 35) C (dX5_spread_p0 12 rfl) (by decide) (fun hc => ?_) (fun hc => ?_)
  · have hp := hp.1 hc
    refine x_aload_n 1 C rfl (dX5_spread_p0 21 rfl) ?_
    refine gX5_6 (b := 180) C rfl (by decide) rfl tw_169 (dX5_spread_p0 22 rfl) ?_
    refine x_iconst (v := 0) C (by decide) (dX5_spread_p0 23 rfl) ?_
    refine x_aald (c := 14) (b := 180 + 1 + ix 0) C rfl (by decide) rfl rfl (by decide) (vp_lit (by decide) (by decide)) (row_mr14 rfl (by decide) (vp_lit (by decide) (by decide))) (dX5_spread_p0 24 rfl) ?_
    refine x_iload_n 0 C rfl (dX5_spread_p0 25 rfl) ?_
    refine x_lconst (v := 1) C (by decide) (dX5_spread_p0 26 rfl) ?_
    obtain ⟨h3, hp⟩ := hp
    refine x_last C (row_kd14 rfl (by decide) (vp_lit (by decide) (by decide))) (row_lt14 rfl (by decide) (vp_lit (by decide) (by decide))) (vp_ln ((row_ln14 rfl (by decide) (vp_lit (by decide) (by decide))).trans rfl) h3) (dX5_spread_p0 27 rfl) ?_
    refine x_nmS (fun s4 es4 => ?_)
    have hp := hp s4 es4
    refine x_iload_n 0 C rfl (dX5_spread_p0 28 rfl) ?_
    refine x_istore_n (loc' := [(2, .int v2), (1, .int v2), (0, .ref (kad κ 147))]) C rfl (by decide) rfl (dX5_spread_p0 29 rfl) ?_
    refine x_loc (loc' := [(0, .ref (kad κ 147)), (2, .int v2)]) [2, 0] rfl ?_
    exact LpE_GG (S := (Int32 × St)) (F := fun c s => F_X5_spread_46 K  c s.1 s.2) (W := fun s => GG κ 46 [(0, .ref (kad κ 147)), (2, .int s.1)] [] s.2) (fun c s hcc hp => F_X5_spread_46_w C hret s.1  s.2  (fun u2 σ h => hcc (u2, σ) h) hp) hp
  · have hp := hp.2 hc
    refine x_aload_n 1 C rfl (dX5_spread_p0 13 rfl) ?_
    refine gX5_5 (b := 172) C rfl (by decide) rfl tw_168 (dX5_spread_p0 14 rfl) ?_
    refine x_iconst (v := 0) C (by decide) (dX5_spread_p0 15 rfl) ?_
    refine x_aald (c := 14) (b := 172 + 1 + ix 0) C rfl (by decide) rfl rfl (by decide) (vp_lit (by decide) (by decide)) (row_mr14 rfl (by decide) (vp_lit (by decide) (by decide))) (dX5_spread_p0 16 rfl) ?_
    refine x_iload_n 0 C rfl (dX5_spread_p0 17 rfl) ?_
    refine x_lconst (v := 1) C (by decide) (dX5_spread_p0 18 rfl) ?_
    obtain ⟨h12, hp⟩ := hp
    refine x_last C (row_kd14 rfl (by decide) (vp_lit (by decide) (by decide))) (row_lt14 rfl (by decide) (vp_lit (by decide) (by decide))) (vp_ln ((row_ln14 rfl (by decide) (vp_lit (by decide) (by decide))).trans rfl) h12) (dX5_spread_p0 19 rfl) ?_
    refine x_nmS (fun s13 es13 => ?_)
    have hp := hp s13 es13
    refine x_goto (tgt := 44) C (dX5_spread_p0 20 rfl) (by decide) ?_
    refine x_iload_n 0 C rfl (dX5_spread_p0 28 rfl) ?_
    refine x_istore_n (loc' := [(2, .int v2), (1, .int v2), (0, .ref (kad κ 147))]) C rfl (by decide) rfl (dX5_spread_p0 29 rfl) ?_
    refine x_loc (loc' := [(0, .ref (kad κ 147)), (2, .int v2)]) [2, 0] rfl ?_
    exact LpE_GG (S := (Int32 × St)) (F := fun c s => F_X5_spread_46 K  c s.1 s.2) (W := fun s => GG κ 46 [(0, .ref (kad κ 147)), (2, .int s.1)] [] s.2) (fun c s hcc hp => F_X5_spread_46_w C hret s.1  s.2  (fun u2 σ h => hcc (u2, σ) h) hp) hp)
def P_X6_clamp (p0 : Int32) (σ : St) (K : Int32 → St → Prop) : Prop := ∀ v1 : Int32, v1 = (if p0 < 999 then p0 else 999) → (∀ v2 : Int32, v2 = (if (-999) < v1 then v1 else (-999)) → (K v2 σ))
set_option maxHeartbeats 4000000 in
set_option maxRecDepth 100000 in
theorem m_X6_clamp (l : Launch) (ad : Nat → Nat) (D : va_G) (ca : Nat → ClassId) (had : adOk ad) (p0 : Int32)  (σ : St) (K : Int32 → St → Prop) (hp : P_X6_clamp p0 σ K) : CtI l ad D ca yX6_clamp cX6_clamp 1 .int 1 [.int p0] σ K := CtI_of (av := fun ad => [.int p0]) (plainFor_of_name (by decide)) had (Nat.le_of_ble_eq_true rfl) (fun κ C hret => by
  have C : Ok κ RX6 cX6_clamp 1 1 := C
  show GG κ 0 [(0, .int p0)] [] σ
  unfold P_X6_clamp at hp
  refine x_sipush (v := -999) C (by decide) (dX6_clamp_p0 0 rfl) ?_
  refine x_sipush (v := 999) C (by decide) (dX6_clamp_p0 1 rfl) ?_
  refine x_iload_n 0 C rfl (dX6_clamp_p0 2 rfl) ?_
  refine x_min C tw_701 tw_420 tw_11 tw_421 (by decide) (Nat.le_of_ble_eq_true rfl) (dX6_clamp_p0 3 rfl) ?_
  refine x_topI (fun v1 ev1 => ?_)
  have hp := hp v1 ev1
  refine x_max C tw_702 tw_423 tw_11 tw_424 (by decide) (Nat.le_of_ble_eq_true rfl) (dX6_clamp_p0 4 rfl) ?_
  refine x_topI (fun v2 ev2 => ?_)
  have hp := hp v2 ev2
  exact hret _ _ _ _ (dX6_clamp_p0 5 rfl) (nar_i _) hp)
def F_X6_copyFrom_35 (K : St → Prop) (c35 : (Int32 × St) → Prop) (u0 : Nat) (u1 : Nat) (u2 : Int32) (σ : St) : Prop := (2 ≤ u2 → (K σ)) ∧ (¬ (2 ≤ u2) → vp_in u2 2 ∧ vp_in u2 2 ∧ (∀ s3 : St, s3 = wC σ ((u0 + 11) + 1 + ix u2) ((u1 + 11) + 1 + ix u2) 7 → ∀ v4 : Int32, v4 = u2 + 1 → c35 (v4, s3)))
set_option maxHeartbeats 4000000 in
set_option maxRecDepth 100000 in
theorem F_X6_copyFrom_35_w {κ : Kap} {K : St → Prop} {c35 : (Int32 × St) → Prop} (C : Ok κ RX6 cX6_copyFrom 3 1) (hret : RetV κ cX6_copyFrom K) (u0 : Nat) (u1 : Nat) (u2 : Int32) (hu0 : wOk u0) (hu1 : wOk u1)  (σ : St) (hc35 : ∀ (u2 : Int32) (σ : St), c35 (u2, σ) → GG κ 35 [(0, .ref (kad κ u0)), (1, .ref (kad κ u1)), (2, .int u2)] [] σ) (hp : F_X6_copyFrom_35 K c35 u0 u1 u2 σ) : GG κ 35 [(0, .ref (kad κ u0)), (1, .ref (kad κ u1)), (2, .int u2)] [] σ := by
  unfold F_X6_copyFrom_35 at hp
  refine x_iload_n 2 C rfl (dX6_copyFrom_p0 21 rfl) ?_
  refine x_iconst (v := 2) C (by decide) (dX6_copyFrom_p0 22 rfl) ?_
  refine x_icmp_ge (tgt := 65) C (dX6_copyFrom_p0 23 rfl) (by decide) (fun hc => ?_) (fun hc => ?_)
  · have hp := hp.1 hc
    exact hret _ _ _ (dX6_copyFrom_p0 38 rfl) hp
  · have hp := hp.2 hc
    refine x_aload_n 1 C rfl (dX6_copyFrom_p0 24 rfl) ?_
    refine gX6_1 (b := u1 + 11) C (w_kd hu1) (w_lt hu1) (w_m1 hu1) tw_82 (dX6_copyFrom_p0 25 rfl) ?_
    refine x_iload_n 2 C rfl (dX6_copyFrom_p0 26 rfl) ?_
    obtain ⟨h1, hp⟩ := hp
    refine x_aald (c := 13) (b := (u1 + 11) + 1 + ix u2) C (w_kd1 hu1) (by decide) rfl rfl (w_lt1 hu1) (vp_ln (w_ln1 hu1) h1) (row_mr13 (w_kd1 hu1) (w_lt1 hu1) (vp_ln (w_ln1 hu1) h1)) (dX6_copyFrom_p0 27 rfl) ?_
    refine x_iconst (v := 0) C (by decide) (dX6_copyFrom_p0 28 rfl) ?_
    refine x_aload_n 0 C rfl (dX6_copyFrom_p0 29 rfl) ?_
    refine gX6_1 (b := u0 + 11) C (w_kd hu0) (w_lt hu0) (w_m1 hu0) tw_82 (dX6_copyFrom_p0 30 rfl) ?_
    refine x_iload_n 2 C rfl (dX6_copyFrom_p0 31 rfl) ?_
    obtain ⟨h2, hp⟩ := hp
    refine x_aald (c := 13) (b := (u0 + 11) + 1 + ix u2) C (w_kd1 hu0) (by decide) rfl rfl (w_lt1 hu0) (vp_ln (w_ln1 hu0) h2) (row_mr13 (w_kd1 hu0) (w_lt1 hu0) (vp_ln (w_ln1 hu0) h2)) (dX6_copyFrom_p0 32 rfl) ?_
    refine x_iconst (v := 0) C (by decide) (dX6_copyFrom_p0 33 rfl) ?_
    refine x_bipush (v := 7) C (by decide) (dX6_copyFrom_p0 34 rfl) ?_
    refine x_copy (N := 7) C tw_715 tw_653 tw_652 tw_12 (row_kd13 (w_kd1 hu0) (w_lt1 hu0) (vp_ln (w_ln1 hu0) h2)) (row_lt13 (w_kd1 hu0) (w_lt1 hu0) (vp_ln (w_ln1 hu0) h2)) (row_kd13 (w_kd1 hu1) (w_lt1 hu1) (vp_ln (w_ln1 hu1) h1)) (row_lt13 (w_kd1 hu1) (w_lt1 hu1) (vp_ln (w_ln1 hu1) h1)) (by decide) (by decide) (by rw [((row_ln13 (w_kd1 hu0) (w_lt1 hu0) (vp_ln (w_ln1 hu0) h2)).trans (w_iln1 hu0))]; decide) (by rw [((row_ln13 (w_kd1 hu1) (w_lt1 hu1) (vp_ln (w_ln1 hu1) h1)).trans (w_iln1 hu1))]; decide) (by decide) (Nat.le_of_ble_eq_true rfl) (by decide) (dX6_copyFrom_p0 35 rfl) ?_
    refine x_nmS (fun s3 es3 => ?_)
    have hp := hp s3 es3
    obtain ⟨v4, ev4⟩ : ∃ z : Int32, z = u2 + 1 := ⟨_, rfl⟩
    have hp := hp v4 ev4
    refine x_iinc (v := v4) (loc' := [(2, .int v4), (0, .ref (kad κ u0)), (1, .ref (kad κ u1))]) 2 C rfl (by rw [ev4]; rfl) (by decide) rfl (dX6_copyFrom_p0 36 rfl) ?_
    refine x_goto (tgt := 35) C (dX6_copyFrom_p0 37 rfl) (by decide) ?_
    refine x_loc (loc' := [(0, .ref (kad κ u0)), (1, .ref (kad κ u1)), (2, .int v4)]) [1, 2, 0] rfl ?_
    exact hc35 v4 s3 hp
def F_X6_copyFrom_2 (K : St → Prop) (c2 : (Int32 × St) → Prop) (u0 : Nat) (u1 : Nat) (u2 : Int32) (σ : St) : Prop := (8 < u2 → (LpE (fun c s => F_X6_copyFrom_35 K  c u0 u1 s.1 s.2) (0, σ))) ∧ (¬ (8 < u2) → vp_in u2 9 ∧ vp_in u2 9 ∧ (∀ s7 : St, s7 = wC σ ((u0 + 1) + 1 + ix u2) ((u1 + 1) + 1 + ix u2) 8 → ∀ v8 : Int32, v8 = u2 + 1 → c2 (v8, s7)))
set_option maxHeartbeats 4000000 in
set_option maxRecDepth 100000 in
theorem F_X6_copyFrom_2_w {κ : Kap} {K : St → Prop} {c2 : (Int32 × St) → Prop} (C : Ok κ RX6 cX6_copyFrom 3 1) (hret : RetV κ cX6_copyFrom K) (u0 : Nat) (u1 : Nat) (u2 : Int32) (hu0 : wOk u0) (hu1 : wOk u1)  (σ : St) (hc2 : ∀ (u2 : Int32) (σ : St), c2 (u2, σ) → GG κ 2 [(0, .ref (kad κ u0)), (1, .ref (kad κ u1)), (2, .int u2)] [] σ) (hp : F_X6_copyFrom_2 K c2 u0 u1 u2 σ) : GG κ 2 [(0, .ref (kad κ u0)), (1, .ref (kad κ u1)), (2, .int u2)] [] σ := by
  unfold F_X6_copyFrom_2 at hp
  refine x_iload_n 2 C rfl (dX6_copyFrom_p0 2 rfl) ?_
  refine x_bipush (v := 8) C (by decide) (dX6_copyFrom_p0 3 rfl) ?_
  refine x_icmp_gt (tgt := 33) C (dX6_copyFrom_p0 4 rfl) (by decide) (fun hc => ?_) (fun hc => ?_)
  · have hp := hp.1 hc
    refine x_iconst (v := 0) C (by decide) (dX6_copyFrom_p0 19 rfl) ?_
    refine x_istore_n (loc' := [(2, .int 0), (0, .ref (kad κ u0)), (1, .ref (kad κ u1))]) C rfl (by decide) rfl (dX6_copyFrom_p0 20 rfl) ?_
    refine x_loc (loc' := [(0, .ref (kad κ u0)), (1, .ref (kad κ u1)), (2, .int 0)]) [1, 2, 0] rfl ?_
    exact LpE_GG (S := (Int32 × St)) (F := fun c s => F_X6_copyFrom_35 K  c u0 u1 s.1 s.2) (W := fun s => GG κ 35 [(0, .ref (kad κ u0)), (1, .ref (kad κ u1)), (2, .int s.1)] [] s.2) (fun c s hcc hp => F_X6_copyFrom_35_w C hret u0 u1 s.1 hu0 hu1 s.2  (fun u2 σ h => hcc (u2, σ) h) hp) hp
  · have hp := hp.2 hc
    refine x_aload_n 1 C rfl (dX6_copyFrom_p0 5 rfl) ?_
    refine gX6_0 (b := u1 + 1) C (w_kd hu1) (w_lt hu1) (w_m0 hu1) tw_80 (dX6_copyFrom_p0 6 rfl) ?_
    refine x_iload_n 2 C rfl (dX6_copyFrom_p0 7 rfl) ?_
    obtain ⟨h5, hp⟩ := hp
    refine x_aald (c := 13) (b := (u1 + 1) + 1 + ix u2) C (w_kd0 hu1) (by decide) rfl rfl (w_lt0 hu1) (vp_ln (w_ln0 hu1) h5) (row_mr13 (w_kd0 hu1) (w_lt0 hu1) (vp_ln (w_ln0 hu1) h5)) (dX6_copyFrom_p0 8 rfl) ?_
    refine x_iconst (v := 0) C (by decide) (dX6_copyFrom_p0 9 rfl) ?_
    refine x_aload_n 0 C rfl (dX6_copyFrom_p0 10 rfl) ?_
    refine gX6_0 (b := u0 + 1) C (w_kd hu0) (w_lt hu0) (w_m0 hu0) tw_80 (dX6_copyFrom_p0 11 rfl) ?_
    refine x_iload_n 2 C rfl (dX6_copyFrom_p0 12 rfl) ?_
    obtain ⟨h6, hp⟩ := hp
    refine x_aald (c := 13) (b := (u0 + 1) + 1 + ix u2) C (w_kd0 hu0) (by decide) rfl rfl (w_lt0 hu0) (vp_ln (w_ln0 hu0) h6) (row_mr13 (w_kd0 hu0) (w_lt0 hu0) (vp_ln (w_ln0 hu0) h6)) (dX6_copyFrom_p0 13 rfl) ?_
    refine x_iconst (v := 0) C (by decide) (dX6_copyFrom_p0 14 rfl) ?_
    refine x_bipush (v := 8) C (by decide) (dX6_copyFrom_p0 15 rfl) ?_
    refine x_copy (N := 8) C tw_715 tw_653 tw_652 tw_12 (row_kd13 (w_kd0 hu0) (w_lt0 hu0) (vp_ln (w_ln0 hu0) h6)) (row_lt13 (w_kd0 hu0) (w_lt0 hu0) (vp_ln (w_ln0 hu0) h6)) (row_kd13 (w_kd0 hu1) (w_lt0 hu1) (vp_ln (w_ln0 hu1) h5)) (row_lt13 (w_kd0 hu1) (w_lt0 hu1) (vp_ln (w_ln0 hu1) h5)) (by decide) (by decide) (by rw [((row_ln13 (w_kd0 hu0) (w_lt0 hu0) (vp_ln (w_ln0 hu0) h6)).trans (w_iln0 hu0))]; decide) (by rw [((row_ln13 (w_kd0 hu1) (w_lt0 hu1) (vp_ln (w_ln0 hu1) h5)).trans (w_iln0 hu1))]; decide) (by decide) (Nat.le_of_ble_eq_true rfl) (by decide) (dX6_copyFrom_p0 16 rfl) ?_
    refine x_nmS (fun s7 es7 => ?_)
    have hp := hp s7 es7
    obtain ⟨v8, ev8⟩ : ∃ z : Int32, z = u2 + 1 := ⟨_, rfl⟩
    have hp := hp v8 ev8
    refine x_iinc (v := v8) (loc' := [(2, .int v8), (0, .ref (kad κ u0)), (1, .ref (kad κ u1))]) 2 C rfl (by rw [ev8]; rfl) (by decide) rfl (dX6_copyFrom_p0 17 rfl) ?_
    refine x_goto (tgt := 2) C (dX6_copyFrom_p0 18 rfl) (by decide) ?_
    refine x_loc (loc' := [(0, .ref (kad κ u0)), (1, .ref (kad κ u1)), (2, .int v8)]) [1, 2, 0] rfl ?_
    exact hc2 v8 s7 hp
def P_X6_copyFrom (p0 : Nat) (p1 : Nat) (σ : St) (K : St → Prop) : Prop := LpE (fun c s => F_X6_copyFrom_2 K  c p0 p1 s.1 s.2) (0, σ)
set_option maxHeartbeats 4000000 in
set_option maxRecDepth 100000 in
theorem m_X6_copyFrom (l : Launch) (ad : Nat → Nat) (D : va_G) (ca : Nat → ClassId) (had : adOk ad) (p0 : Nat) (p1 : Nat) (hp0 : wOk p0) (hp1 : wOk p1) (σ : St) (K : St → Prop) (hp : P_X6_copyFrom p0 p1 σ K) : CtV l ad D ca yX6_copyFrom cX6_copyFrom 3 1 [.ref (ad p0), .ref (ad p1)] σ K := CtV_of (av := fun ad => [.ref (ad p0), .ref (ad p1)]) (plainFor_of_name (by decide)) had (Nat.le_of_ble_eq_true rfl) (fun κ C hret => by
  have C : Ok κ RX6 cX6_copyFrom 3 1 := C
  show GG κ 0 [(0, .ref (kad κ p0)), (1, .ref (kad κ p1))] [] σ
  unfold P_X6_copyFrom at hp
  refine x_iconst (v := 0) C (by decide) (dX6_copyFrom_p0 0 rfl) ?_
  refine x_istore_n (loc' := [(2, .int 0), (0, .ref (kad κ p0)), (1, .ref (kad κ p1))]) C rfl (by decide) rfl (dX6_copyFrom_p0 1 rfl) ?_
  refine x_loc (loc' := [(0, .ref (kad κ p0)), (1, .ref (kad κ p1)), (2, .int 0)]) [1, 2, 0] rfl ?_
  exact LpE_GG (S := (Int32 × St)) (F := fun c s => F_X6_copyFrom_2 K  c p0 p1 s.1 s.2) (W := fun s => GG κ 2 [(0, .ref (kad κ p0)), (1, .ref (kad κ p1)), (2, .int s.1)] [] s.2) (fun c s hcc hp => F_X6_copyFrom_2_w C hret p0 p1 s.1 hp0 hp1 s.2  (fun u2 σ h => hcc (u2, σ) h) hp) hp)
def F_X6_countNonZero_58 (K : Int32 → St → Prop) (c51 : (Int32 × Int32 × St) → Prop) (c58 : (Int32 × Int32 × St) → Prop) (u0 : Nat) (u1 : Int32) (u2 : Int32) (u3 : Int32) (σ : St) : Prop := (6 < u3 → ∀ v1 : Int32, v1 = u2 + 1 → c51 (u1, v1, σ)) ∧ (¬ (6 < u3) → vp_in u2 2 ∧ vp_in u3 7 ∧ (((σ.1 ((u0 + 11) + 1 + ix u2) (ix u3)) = 0 → (∀ v4 : Int32, v4 = (u1 + 0) → ∀ v5 : Int32, v5 = u3 + 1 → c58 (v4, v5, σ))) ∧ (¬ ((σ.1 ((u0 + 11) + 1 + ix u2) (ix u3)) = 0) → (∀ v6 : Int32, v6 = (u1 + 1) → ∀ v7 : Int32, v7 = u3 + 1 → c58 (v6, v7, σ)))))
set_option maxHeartbeats 4000000 in
set_option maxRecDepth 100000 in
theorem F_X6_countNonZero_58_w {κ : Kap} {K : Int32 → St → Prop} {c51 : (Int32 × Int32 × St) → Prop} {c58 : (Int32 × Int32 × St) → Prop} (C : Ok κ RX6 cX6_countNonZero 4 0) (hret : RetI κ cX6_countNonZero .int K) (u0 : Nat) (u1 : Int32) (u2 : Int32) (u3 : Int32) (hu0 : wOk u0)    (σ : St) (hc51 : ∀ (u1 : Int32) (u2 : Int32) (σ : St), c51 (u1, u2, σ) → GG κ 51 [(0, .ref (kad κ u0)), (1, .int u1), (2, .int u2)] [] σ) (hc58 : ∀ (u1 : Int32) (u3 : Int32) (σ : St), c58 (u1, u3, σ) → GG κ 58 [(0, .ref (kad κ u0)), (1, .int u1), (2, .int u2), (3, .int u3)] [] σ) (hp : F_X6_countNonZero_58 K c51 c58 u0 u1 u2 u3 σ) : GG κ 58 [(0, .ref (kad κ u0)), (1, .int u1), (2, .int u2), (3, .int u3)] [] σ := by
  unfold F_X6_countNonZero_58 at hp
  refine x_iload_n 3 C rfl (dX6_countNonZero_p0 36 rfl) ?_
  refine x_bipush (v := 6) C (by decide) (dX6_countNonZero_p0 37 rfl) ?_
  refine x_icmp_gt (tgt := 89) C (dX6_countNonZero_p0 38 rfl) (by decide) (fun hc => ?_) (fun hc => ?_)
  · have hp := hp.1 hc
    obtain ⟨v1, ev1⟩ : ∃ z : Int32, z = u2 + 1 := ⟨_, rfl⟩
    have hp := hp v1 ev1
    refine x_iinc (v := v1) (loc' := [(2, .int v1), (0, .ref (kad κ u0)), (1, .int u1), (3, .int u3)]) 2 C rfl (by rw [ev1]; rfl) (by decide) rfl (dX6_countNonZero_p0 54 rfl) ?_
    refine x_goto (tgt := 51) C (dX6_countNonZero_p0 55 rfl) (by decide) ?_
    refine x_loc (loc' := [(0, .ref (kad κ u0)), (1, .int u1), (2, .int v1)]) [1, 2, 0] rfl ?_
    exact hc51 u1 v1 σ hp
  · have hp := hp.2 hc
    refine x_iload_n 1 C rfl (dX6_countNonZero_p0 39 rfl) ?_
    refine x_aload_n 0 C rfl (dX6_countNonZero_p0 40 rfl) ?_
    refine gX6_1 (b := u0 + 11) C (w_kd hu0) (w_lt hu0) (w_m1 hu0) tw_82 (dX6_countNonZero_p0 41 rfl) ?_
    refine x_iload_n 2 C rfl (dX6_countNonZero_p0 42 rfl) ?_
    obtain ⟨h2, hp⟩ := hp
    refine x_aald (c := 13) (b := (u0 + 11) + 1 + ix u2) C (w_kd1 hu0) (by decide) rfl rfl (w_lt1 hu0) (vp_ln (w_ln1 hu0) h2) (row_mr13 (w_kd1 hu0) (w_lt1 hu0) (vp_ln (w_ln1 hu0) h2)) (dX6_countNonZero_p0 43 rfl) ?_
    refine x_iload_n 3 C rfl (dX6_countNonZero_p0 44 rfl) ?_
    obtain ⟨h3, hp⟩ := hp
    refine x_iald C (row_kd13 (w_kd1 hu0) (w_lt1 hu0) (vp_ln (w_ln1 hu0) h2)) (row_lt13 (w_kd1 hu0) (w_lt1 hu0) (vp_ln (w_ln1 hu0) h2)) (vp_ln ((row_ln13 (w_kd1 hu0) (w_lt1 hu0) (vp_ln (w_ln1 hu0) h2)).trans (w_iln1 hu0)) h3) (dX6_countNonZero_p0 45 rfl) ?_
    refine x_if_eq (tgt := 80) C (dX6_countNonZero_p0 46 rfl) (by decide) (fun hc => ?_) (fun hc => ?_)
    · have hp := hp.1 hc
      refine x_iconst (v := 0) C (by decide) (dX6_countNonZero_p0 49 rfl) ?_
      refine x_iadd C (dX6_countNonZero_p0 50 rfl) ?_
      refine x_topI (fun v4 ev4 => ?_)
      have hp := hp v4 ev4
      refine x_istore_n (loc' := [(1, .int v4), (0, .ref (kad κ u0)), (2, .int u2), (3, .int u3)]) C rfl (by decide) rfl (dX6_countNonZero_p0 51 rfl) ?_
      obtain ⟨v5, ev5⟩ : ∃ z : Int32, z = u3 + 1 := ⟨_, rfl⟩
      have hp := hp v5 ev5
      refine x_iinc (v := v5) (loc' := [(3, .int v5), (1, .int v4), (0, .ref (kad κ u0)), (2, .int u2)]) 3 C rfl (by rw [ev5]; rfl) (by decide) rfl (dX6_countNonZero_p0 52 rfl) ?_
      refine x_goto (tgt := 58) C (dX6_countNonZero_p0 53 rfl) (by decide) ?_
      refine x_loc (loc' := [(0, .ref (kad κ u0)), (1, .int v4), (2, .int u2), (3, .int v5)]) [2, 1, 3, 0] rfl ?_
      exact hc58 v4 v5 σ hp
    · have hp := hp.2 hc
      refine x_iconst (v := 1) C (by decide) (dX6_countNonZero_p0 47 rfl) ?_
      refine x_goto (tgt := 81) C (dX6_countNonZero_p0 48 rfl) (by decide) ?_
      refine x_iadd C (dX6_countNonZero_p0 50 rfl) ?_
      refine x_topI (fun v6 ev6 => ?_)
      have hp := hp v6 ev6
      refine x_istore_n (loc' := [(1, .int v6), (0, .ref (kad κ u0)), (2, .int u2), (3, .int u3)]) C rfl (by decide) rfl (dX6_countNonZero_p0 51 rfl) ?_
      obtain ⟨v7, ev7⟩ : ∃ z : Int32, z = u3 + 1 := ⟨_, rfl⟩
      have hp := hp v7 ev7
      refine x_iinc (v := v7) (loc' := [(3, .int v7), (1, .int v6), (0, .ref (kad κ u0)), (2, .int u2)]) 3 C rfl (by rw [ev7]; rfl) (by decide) rfl (dX6_countNonZero_p0 52 rfl) ?_
      refine x_goto (tgt := 58) C (dX6_countNonZero_p0 53 rfl) (by decide) ?_
      refine x_loc (loc' := [(0, .ref (kad κ u0)), (1, .int v6), (2, .int u2), (3, .int v7)]) [2, 1, 3, 0] rfl ?_
      exact hc58 v6 v7 σ hp
def F_X6_countNonZero_51 (K : Int32 → St → Prop) (c51 : (Int32 × Int32 × St) → Prop) (u0 : Nat) (u1 : Int32) (u2 : Int32) (σ : St) : Prop := (2 ≤ u2 → (K u1 σ)) ∧ (¬ (2 ≤ u2) → (LpE (fun c s => F_X6_countNonZero_58 K c51 c u0 s.1 u2 s.2.1 s.2.2) (u1, 1, σ)))
set_option maxHeartbeats 4000000 in
set_option maxRecDepth 100000 in
theorem F_X6_countNonZero_51_w {κ : Kap} {K : Int32 → St → Prop} {c51 : (Int32 × Int32 × St) → Prop} (C : Ok κ RX6 cX6_countNonZero 4 0) (hret : RetI κ cX6_countNonZero .int K) (u0 : Nat) (u1 : Int32) (u2 : Int32) (hu0 : wOk u0)   (σ : St) (hc51 : ∀ (u1 : Int32) (u2 : Int32) (σ : St), c51 (u1, u2, σ) → GG κ 51 [(0, .ref (kad κ u0)), (1, .int u1), (2, .int u2)] [] σ) (hp : F_X6_countNonZero_51 K c51 u0 u1 u2 σ) : GG κ 51 [(0, .ref (kad κ u0)), (1, .int u1), (2, .int u2)] [] σ := by
  unfold F_X6_countNonZero_51 at hp
  refine x_iload_n 2 C rfl (dX6_countNonZero_p0 31 rfl) ?_
  refine x_iconst (v := 2) C (by decide) (dX6_countNonZero_p0 32 rfl) ?_
  refine x_icmp_ge (tgt := 95) C (dX6_countNonZero_p0 33 rfl) (by decide) (fun hc => ?_) (fun hc => ?_)
  · have hp := hp.1 hc
    refine x_iload_n 1 C rfl (dX6_countNonZero_p0 56 rfl) ?_
    exact hret _ _ _ _ (dX6_countNonZero_p0 57 rfl) (nar_i _) hp
  · have hp := hp.2 hc
    refine x_iconst (v := 1) C (by decide) (dX6_countNonZero_p0 34 rfl) ?_
    refine x_istore_n (loc' := [(3, .int 1), (0, .ref (kad κ u0)), (1, .int u1), (2, .int u2)]) C rfl (by decide) rfl (dX6_countNonZero_p0 35 rfl) ?_
    refine x_loc (loc' := [(0, .ref (kad κ u0)), (1, .int u1), (2, .int u2), (3, .int 1)]) [1, 2, 3, 0] rfl ?_
    exact LpE_GG (S := (Int32 × Int32 × St)) (F := fun c s => F_X6_countNonZero_58 K c51 c u0 s.1 u2 s.2.1 s.2.2) (W := fun s => GG κ 58 [(0, .ref (kad κ u0)), (1, .int s.1), (2, .int u2), (3, .int s.2.1)] [] s.2.2) (fun c s hcc hp => F_X6_countNonZero_58_w C hret u0 s.1 u2 s.2.1 hu0 s.2.2 hc51 (fun u1 u3 σ h => hcc (u1, u3, σ) h) hp) hp
def F_X6_countNonZero_12 (K : Int32 → St → Prop) (c4 : (Int32 × Int32 × St) → Prop) (c12 : (Int32 × Int32 × St) → Prop) (u0 : Nat) (u1 : Int32) (u2 : Int32) (u3 : Int32) (σ : St) : Prop := (8 ≤ u3 → ∀ v8 : Int32, v8 = u2 + 1 → c4 (u1, v8, σ)) ∧ (¬ (8 ≤ u3) → vp_in u2 9 ∧ vp_in u3 8 ∧ (((σ.1 ((u0 + 1) + 1 + ix u2) (ix u3)) = 0 → (∀ v11 : Int32, v11 = (u1 + 0) → ∀ v12 : Int32, v12 = u3 + 1 → c12 (v11, v12, σ))) ∧ (¬ ((σ.1 ((u0 + 1) + 1 + ix u2) (ix u3)) = 0) → (∀ v13 : Int32, v13 = (u1 + 1) → ∀ v14 : Int32, v14 = u3 + 1 → c12 (v13, v14, σ)))))
set_option maxHeartbeats 4000000 in
set_option maxRecDepth 100000 in
theorem F_X6_countNonZero_12_w {κ : Kap} {K : Int32 → St → Prop} {c4 : (Int32 × Int32 × St) → Prop} {c12 : (Int32 × Int32 × St) → Prop} (C : Ok κ RX6 cX6_countNonZero 4 0) (hret : RetI κ cX6_countNonZero .int K) (u0 : Nat) (u1 : Int32) (u2 : Int32) (u3 : Int32) (hu0 : wOk u0)    (σ : St) (hc4 : ∀ (u1 : Int32) (u2 : Int32) (σ : St), c4 (u1, u2, σ) → GG κ 4 [(0, .ref (kad κ u0)), (1, .int u1), (2, .int u2)] [] σ) (hc12 : ∀ (u1 : Int32) (u3 : Int32) (σ : St), c12 (u1, u3, σ) → GG κ 12 [(0, .ref (kad κ u0)), (1, .int u1), (2, .int u2), (3, .int u3)] [] σ) (hp : F_X6_countNonZero_12 K c4 c12 u0 u1 u2 u3 σ) : GG κ 12 [(0, .ref (kad κ u0)), (1, .int u1), (2, .int u2), (3, .int u3)] [] σ := by
  unfold F_X6_countNonZero_12 at hp
  refine x_iload_n 3 C rfl (dX6_countNonZero_p0 9 rfl) ?_
  refine x_bipush (v := 8) C (by decide) (dX6_countNonZero_p0 10 rfl) ?_
  refine x_icmp_ge (tgt := 43) C (dX6_countNonZero_p0 11 rfl) (by decide) (fun hc => ?_) (fun hc => ?_)
  · have hp := hp.1 hc
    obtain ⟨v8, ev8⟩ : ∃ z : Int32, z = u2 + 1 := ⟨_, rfl⟩
    have hp := hp v8 ev8
    refine x_iinc (v := v8) (loc' := [(2, .int v8), (0, .ref (kad κ u0)), (1, .int u1), (3, .int u3)]) 2 C rfl (by rw [ev8]; rfl) (by decide) rfl (dX6_countNonZero_p0 27 rfl) ?_
    refine x_goto (tgt := 4) C (dX6_countNonZero_p0 28 rfl) (by decide) ?_
    refine x_loc (loc' := [(0, .ref (kad κ u0)), (1, .int u1), (2, .int v8)]) [1, 2, 0] rfl ?_
    exact hc4 u1 v8 σ hp
  · have hp := hp.2 hc
    refine x_iload_n 1 C rfl (dX6_countNonZero_p0 12 rfl) ?_
    refine x_aload_n 0 C rfl (dX6_countNonZero_p0 13 rfl) ?_
    refine gX6_0 (b := u0 + 1) C (w_kd hu0) (w_lt hu0) (w_m0 hu0) tw_80 (dX6_countNonZero_p0 14 rfl) ?_
    refine x_iload_n 2 C rfl (dX6_countNonZero_p0 15 rfl) ?_
    obtain ⟨h9, hp⟩ := hp
    refine x_aald (c := 13) (b := (u0 + 1) + 1 + ix u2) C (w_kd0 hu0) (by decide) rfl rfl (w_lt0 hu0) (vp_ln (w_ln0 hu0) h9) (row_mr13 (w_kd0 hu0) (w_lt0 hu0) (vp_ln (w_ln0 hu0) h9)) (dX6_countNonZero_p0 16 rfl) ?_
    refine x_iload_n 3 C rfl (dX6_countNonZero_p0 17 rfl) ?_
    obtain ⟨h10, hp⟩ := hp
    refine x_iald C (row_kd13 (w_kd0 hu0) (w_lt0 hu0) (vp_ln (w_ln0 hu0) h9)) (row_lt13 (w_kd0 hu0) (w_lt0 hu0) (vp_ln (w_ln0 hu0) h9)) (vp_ln ((row_ln13 (w_kd0 hu0) (w_lt0 hu0) (vp_ln (w_ln0 hu0) h9)).trans (w_iln0 hu0)) h10) (dX6_countNonZero_p0 18 rfl) ?_
    refine x_if_eq (tgt := 34) C (dX6_countNonZero_p0 19 rfl) (by decide) (fun hc => ?_) (fun hc => ?_)
    · have hp := hp.1 hc
      refine x_iconst (v := 0) C (by decide) (dX6_countNonZero_p0 22 rfl) ?_
      refine x_iadd C (dX6_countNonZero_p0 23 rfl) ?_
      refine x_topI (fun v11 ev11 => ?_)
      have hp := hp v11 ev11
      refine x_istore_n (loc' := [(1, .int v11), (0, .ref (kad κ u0)), (2, .int u2), (3, .int u3)]) C rfl (by decide) rfl (dX6_countNonZero_p0 24 rfl) ?_
      obtain ⟨v12, ev12⟩ : ∃ z : Int32, z = u3 + 1 := ⟨_, rfl⟩
      have hp := hp v12 ev12
      refine x_iinc (v := v12) (loc' := [(3, .int v12), (1, .int v11), (0, .ref (kad κ u0)), (2, .int u2)]) 3 C rfl (by rw [ev12]; rfl) (by decide) rfl (dX6_countNonZero_p0 25 rfl) ?_
      refine x_goto (tgt := 12) C (dX6_countNonZero_p0 26 rfl) (by decide) ?_
      refine x_loc (loc' := [(0, .ref (kad κ u0)), (1, .int v11), (2, .int u2), (3, .int v12)]) [2, 1, 3, 0] rfl ?_
      exact hc12 v11 v12 σ hp
    · have hp := hp.2 hc
      refine x_iconst (v := 1) C (by decide) (dX6_countNonZero_p0 20 rfl) ?_
      refine x_goto (tgt := 35) C (dX6_countNonZero_p0 21 rfl) (by decide) ?_
      refine x_iadd C (dX6_countNonZero_p0 23 rfl) ?_
      refine x_topI (fun v13 ev13 => ?_)
      have hp := hp v13 ev13
      refine x_istore_n (loc' := [(1, .int v13), (0, .ref (kad κ u0)), (2, .int u2), (3, .int u3)]) C rfl (by decide) rfl (dX6_countNonZero_p0 24 rfl) ?_
      obtain ⟨v14, ev14⟩ : ∃ z : Int32, z = u3 + 1 := ⟨_, rfl⟩
      have hp := hp v14 ev14
      refine x_iinc (v := v14) (loc' := [(3, .int v14), (1, .int v13), (0, .ref (kad κ u0)), (2, .int u2)]) 3 C rfl (by rw [ev14]; rfl) (by decide) rfl (dX6_countNonZero_p0 25 rfl) ?_
      refine x_goto (tgt := 12) C (dX6_countNonZero_p0 26 rfl) (by decide) ?_
      refine x_loc (loc' := [(0, .ref (kad κ u0)), (1, .int v13), (2, .int u2), (3, .int v14)]) [2, 1, 3, 0] rfl ?_
      exact hc12 v13 v14 σ hp
def F_X6_countNonZero_4 (K : Int32 → St → Prop) (c4 : (Int32 × Int32 × St) → Prop) (u0 : Nat) (u1 : Int32) (u2 : Int32) (σ : St) : Prop := (8 < u2 → (LpE (fun c s => F_X6_countNonZero_51 K  c u0 s.1 s.2.1 s.2.2) (u1, 0, σ))) ∧ (¬ (8 < u2) → (LpE (fun c s => F_X6_countNonZero_12 K c4 c u0 s.1 u2 s.2.1 s.2.2) (u1, 0, σ)))
set_option maxHeartbeats 4000000 in
set_option maxRecDepth 100000 in
theorem F_X6_countNonZero_4_w {κ : Kap} {K : Int32 → St → Prop} {c4 : (Int32 × Int32 × St) → Prop} (C : Ok κ RX6 cX6_countNonZero 4 0) (hret : RetI κ cX6_countNonZero .int K) (u0 : Nat) (u1 : Int32) (u2 : Int32) (hu0 : wOk u0)   (σ : St) (hc4 : ∀ (u1 : Int32) (u2 : Int32) (σ : St), c4 (u1, u2, σ) → GG κ 4 [(0, .ref (kad κ u0)), (1, .int u1), (2, .int u2)] [] σ) (hp : F_X6_countNonZero_4 K c4 u0 u1 u2 σ) : GG κ 4 [(0, .ref (kad κ u0)), (1, .int u1), (2, .int u2)] [] σ := by
  unfold F_X6_countNonZero_4 at hp
  refine x_iload_n 2 C rfl (dX6_countNonZero_p0 4 rfl) ?_
  refine x_bipush (v := 8) C (by decide) (dX6_countNonZero_p0 5 rfl) ?_
  refine x_icmp_gt (tgt := 49) C (dX6_countNonZero_p0 6 rfl) (by decide) (fun hc => ?_) (fun hc => ?_)
  · have hp := hp.1 hc
    refine x_iconst (v := 0) C (by decide) (dX6_countNonZero_p0 29 rfl) ?_
    refine x_istore_n (loc' := [(2, .int 0), (0, .ref (kad κ u0)), (1, .int u1)]) C rfl (by decide) rfl (dX6_countNonZero_p0 30 rfl) ?_
    refine x_loc (loc' := [(0, .ref (kad κ u0)), (1, .int u1), (2, .int 0)]) [1, 2, 0] rfl ?_
    exact LpE_GG (S := (Int32 × Int32 × St)) (F := fun c s => F_X6_countNonZero_51 K  c u0 s.1 s.2.1 s.2.2) (W := fun s => GG κ 51 [(0, .ref (kad κ u0)), (1, .int s.1), (2, .int s.2.1)] [] s.2.2) (fun c s hcc hp => F_X6_countNonZero_51_w C hret u0 s.1 s.2.1 hu0 s.2.2  (fun u1 u2 σ h => hcc (u1, u2, σ) h) hp) hp
  · have hp := hp.2 hc
    refine x_iconst (v := 0) C (by decide) (dX6_countNonZero_p0 7 rfl) ?_
    refine x_istore_n (loc' := [(3, .int 0), (0, .ref (kad κ u0)), (1, .int u1), (2, .int u2)]) C rfl (by decide) rfl (dX6_countNonZero_p0 8 rfl) ?_
    refine x_loc (loc' := [(0, .ref (kad κ u0)), (1, .int u1), (2, .int u2), (3, .int 0)]) [1, 2, 3, 0] rfl ?_
    exact LpE_GG (S := (Int32 × Int32 × St)) (F := fun c s => F_X6_countNonZero_12 K c4 c u0 s.1 u2 s.2.1 s.2.2) (W := fun s => GG κ 12 [(0, .ref (kad κ u0)), (1, .int s.1), (2, .int u2), (3, .int s.2.1)] [] s.2.2) (fun c s hcc hp => F_X6_countNonZero_12_w C hret u0 s.1 u2 s.2.1 hu0 s.2.2 hc4 (fun u1 u3 σ h => hcc (u1, u3, σ) h) hp) hp
def P_X6_countNonZero (p0 : Nat) (σ : St) (K : Int32 → St → Prop) : Prop := LpE (fun c s => F_X6_countNonZero_4 K  c p0 s.1 s.2.1 s.2.2) (0, 0, σ)
set_option maxHeartbeats 4000000 in
set_option maxRecDepth 100000 in
theorem m_X6_countNonZero (l : Launch) (ad : Nat → Nat) (D : va_G) (ca : Nat → ClassId) (had : adOk ad) (p0 : Nat) (hp0 : wOk p0) (σ : St) (K : Int32 → St → Prop) (hp : P_X6_countNonZero p0 σ K) : CtI l ad D ca yX6_countNonZero cX6_countNonZero 4 .int 0 [.ref (ad p0)] σ K := CtI_of (av := fun ad => [.ref (ad p0)]) (plainFor_of_name (by decide)) had (Nat.le_of_ble_eq_true rfl) (fun κ C hret => by
  have C : Ok κ RX6 cX6_countNonZero 4 0 := C
  show GG κ 0 [(0, .ref (kad κ p0))] [] σ
  unfold P_X6_countNonZero at hp
  refine x_iconst (v := 0) C (by decide) (dX6_countNonZero_p0 0 rfl) ?_
  refine x_istore_n (loc' := [(1, .int 0), (0, .ref (kad κ p0))]) C rfl (by decide) rfl (dX6_countNonZero_p0 1 rfl) ?_
  refine x_iconst (v := 0) C (by decide) (dX6_countNonZero_p0 2 rfl) ?_
  refine x_istore_n (loc' := [(2, .int 0), (1, .int 0), (0, .ref (kad κ p0))]) C rfl (by decide) rfl (dX6_countNonZero_p0 3 rfl) ?_
  refine x_loc (loc' := [(0, .ref (kad κ p0)), (1, .int 0), (2, .int 0)]) [2, 1, 0] rfl ?_
  exact LpE_GG (S := (Int32 × Int32 × St)) (F := fun c s => F_X6_countNonZero_4 K  c p0 s.1 s.2.1 s.2.2) (W := fun s => GG κ 4 [(0, .ref (kad κ p0)), (1, .int s.1), (2, .int s.2.1)] [] s.2.2) (fun c s hcc hp => F_X6_countNonZero_4_w C hret p0 s.1 s.2.1 hp0 s.2.2  (fun u1 u2 σ h => hcc (u1, u2, σ) h) hp) hp)
def P_X6_direction (p0 : Int32) (p1 : Int32) (σ : St) (K : Int32 → St → Prop) : Prop := (p1 ≤ p0 → (K 1 σ)) ∧ (¬ (p1 ≤ p0) → (K 0 σ))
set_option maxHeartbeats 4000000 in
set_option maxRecDepth 100000 in
theorem m_X6_direction (l : Launch) (ad : Nat → Nat) (D : va_G) (ca : Nat → ClassId) (had : adOk ad) (p0 : Int32) (p1 : Int32)  (σ : St) (K : Int32 → St → Prop) (hp : P_X6_direction p0 p1 σ K) : CtI l ad D ca yX6_direction cX6_direction 2 .int 0 [.int p0, .int p1] σ K := CtI_of (av := fun ad => [.int p0, .int p1]) (plainFor_of_name (by decide)) had (Nat.le_of_ble_eq_true rfl) (fun κ C hret => by
  have C : Ok κ RX6 cX6_direction 2 0 := C
  show GG κ 0 [(0, .int p0), (1, .int p1)] [] σ
  unfold P_X6_direction at hp
  refine x_iload_n 0 C rfl (dX6_direction_p0 0 rfl) ?_
  refine x_iload_n 1 C rfl (dX6_direction_p0 1 rfl) ?_
  refine x_icmp_ge (tgt := 9) C (dX6_direction_p0 2 rfl) (by decide) (fun hc => ?_) (fun hc => ?_)
  · have hp := hp.1 hc
    refine x_iconst (v := 1) C (by decide) (dX6_direction_p0 5 rfl) ?_
    exact hret _ _ _ _ (dX6_direction_p0 6 rfl) (nar_i _) hp
  · have hp := hp.2 hc
    refine x_iconst (v := 0) C (by decide) (dX6_direction_p0 3 rfl) ?_
    refine x_goto (tgt := 10) C (dX6_direction_p0 4 rfl) (by decide) ?_
    exact hret _ _ _ _ (dX6_direction_p0 6 rfl) (nar_i _) hp)
def P_X7_mix (p0 : Int64) (p2 : Int64) (σ : St) (K : Int64 → St → Prop) : Prop := K ((31 * p0) + p2) σ
set_option maxHeartbeats 4000000 in
set_option maxRecDepth 100000 in
theorem m_X7_mix (l : Launch) (ad : Nat → Nat) (D : va_G) (ca : Nat → ClassId) (had : adOk ad) (p0 : Int64) (p2 : Int64)  (σ : St) (K : Int64 → St → Prop) (hp : P_X7_mix p0 p2 σ K) : CtL l ad D ca yX7_mix cX7_mix 4 0 [.long p0, .long p2] σ K := CtL_of (av := fun ad => [.long p0, .long p2]) (plainFor_of_name (by decide)) had (Nat.le_of_ble_eq_true rfl) (fun κ C hret => by
  have C : Ok κ RX7 cX7_mix 4 0 := C
  show GG κ 0 [(0, .long p0), (2, .long p2)] [] σ
  unfold P_X7_mix at hp
  refine x_ldc2 C tw_732 (dX7_mix_p0 0 rfl) ?_
  refine x_lload_n 0 C rfl (dX7_mix_p0 1 rfl) ?_
  refine x_lmul C (dX7_mix_p0 2 rfl) ?_
  refine x_lload_n 1 C rfl (dX7_mix_p0 3 rfl) ?_
  refine x_ladd C (dX7_mix_p0 4 rfl) ?_
  exact hret _ _ _ _ (dX7_mix_p0 5 rfl) hp)
def F_X6_mixInto_62 (K : Int64 → St → Prop) (c53 : (Int64 × Int32 × St) → Prop) (c62 : (Int64 × Int32 × St) → Prop) (u0 : Nat) (u3 : Int64) (u5 : Int32) (u6 : Int32) (σ : St) : Prop := (6 < u6 → ∀ v1 : Int32, v1 = u5 + 1 → c53 (u3, v1, σ)) ∧ (¬ (6 < u6) → vp_in u5 2 ∧ vp_in u6 7 ∧ (P_X7_mix u3 (Int32.toInt64 (σ.1 ((u0 + 11) + 1 + ix u5) (ix u6))) σ (fun r5 s4 => ∀ v6 : Int32, v6 = u6 + 1 → c62 (r5, v6, s4))))
set_option maxHeartbeats 4000000 in
set_option maxRecDepth 100000 in
theorem F_X6_mixInto_62_w {κ : Kap} {K : Int64 → St → Prop} {c53 : (Int64 × Int32 × St) → Prop} {c62 : (Int64 × Int32 × St) → Prop} (C : Ok κ RX6 cX6_mixInto 7 1) (hret : RetL κ cX6_mixInto K) (u0 : Nat) (u3 : Int64) (u5 : Int32) (u6 : Int32) (hu0 : wOk u0)    (σ : St) (hc53 : ∀ (u3 : Int64) (u5 : Int32) (σ : St), c53 (u3, u5, σ) → GG κ 53 [(0, .ref (kad κ u0)), (3, .long u3), (5, .int u5)] [] σ) (hc62 : ∀ (u3 : Int64) (u6 : Int32) (σ : St), c62 (u3, u6, σ) → GG κ 62 [(0, .ref (kad κ u0)), (3, .long u3), (5, .int u5), (6, .int u6)] [] σ) (hp : F_X6_mixInto_62 K c53 c62 u0 u3 u5 u6 σ) : GG κ 62 [(0, .ref (kad κ u0)), (3, .long u3), (5, .int u5), (6, .int u6)] [] σ := by
  unfold F_X6_mixInto_62 at hp
  refine x_iload 3 C rfl (dX6_mixInto_p0 33 rfl) ?_
  refine x_bipush (v := 6) C (by decide) (dX6_mixInto_p0 34 rfl) ?_
  refine x_icmp_gt (tgt := 91) C (dX6_mixInto_p0 35 rfl) (by decide) (fun hc => ?_) (fun hc => ?_)
  · have hp := hp.1 hc
    obtain ⟨v1, ev1⟩ : ∃ z : Int32, z = u5 + 1 := ⟨_, rfl⟩
    have hp := hp v1 ev1
    refine x_iinc (v := v1) (loc' := [(5, .int v1), (0, .ref (kad κ u0)), (3, .long u3), (6, .int u6)]) 2 C rfl (by rw [ev1]; rfl) (by decide) rfl (dX6_mixInto_p0 48 rfl) ?_
    refine x_goto (tgt := 53) C (dX6_mixInto_p0 49 rfl) (by decide) ?_
    refine x_loc (loc' := [(0, .ref (kad κ u0)), (3, .long u3), (5, .int v1)]) [1, 2, 0] rfl ?_
    exact hc53 u3 v1 σ hp
  · have hp := hp.2 hc
    refine x_lload_n 1 C rfl (dX6_mixInto_p0 36 rfl) ?_
    refine x_aload_n 0 C rfl (dX6_mixInto_p0 37 rfl) ?_
    refine gX6_1 (b := u0 + 11) C (w_kd hu0) (w_lt hu0) (w_m1 hu0) tw_82 (dX6_mixInto_p0 38 rfl) ?_
    refine x_iload 2 C rfl (dX6_mixInto_p0 39 rfl) ?_
    obtain ⟨h2, hp⟩ := hp
    refine x_aald (c := 13) (b := (u0 + 11) + 1 + ix u5) C (w_kd1 hu0) (by decide) rfl rfl (w_lt1 hu0) (vp_ln (w_ln1 hu0) h2) (row_mr13 (w_kd1 hu0) (w_lt1 hu0) (vp_ln (w_ln1 hu0) h2)) (dX6_mixInto_p0 40 rfl) ?_
    refine x_iload 3 C rfl (dX6_mixInto_p0 41 rfl) ?_
    obtain ⟨h3, hp⟩ := hp
    refine x_iald C (row_kd13 (w_kd1 hu0) (w_lt1 hu0) (vp_ln (w_ln1 hu0) h2)) (row_lt13 (w_kd1 hu0) (w_lt1 hu0) (vp_ln (w_ln1 hu0) h2)) (vp_ln ((row_ln13 (w_kd1 hu0) (w_lt1 hu0) (vp_ln (w_ln1 hu0) h2)).trans (w_iln1 hu0)) h3) (dX6_mixInto_p0 42 rfl) ?_
    refine x_i2l C (dX6_mixInto_p0 43 rfl) ?_
    refine x_cnL (As := [.long u3, .long (Int32.toInt64 (σ.1 ((u0 + 11) + 1 + ix u5) (ix u6)))]) (st := []) C LRX6_50 C.kn.2.1.2.2 (m_X7_mix (kL κ) (kad κ) (kD κ) (kca κ) C.ado u3 (Int32.toInt64 (σ.1 ((u0 + 11) + 1 + ix u5) (ix u6)))  σ _ hp) rfl (by decide) rfl (Nat.le_of_ble_eq_true rfl) (dX6_mixInto_p0 44 rfl) (fun r5 s4 hp => ?_)
    refine x_lstore_n (loc' := [(3, .long r5), (0, .ref (kad κ u0)), (5, .int u5), (6, .int u6)]) C rfl (by decide) rfl (dX6_mixInto_p0 45 rfl) ?_
    obtain ⟨v6, ev6⟩ : ∃ z : Int32, z = u6 + 1 := ⟨_, rfl⟩
    have hp := hp v6 ev6
    refine x_iinc (v := v6) (loc' := [(6, .int v6), (3, .long r5), (0, .ref (kad κ u0)), (5, .int u5)]) 3 C rfl (by rw [ev6]; rfl) (by decide) rfl (dX6_mixInto_p0 46 rfl) ?_
    refine x_goto (tgt := 62) C (dX6_mixInto_p0 47 rfl) (by decide) ?_
    refine x_loc (loc' := [(0, .ref (kad κ u0)), (3, .long r5), (5, .int u5), (6, .int v6)]) [2, 1, 3, 0] rfl ?_
    exact hc62 r5 v6 s4 hp
def F_X6_mixInto_53 (K : Int64 → St → Prop) (c53 : (Int64 × Int32 × St) → Prop) (u0 : Nat) (u3 : Int64) (u5 : Int32) (σ : St) : Prop := (2 ≤ u5 → (K u3 σ)) ∧ (¬ (2 ≤ u5) → (LpE (fun c s => F_X6_mixInto_62 K c53 c u0 s.1 u5 s.2.1 s.2.2) (u3, 1, σ)))
set_option maxHeartbeats 4000000 in
set_option maxRecDepth 100000 in
theorem F_X6_mixInto_53_w {κ : Kap} {K : Int64 → St → Prop} {c53 : (Int64 × Int32 × St) → Prop} (C : Ok κ RX6 cX6_mixInto 7 1) (hret : RetL κ cX6_mixInto K) (u0 : Nat) (u3 : Int64) (u5 : Int32) (hu0 : wOk u0)   (σ : St) (hc53 : ∀ (u3 : Int64) (u5 : Int32) (σ : St), c53 (u3, u5, σ) → GG κ 53 [(0, .ref (kad κ u0)), (3, .long u3), (5, .int u5)] [] σ) (hp : F_X6_mixInto_53 K c53 u0 u3 u5 σ) : GG κ 53 [(0, .ref (kad κ u0)), (3, .long u3), (5, .int u5)] [] σ := by
  unfold F_X6_mixInto_53 at hp
  refine x_iload 2 C rfl (dX6_mixInto_p0 28 rfl) ?_
  refine x_iconst (v := 2) C (by decide) (dX6_mixInto_p0 29 rfl) ?_
  refine x_icmp_ge (tgt := 97) C (dX6_mixInto_p0 30 rfl) (by decide) (fun hc => ?_) (fun hc => ?_)
  · have hp := hp.1 hc
    refine x_lload_n 1 C rfl (dX6_mixInto_p0 50 rfl) ?_
    exact hret _ _ _ _ (dX6_mixInto_p0 51 rfl) hp
  · have hp := hp.2 hc
    refine x_iconst (v := 1) C (by decide) (dX6_mixInto_p0 31 rfl) ?_
    refine x_istore (loc' := [(6, .int 1), (0, .ref (kad κ u0)), (3, .long u3), (5, .int u5)]) C (by decide) rfl (dX6_mixInto_p0 32 rfl) ?_
    refine x_loc (loc' := [(0, .ref (kad κ u0)), (3, .long u3), (5, .int u5), (6, .int 1)]) [1, 2, 3, 0] rfl ?_
    exact LpE_GG (S := (Int64 × Int32 × St)) (F := fun c s => F_X6_mixInto_62 K c53 c u0 s.1 u5 s.2.1 s.2.2) (W := fun s => GG κ 62 [(0, .ref (kad κ u0)), (3, .long s.1), (5, .int u5), (6, .int s.2.1)] [] s.2.2) (fun c s hcc hp => F_X6_mixInto_62_w C hret u0 s.1 u5 s.2.1 hu0 s.2.2 hc53 (fun u3 u6 σ h => hcc (u3, u6, σ) h) hp) hp
def F_X6_mixInto_15 (K : Int64 → St → Prop) (c5 : (Int64 × Int32 × St) → Prop) (c15 : (Int64 × Int32 × St) → Prop) (u0 : Nat) (u3 : Int64) (u5 : Int32) (u6 : Int32) (σ : St) : Prop := (8 ≤ u6 → ∀ v7 : Int32, v7 = u5 + 1 → c5 (u3, v7, σ)) ∧ (¬ (8 ≤ u6) → vp_in u5 9 ∧ vp_in u6 8 ∧ (P_X7_mix u3 (Int32.toInt64 (σ.1 ((u0 + 1) + 1 + ix u5) (ix u6))) σ (fun r11 s10 => ∀ v12 : Int32, v12 = u6 + 1 → c15 (r11, v12, s10))))
set_option maxHeartbeats 4000000 in
set_option maxRecDepth 100000 in
theorem F_X6_mixInto_15_w {κ : Kap} {K : Int64 → St → Prop} {c5 : (Int64 × Int32 × St) → Prop} {c15 : (Int64 × Int32 × St) → Prop} (C : Ok κ RX6 cX6_mixInto 7 1) (hret : RetL κ cX6_mixInto K) (u0 : Nat) (u3 : Int64) (u5 : Int32) (u6 : Int32) (hu0 : wOk u0)    (σ : St) (hc5 : ∀ (u3 : Int64) (u5 : Int32) (σ : St), c5 (u3, u5, σ) → GG κ 5 [(0, .ref (kad κ u0)), (3, .long u3), (5, .int u5)] [] σ) (hc15 : ∀ (u3 : Int64) (u6 : Int32) (σ : St), c15 (u3, u6, σ) → GG κ 15 [(0, .ref (kad κ u0)), (3, .long u3), (5, .int u5), (6, .int u6)] [] σ) (hp : F_X6_mixInto_15 K c5 c15 u0 u3 u5 u6 σ) : GG κ 15 [(0, .ref (kad κ u0)), (3, .long u3), (5, .int u5), (6, .int u6)] [] σ := by
  unfold F_X6_mixInto_15 at hp
  refine x_iload 3 C rfl (dX6_mixInto_p0 9 rfl) ?_
  refine x_bipush (v := 8) C (by decide) (dX6_mixInto_p0 10 rfl) ?_
  refine x_icmp_ge (tgt := 44) C (dX6_mixInto_p0 11 rfl) (by decide) (fun hc => ?_) (fun hc => ?_)
  · have hp := hp.1 hc
    obtain ⟨v7, ev7⟩ : ∃ z : Int32, z = u5 + 1 := ⟨_, rfl⟩
    have hp := hp v7 ev7
    refine x_iinc (v := v7) (loc' := [(5, .int v7), (0, .ref (kad κ u0)), (3, .long u3), (6, .int u6)]) 2 C rfl (by rw [ev7]; rfl) (by decide) rfl (dX6_mixInto_p0 24 rfl) ?_
    refine x_goto (tgt := 5) C (dX6_mixInto_p0 25 rfl) (by decide) ?_
    refine x_loc (loc' := [(0, .ref (kad κ u0)), (3, .long u3), (5, .int v7)]) [1, 2, 0] rfl ?_
    exact hc5 u3 v7 σ hp
  · have hp := hp.2 hc
    refine x_lload_n 1 C rfl (dX6_mixInto_p0 12 rfl) ?_
    refine x_aload_n 0 C rfl (dX6_mixInto_p0 13 rfl) ?_
    refine gX6_0 (b := u0 + 1) C (w_kd hu0) (w_lt hu0) (w_m0 hu0) tw_80 (dX6_mixInto_p0 14 rfl) ?_
    refine x_iload 2 C rfl (dX6_mixInto_p0 15 rfl) ?_
    obtain ⟨h8, hp⟩ := hp
    refine x_aald (c := 13) (b := (u0 + 1) + 1 + ix u5) C (w_kd0 hu0) (by decide) rfl rfl (w_lt0 hu0) (vp_ln (w_ln0 hu0) h8) (row_mr13 (w_kd0 hu0) (w_lt0 hu0) (vp_ln (w_ln0 hu0) h8)) (dX6_mixInto_p0 16 rfl) ?_
    refine x_iload 3 C rfl (dX6_mixInto_p0 17 rfl) ?_
    obtain ⟨h9, hp⟩ := hp
    refine x_iald C (row_kd13 (w_kd0 hu0) (w_lt0 hu0) (vp_ln (w_ln0 hu0) h8)) (row_lt13 (w_kd0 hu0) (w_lt0 hu0) (vp_ln (w_ln0 hu0) h8)) (vp_ln ((row_ln13 (w_kd0 hu0) (w_lt0 hu0) (vp_ln (w_ln0 hu0) h8)).trans (w_iln0 hu0)) h9) (dX6_mixInto_p0 18 rfl) ?_
    refine x_i2l C (dX6_mixInto_p0 19 rfl) ?_
    refine x_cnL (As := [.long u3, .long (Int32.toInt64 (σ.1 ((u0 + 1) + 1 + ix u5) (ix u6)))]) (st := []) C LRX6_50 C.kn.2.1.2.2 (m_X7_mix (kL κ) (kad κ) (kD κ) (kca κ) C.ado u3 (Int32.toInt64 (σ.1 ((u0 + 1) + 1 + ix u5) (ix u6)))  σ _ hp) rfl (by decide) rfl (Nat.le_of_ble_eq_true rfl) (dX6_mixInto_p0 20 rfl) (fun r11 s10 hp => ?_)
    refine x_lstore_n (loc' := [(3, .long r11), (0, .ref (kad κ u0)), (5, .int u5), (6, .int u6)]) C rfl (by decide) rfl (dX6_mixInto_p0 21 rfl) ?_
    obtain ⟨v12, ev12⟩ : ∃ z : Int32, z = u6 + 1 := ⟨_, rfl⟩
    have hp := hp v12 ev12
    refine x_iinc (v := v12) (loc' := [(6, .int v12), (3, .long r11), (0, .ref (kad κ u0)), (5, .int u5)]) 3 C rfl (by rw [ev12]; rfl) (by decide) rfl (dX6_mixInto_p0 22 rfl) ?_
    refine x_goto (tgt := 15) C (dX6_mixInto_p0 23 rfl) (by decide) ?_
    refine x_loc (loc' := [(0, .ref (kad κ u0)), (3, .long r11), (5, .int u5), (6, .int v12)]) [2, 1, 3, 0] rfl ?_
    exact hc15 r11 v12 s10 hp
def F_X6_mixInto_5 (K : Int64 → St → Prop) (c5 : (Int64 × Int32 × St) → Prop) (u0 : Nat) (u3 : Int64) (u5 : Int32) (σ : St) : Prop := (8 < u5 → (LpE (fun c s => F_X6_mixInto_53 K  c u0 s.1 s.2.1 s.2.2) (u3, 0, σ))) ∧ (¬ (8 < u5) → (LpE (fun c s => F_X6_mixInto_15 K c5 c u0 s.1 u5 s.2.1 s.2.2) (u3, 0, σ)))
set_option maxHeartbeats 4000000 in
set_option maxRecDepth 100000 in
theorem F_X6_mixInto_5_w {κ : Kap} {K : Int64 → St → Prop} {c5 : (Int64 × Int32 × St) → Prop} (C : Ok κ RX6 cX6_mixInto 7 1) (hret : RetL κ cX6_mixInto K) (u0 : Nat) (u3 : Int64) (u5 : Int32) (hu0 : wOk u0)   (σ : St) (hc5 : ∀ (u3 : Int64) (u5 : Int32) (σ : St), c5 (u3, u5, σ) → GG κ 5 [(0, .ref (kad κ u0)), (3, .long u3), (5, .int u5)] [] σ) (hp : F_X6_mixInto_5 K c5 u0 u3 u5 σ) : GG κ 5 [(0, .ref (kad κ u0)), (3, .long u3), (5, .int u5)] [] σ := by
  unfold F_X6_mixInto_5 at hp
  refine x_iload 2 C rfl (dX6_mixInto_p0 4 rfl) ?_
  refine x_bipush (v := 8) C (by decide) (dX6_mixInto_p0 5 rfl) ?_
  refine x_icmp_gt (tgt := 50) C (dX6_mixInto_p0 6 rfl) (by decide) (fun hc => ?_) (fun hc => ?_)
  · have hp := hp.1 hc
    refine x_iconst (v := 0) C (by decide) (dX6_mixInto_p0 26 rfl) ?_
    refine x_istore (loc' := [(5, .int 0), (0, .ref (kad κ u0)), (3, .long u3)]) C (by decide) rfl (dX6_mixInto_p0 27 rfl) ?_
    refine x_loc (loc' := [(0, .ref (kad κ u0)), (3, .long u3), (5, .int 0)]) [1, 2, 0] rfl ?_
    exact LpE_GG (S := (Int64 × Int32 × St)) (F := fun c s => F_X6_mixInto_53 K  c u0 s.1 s.2.1 s.2.2) (W := fun s => GG κ 53 [(0, .ref (kad κ u0)), (3, .long s.1), (5, .int s.2.1)] [] s.2.2) (fun c s hcc hp => F_X6_mixInto_53_w C hret u0 s.1 s.2.1 hu0 s.2.2  (fun u3 u5 σ h => hcc (u3, u5, σ) h) hp) hp
  · have hp := hp.2 hc
    refine x_iconst (v := 0) C (by decide) (dX6_mixInto_p0 7 rfl) ?_
    refine x_istore (loc' := [(6, .int 0), (0, .ref (kad κ u0)), (3, .long u3), (5, .int u5)]) C (by decide) rfl (dX6_mixInto_p0 8 rfl) ?_
    refine x_loc (loc' := [(0, .ref (kad κ u0)), (3, .long u3), (5, .int u5), (6, .int 0)]) [1, 2, 3, 0] rfl ?_
    exact LpE_GG (S := (Int64 × Int32 × St)) (F := fun c s => F_X6_mixInto_15 K c5 c u0 s.1 u5 s.2.1 s.2.2) (W := fun s => GG κ 15 [(0, .ref (kad κ u0)), (3, .long s.1), (5, .int u5), (6, .int s.2.1)] [] s.2.2) (fun c s hcc hp => F_X6_mixInto_15_w C hret u0 s.1 u5 s.2.1 hu0 s.2.2 hc5 (fun u3 u6 σ h => hcc (u3, u6, σ) h) hp) hp
def P_X6_mixInto (p0 : Nat) (p1 : Int64) (σ : St) (K : Int64 → St → Prop) : Prop := LpE (fun c s => F_X6_mixInto_5 K  c p0 s.1 s.2.1 s.2.2) (p1, 0, σ)
set_option maxHeartbeats 4000000 in
set_option maxRecDepth 100000 in
theorem m_X6_mixInto (l : Launch) (ad : Nat → Nat) (D : va_G) (ca : Nat → ClassId) (had : adOk ad) (p0 : Nat) (p1 : Int64) (hp0 : wOk p0) (σ : St) (K : Int64 → St → Prop) (hp : P_X6_mixInto p0 p1 σ K) : CtL l ad D ca yX6_mixInto cX6_mixInto 7 1 [.ref (ad p0), .long p1] σ K := CtL_of (av := fun ad => [.ref (ad p0), .long p1]) (plainFor_of_name (by decide)) had (Nat.le_of_ble_eq_true rfl) (fun κ C hret => by
  have C : Ok κ RX6 cX6_mixInto 7 1 := C
  show GG κ 0 [(0, .ref (kad κ p0)), (1, .long p1)] [] σ
  unfold P_X6_mixInto at hp
  refine x_lload_n 1 C rfl (dX6_mixInto_p0 0 rfl) ?_
  refine x_lstore_n (loc' := [(3, .long p1), (0, .ref (kad κ p0)), (1, .long p1)]) C rfl (by decide) rfl (dX6_mixInto_p0 1 rfl) ?_
  refine x_iconst (v := 0) C (by decide) (dX6_mixInto_p0 2 rfl) ?_
  refine x_istore (loc' := [(5, .int 0), (3, .long p1), (0, .ref (kad κ p0)), (1, .long p1)]) C (by decide) rfl (dX6_mixInto_p0 3 rfl) ?_
  refine x_loc (loc' := [(0, .ref (kad κ p0)), (3, .long p1), (5, .int 0)]) [2, 1, 0] rfl ?_
  exact LpE_GG (S := (Int64 × Int32 × St)) (F := fun c s => F_X6_mixInto_5 K  c p0 s.1 s.2.1 s.2.2) (W := fun s => GG κ 5 [(0, .ref (kad κ p0)), (3, .long s.1), (5, .int s.2.1)] [] s.2.2) (fun c s hcc hp => F_X6_mixInto_5_w C hret p0 s.1 s.2.1 hp0 s.2.2  (fun u3 u5 σ h => hcc (u3, u5, σ) h) hp) hp)
def P_X6_nudge (p0 : Nat) (p1 : Nat) (p2 : Int32) (p3 : Int32) (p4 : Int32) (σ : St) (K : St → Prop) : Prop := vp_in p2 7 ∧ (vp_in (σ.1 (p1 + 1) (ix p2)) 9 ∧ vp_in p3 7 ∧ (∀ v4 : Int32, v4 = (σ.1 (p1 + 1) (ix p3)) → vp_in v4 8 ∧ (P_X6_clamp ((σ.1 ((p0 + 1) + 1 + ix (σ.1 (p1 + 1) (ix p2))) (ix v4)) + p4) σ (fun r7 s6 => vp_in v4 8 ∧ ∀ s9 : St, s9 = wI s6 ((p0 + 1) + 1 + ix (σ.1 (p1 + 1) (ix p2))) (ix v4) r7 → P_X6_direction p2 p3 s9 (fun r11 s10 => vp_in r11 2 ∧ (∀ v13 : Int32, v13 = (if 0 ≤ (p2 - p3) then (p2 - p3) else 0 - (p2 - p3)) → vp_in v13 7 ∧ (P_X6_clamp ((s10.1 ((p0 + 11) + 1 + ix r11) (ix v13)) + p4) s10 (fun r16 s15 => vp_in v13 7 ∧ ∀ s18 : St, s18 = wI s15 ((p0 + 11) + 1 + ix r11) (ix v13) r16 → (K s18)))))))))
set_option maxHeartbeats 4000000 in
set_option maxRecDepth 100000 in
theorem m_X6_nudge (l : Launch) (ad : Nat → Nat) (D : va_G) (ca : Nat → ClassId) (had : adOk ad) (p0 : Nat) (p1 : Nat) (p2 : Int32) (p3 : Int32) (p4 : Int32) (hp0 : wOk p0) (hp1 : sOk p1) (σ : St) (K : St → Prop) (hp : P_X6_nudge p0 p1 p2 p3 p4 σ K) : CtV l ad D ca yX6_nudge cX6_nudge 9 2 [.ref (ad p0), .ref (ad p1), .int p2, .int p3, .int p4] σ K := CtV_of (av := fun ad => [.ref (ad p0), .ref (ad p1), .int p2, .int p3, .int p4]) (plainFor_of_name (by decide)) had (Nat.le_of_ble_eq_true rfl) (fun κ C hret => by
  have C : Ok κ RX6 cX6_nudge 9 2 := C
  show GG κ 0 [(0, .ref (kad κ p0)), (1, .ref (kad κ p1)), (2, .int p2), (3, .int p3), (4, .int p4)] [] σ
  unfold P_X6_nudge at hp
  refine x_aload_n 0 C rfl (dX6_nudge_p0 0 rfl) ?_
  refine gX6_0 (b := p0 + 1) C (w_kd hp0) (w_lt hp0) (w_m0 hp0) tw_80 (dX6_nudge_p0 1 rfl) ?_
  refine x_aload_n 1 C rfl (dX6_nudge_p0 2 rfl) ?_
  refine gX0_1 (b := p1 + 1) C (s_kd hp1) (s_lt hp1) (s_m1 hp1) tw_53 (dX6_nudge_p0 3 rfl) ?_
  refine x_iload_n 2 C rfl (dX6_nudge_p0 4 rfl) ?_
  obtain ⟨h1, hp⟩ := hp
  refine x_iald C (s_kd1 hp1) (s_lt1 hp1) (vp_ln (s_ln1 hp1) h1) (dX6_nudge_p0 5 rfl) ?_
  obtain ⟨h2, hp⟩ := hp
  refine x_aald (c := 13) (b := (p0 + 1) + 1 + ix (σ.1 (p1 + 1) (ix p2))) C (w_kd0 hp0) (by decide) rfl rfl (w_lt0 hp0) (vp_ln (w_ln0 hp0) h2) (row_mr13 (w_kd0 hp0) (w_lt0 hp0) (vp_ln (w_ln0 hp0) h2)) (dX6_nudge_p0 6 rfl) ?_
  refine x_astore (loc' := [(5, .ref (kad κ ((p0 + 1) + 1 + ix (σ.1 (p1 + 1) (ix p2))))), (0, .ref (kad κ p0)), (1, .ref (kad κ p1)), (2, .int p2), (3, .int p3), (4, .int p4)]) C (by decide) rfl (dX6_nudge_p0 7 rfl) ?_
  refine x_aload_n 2 C rfl (dX6_nudge_p0 8 rfl) ?_
  refine gX0_1 (b := p1 + 1) C (s_kd hp1) (s_lt hp1) (s_m1 hp1) tw_53 (dX6_nudge_p0 9 rfl) ?_
  refine x_iload_n 4 C rfl (dX6_nudge_p0 10 rfl) ?_
  obtain ⟨h3, hp⟩ := hp
  refine x_iald C (s_kd1 hp1) (s_lt1 hp1) (vp_ln (s_ln1 hp1) h3) (dX6_nudge_p0 11 rfl) ?_
  refine x_topI (fun v4 ev4 => ?_)
  have hp := hp v4 ev4
  refine x_istore (loc' := [(6, .int v4), (5, .ref (kad κ ((p0 + 1) + 1 + ix (σ.1 (p1 + 1) (ix p2))))), (0, .ref (kad κ p0)), (1, .ref (kad κ p1)), (2, .int p2), (3, .int p3), (4, .int p4)]) C (by decide) rfl (dX6_nudge_p0 12 rfl) ?_
  refine x_aload 1 C rfl (dX6_nudge_p0 13 rfl) ?_
  refine x_iload 0 C rfl (dX6_nudge_p0 14 rfl) ?_
  refine x_aload 1 C rfl (dX6_nudge_p0 15 rfl) ?_
  refine x_iload 0 C rfl (dX6_nudge_p0 16 rfl) ?_
  obtain ⟨h5, hp⟩ := hp
  refine x_iald C (row_kd13 (w_kd0 hp0) (w_lt0 hp0) (vp_ln (w_ln0 hp0) h2)) (row_lt13 (w_kd0 hp0) (w_lt0 hp0) (vp_ln (w_ln0 hp0) h2)) (vp_ln ((row_ln13 (w_kd0 hp0) (w_lt0 hp0) (vp_ln (w_ln0 hp0) h2)).trans (w_iln0 hp0)) h5) (dX6_nudge_p0 17 rfl) ?_
  refine x_iload 6 C rfl (dX6_nudge_p0 18 rfl) ?_
  refine x_iadd C (dX6_nudge_p0 19 rfl) ?_
  refine x_csI (As := [.int ((σ.1 ((p0 + 1) + 1 + ix (σ.1 (p1 + 1) (ix p2))) (ix v4)) + p4)]) (st := [.int v4, .ref (kad κ ((p0 + 1) + 1 + ix (σ.1 (p1 + 1) (ix p2))))]) C LRX6_35 (m_X6_clamp (kL κ) (kad κ) (kD κ) (kca κ) C.ado ((σ.1 ((p0 + 1) + 1 + ix (σ.1 (p1 + 1) (ix p2))) (ix v4)) + p4)  σ _ hp) rfl (by decide) rfl (Nat.le_of_ble_eq_true rfl) (dX6_nudge_p0 20 rfl) (fun r7 s6 hp => ?_)
  obtain ⟨h8, hp⟩ := hp
  refine x_iast C (row_kd13 (w_kd0 hp0) (w_lt0 hp0) (vp_ln (w_ln0 hp0) h2)) (row_lt13 (w_kd0 hp0) (w_lt0 hp0) (vp_ln (w_ln0 hp0) h2)) (vp_ln ((row_ln13 (w_kd0 hp0) (w_lt0 hp0) (vp_ln (w_ln0 hp0) h2)).trans (w_iln0 hp0)) h8) (dX6_nudge_p0 21 rfl) ?_
  refine x_nmS (fun s9 es9 => ?_)
  have hp := hp s9 es9
  refine x_aload_n 2 C rfl (dX6_nudge_p0 22 rfl) ?_
  refine gX6_1 (b := p0 + 11) C (w_kd hp0) (w_lt hp0) (w_m1 hp0) tw_82 (dX6_nudge_p0 23 rfl) ?_
  refine x_iload_n 4 C rfl (dX6_nudge_p0 24 rfl) ?_
  refine x_iload_n 5 C rfl (dX6_nudge_p0 25 rfl) ?_
  refine x_csI (As := [.int p2, .int p3]) (st := [.ref (kad κ (p0 + 11))]) C LRX6_25 (m_X6_direction (kL κ) (kad κ) (kD κ) (kca κ) C.ado p2 p3  s9 _ hp) rfl (by decide) rfl (Nat.le_of_ble_eq_true rfl) (dX6_nudge_p0 26 rfl) (fun r11 s10 hp => ?_)
  obtain ⟨h12, hp⟩ := hp
  refine x_aald (c := 13) (b := (p0 + 11) + 1 + ix r11) C (w_kd1 hp0) (by decide) rfl rfl (w_lt1 hp0) (vp_ln (w_ln1 hp0) h12) (row_mr13 (w_kd1 hp0) (w_lt1 hp0) (vp_ln (w_ln1 hp0) h12)) (dX6_nudge_p0 27 rfl) ?_
  refine x_astore (loc' := [(7, .ref (kad κ ((p0 + 11) + 1 + ix r11))), (6, .int v4), (5, .ref (kad κ ((p0 + 1) + 1 + ix (σ.1 (p1 + 1) (ix p2))))), (0, .ref (kad κ p0)), (1, .ref (kad κ p1)), (2, .int p2), (3, .int p3), (4, .int p4)]) C (by decide) rfl (dX6_nudge_p0 28 rfl) ?_
  refine x_iload_n 5 C rfl (dX6_nudge_p0 29 rfl) ?_
  refine x_iload_n 6 C rfl (dX6_nudge_p0 30 rfl) ?_
  refine x_isub C (dX6_nudge_p0 31 rfl) ?_
  refine x_abs C tw_405 tw_406 tw_11 tw_407 (by decide) (Nat.le_of_ble_eq_true rfl) (dX6_nudge_p0 32 rfl) ?_
  refine x_topI (fun v13 ev13 => ?_)
  have hp := hp v13 ev13
  refine x_istore (loc' := [(8, .int v13), (7, .ref (kad κ ((p0 + 11) + 1 + ix r11))), (6, .int v4), (5, .ref (kad κ ((p0 + 1) + 1 + ix (σ.1 (p1 + 1) (ix p2))))), (0, .ref (kad κ p0)), (1, .ref (kad κ p1)), (2, .int p2), (3, .int p3), (4, .int p4)]) C (by decide) rfl (dX6_nudge_p0 33 rfl) ?_
  refine x_aload 1 C rfl (dX6_nudge_p0 34 rfl) ?_
  refine x_iload 0 C rfl (dX6_nudge_p0 35 rfl) ?_
  refine x_aload 1 C rfl (dX6_nudge_p0 36 rfl) ?_
  refine x_iload 0 C rfl (dX6_nudge_p0 37 rfl) ?_
  obtain ⟨h14, hp⟩ := hp
  refine x_iald C (row_kd13 (w_kd1 hp0) (w_lt1 hp0) (vp_ln (w_ln1 hp0) h12)) (row_lt13 (w_kd1 hp0) (w_lt1 hp0) (vp_ln (w_ln1 hp0) h12)) (vp_ln ((row_ln13 (w_kd1 hp0) (w_lt1 hp0) (vp_ln (w_ln1 hp0) h12)).trans (w_iln1 hp0)) h14) (dX6_nudge_p0 38 rfl) ?_
  refine x_iload 8 C rfl (dX6_nudge_p0 39 rfl) ?_
  refine x_iadd C (dX6_nudge_p0 40 rfl) ?_
  refine x_csI (As := [.int ((s10.1 ((p0 + 11) + 1 + ix r11) (ix v13)) + p4)]) (st := [.int v13, .ref (kad κ ((p0 + 11) + 1 + ix r11))]) C LRX6_35 (m_X6_clamp (kL κ) (kad κ) (kD κ) (kca κ) C.ado ((s10.1 ((p0 + 11) + 1 + ix r11) (ix v13)) + p4)  s10 _ hp) rfl (by decide) rfl (Nat.le_of_ble_eq_true rfl) (dX6_nudge_p0 41 rfl) (fun r16 s15 hp => ?_)
  obtain ⟨h17, hp⟩ := hp
  refine x_iast C (row_kd13 (w_kd1 hp0) (w_lt1 hp0) (vp_ln (w_ln1 hp0) h12)) (row_lt13 (w_kd1 hp0) (w_lt1 hp0) (vp_ln (w_ln1 hp0) h12)) (vp_ln ((row_ln13 (w_kd1 hp0) (w_lt1 hp0) (vp_ln (w_ln1 hp0) h12)).trans (w_iln1 hp0)) h17) (dX6_nudge_p0 42 rfl) ?_
  refine x_nmS (fun s18 es18 => ?_)
  have hp := hp s18 es18
  exact hret _ _ _ (dX6_nudge_p0 43 rfl) hp)
def P_X6_ofArc (p0 : Nat) (p1 : Nat) (p2 : Int32) (p3 : Int32) (σ : St) (K : Int32 → St → Prop) : Prop := vp_in p2 7 ∧ (vp_in (σ.1 (p1 + 1) (ix p2)) 9 ∧ vp_in p3 7 ∧ (vp_in (σ.1 (p1 + 1) (ix p3)) 8 ∧ P_X6_direction p2 p3 σ (fun r6 s5 => vp_in r6 2 ∧ (∀ v8 : Int32, v8 = (if 0 ≤ (p2 - p3) then (p2 - p3) else 0 - (p2 - p3)) → vp_in v8 7 ∧ (K ((σ.1 ((p0 + 1) + 1 + ix (σ.1 (p1 + 1) (ix p2))) (ix (σ.1 (p1 + 1) (ix p3)))) + (s5.1 ((p0 + 11) + 1 + ix r6) (ix v8))) s5)))))
set_option maxHeartbeats 4000000 in
set_option maxRecDepth 100000 in
theorem m_X6_ofArc (l : Launch) (ad : Nat → Nat) (D : va_G) (ca : Nat → ClassId) (had : adOk ad) (p0 : Nat) (p1 : Nat) (p2 : Int32) (p3 : Int32) (hp0 : wOk p0) (hp1 : sOk p1) (σ : St) (K : Int32 → St → Prop) (hp : P_X6_ofArc p0 p1 p2 p3 σ K) : CtI l ad D ca yX6_ofArc cX6_ofArc 4 .int 1 [.ref (ad p0), .ref (ad p1), .int p2, .int p3] σ K := CtI_of (av := fun ad => [.ref (ad p0), .ref (ad p1), .int p2, .int p3]) (plainFor_of_name (by decide)) had (Nat.le_of_ble_eq_true rfl) (fun κ C hret => by
  have C : Ok κ RX6 cX6_ofArc 4 1 := C
  show GG κ 0 [(0, .ref (kad κ p0)), (1, .ref (kad κ p1)), (2, .int p2), (3, .int p3)] [] σ
  unfold P_X6_ofArc at hp
  refine x_aload_n 0 C rfl (dX6_ofArc_p0 0 rfl) ?_
  refine gX6_0 (b := p0 + 1) C (w_kd hp0) (w_lt hp0) (w_m0 hp0) tw_80 (dX6_ofArc_p0 1 rfl) ?_
  refine x_aload_n 1 C rfl (dX6_ofArc_p0 2 rfl) ?_
  refine gX0_1 (b := p1 + 1) C (s_kd hp1) (s_lt hp1) (s_m1 hp1) tw_53 (dX6_ofArc_p0 3 rfl) ?_
  refine x_iload_n 2 C rfl (dX6_ofArc_p0 4 rfl) ?_
  obtain ⟨h1, hp⟩ := hp
  refine x_iald C (s_kd1 hp1) (s_lt1 hp1) (vp_ln (s_ln1 hp1) h1) (dX6_ofArc_p0 5 rfl) ?_
  obtain ⟨h2, hp⟩ := hp
  refine x_aald (c := 13) (b := (p0 + 1) + 1 + ix (σ.1 (p1 + 1) (ix p2))) C (w_kd0 hp0) (by decide) rfl rfl (w_lt0 hp0) (vp_ln (w_ln0 hp0) h2) (row_mr13 (w_kd0 hp0) (w_lt0 hp0) (vp_ln (w_ln0 hp0) h2)) (dX6_ofArc_p0 6 rfl) ?_
  refine x_aload_n 1 C rfl (dX6_ofArc_p0 7 rfl) ?_
  refine gX0_1 (b := p1 + 1) C (s_kd hp1) (s_lt hp1) (s_m1 hp1) tw_53 (dX6_ofArc_p0 8 rfl) ?_
  refine x_iload_n 3 C rfl (dX6_ofArc_p0 9 rfl) ?_
  obtain ⟨h3, hp⟩ := hp
  refine x_iald C (s_kd1 hp1) (s_lt1 hp1) (vp_ln (s_ln1 hp1) h3) (dX6_ofArc_p0 10 rfl) ?_
  obtain ⟨h4, hp⟩ := hp
  refine x_iald C (row_kd13 (w_kd0 hp0) (w_lt0 hp0) (vp_ln (w_ln0 hp0) h2)) (row_lt13 (w_kd0 hp0) (w_lt0 hp0) (vp_ln (w_ln0 hp0) h2)) (vp_ln ((row_ln13 (w_kd0 hp0) (w_lt0 hp0) (vp_ln (w_ln0 hp0) h2)).trans (w_iln0 hp0)) h4) (dX6_ofArc_p0 11 rfl) ?_
  refine x_aload_n 0 C rfl (dX6_ofArc_p0 12 rfl) ?_
  refine gX6_1 (b := p0 + 11) C (w_kd hp0) (w_lt hp0) (w_m1 hp0) tw_82 (dX6_ofArc_p0 13 rfl) ?_
  refine x_iload_n 2 C rfl (dX6_ofArc_p0 14 rfl) ?_
  refine x_iload_n 3 C rfl (dX6_ofArc_p0 15 rfl) ?_
  refine x_csI (As := [.int p2, .int p3]) (st := [.ref (kad κ (p0 + 11)), .int (σ.1 ((p0 + 1) + 1 + ix (σ.1 (p1 + 1) (ix p2))) (ix (σ.1 (p1 + 1) (ix p3))))]) C LRX6_25 (m_X6_direction (kL κ) (kad κ) (kD κ) (kca κ) C.ado p2 p3  σ _ hp) rfl (by decide) rfl (Nat.le_of_ble_eq_true rfl) (dX6_ofArc_p0 16 rfl) (fun r6 s5 hp => ?_)
  obtain ⟨h7, hp⟩ := hp
  refine x_aald (c := 13) (b := (p0 + 11) + 1 + ix r6) C (w_kd1 hp0) (by decide) rfl rfl (w_lt1 hp0) (vp_ln (w_ln1 hp0) h7) (row_mr13 (w_kd1 hp0) (w_lt1 hp0) (vp_ln (w_ln1 hp0) h7)) (dX6_ofArc_p0 17 rfl) ?_
  refine x_iload_n 2 C rfl (dX6_ofArc_p0 18 rfl) ?_
  refine x_iload_n 3 C rfl (dX6_ofArc_p0 19 rfl) ?_
  refine x_isub C (dX6_ofArc_p0 20 rfl) ?_
  refine x_abs C tw_405 tw_406 tw_11 tw_407 (by decide) (Nat.le_of_ble_eq_true rfl) (dX6_ofArc_p0 21 rfl) ?_
  refine x_topI (fun v8 ev8 => ?_)
  have hp := hp v8 ev8
  obtain ⟨h9, hp⟩ := hp
  refine x_iald C (row_kd13 (w_kd1 hp0) (w_lt1 hp0) (vp_ln (w_ln1 hp0) h7)) (row_lt13 (w_kd1 hp0) (w_lt1 hp0) (vp_ln (w_ln1 hp0) h7)) (vp_ln ((row_ln13 (w_kd1 hp0) (w_lt1 hp0) (vp_ln (w_ln1 hp0) h7)).trans (w_iln1 hp0)) h9) (dX6_ofArc_p0 22 rfl) ?_
  refine x_iadd C (dX6_ofArc_p0 23 rfl) ?_
  exact hret _ _ _ _ (dX6_ofArc_p0 24 rfl) (nar_i _) hp)
def P_X7_find (p1 : Int32) (σ : St) (K : Option Nat → St → Prop) : Prop := (p1 < 0 → (K none σ)) ∧ (¬ (p1 < 0) → (((σ.1 0 2) ≤ p1 → (K none σ)) ∧ (¬ ((σ.1 0 2) ≤ p1) → (vp_in p1 4 ∧ sOk (σ.2.2 (ix p1)) ∧ (K (some (σ.2.2 (ix p1))) σ)))))
set_option maxHeartbeats 4000000 in
set_option maxRecDepth 100000 in
theorem m_X7_find (l : Launch) (ad : Nat → Nat) (D : va_G) (ca : Nat → ClassId) (had : adOk ad) (p1 : Int32)  (σ : St) (K : Option Nat → St → Prop) (hp : P_X7_find p1 σ K) : CtQ l ad D ca yX7_find cX7_find 2 RX0 0 [.ref (ad 0), .int p1] σ K := CtQ_of (av := fun ad => [.ref (ad 0), .int p1]) (plainFor_of_name (by decide)) had (Nat.le_of_ble_eq_true rfl) (fun κ C hret => by
  have C : Ok κ RX7 cX7_find 2 0 := C
  show GG κ 0 [(0, .ref (kad κ 0)), (1, .int p1)] [] σ
  unfold P_X7_find at hp
  refine x_iload_n 1 C rfl (dX7_find_p0 0 rfl) ?_
  refine x_if_lt (tgt := 21) C (dX7_find_p0 1 rfl) (by decide) (fun hc => ?_) (fun hc => ?_)
  · have hp := hp.1 hc
    refine x_null C (dX7_find_p0 11 rfl) ?_
    exact hret.2 _ _ _ (dX7_find_p0 12 rfl) hp
  · have hp := hp.2 hc
    refine x_iload_n 1 C rfl (dX7_find_p0 2 rfl) ?_
    refine x_aload_n 0 C rfl (dX7_find_p0 3 rfl) ?_
    refine gX7_2 C rfl (by decide) tw_236 (dX7_find_p0 4 rfl) ?_
    refine x_icmp_ge (tgt := 21) C (dX7_find_p0 5 rfl) (by decide) (fun hc => ?_) (fun hc => ?_)
    · have hp := hp.1 hc
      refine x_null C (dX7_find_p0 11 rfl) ?_
      exact hret.2 _ _ _ (dX7_find_p0 12 rfl) hp
    · have hp := hp.2 hc
      refine x_aload_n 0 C rfl (dX7_find_p0 6 rfl) ?_
      refine gX7_1 (b := 4) C rfl (by decide) rfl tw_235 (dX7_find_p0 7 rfl) ?_
      refine x_iload_n 1 C rfl (dX7_find_p0 8 rfl) ?_
      obtain ⟨h1, hp⟩ := hp
      obtain ⟨h2, hp⟩ := hp
      refine x_aald (c := 15) (b := σ.2.2 (ix p1)) C rfl (by decide) rfl rfl (by decide) h1 rfl (dX7_find_p0 9 rfl) ?_
      refine x_goto (tgt := 22) C (dX7_find_p0 10 rfl) (by decide) ?_
      exact hret.1 _ _ _ _ (dX7_find_p0 12 rfl) hp)
def P_X7_holds (p0 : Int32) (p1 : Int32) (σ : St) (K : Int32 → St → Prop) : Prop := (((p0 >>> (p1 &&& 31)) &&& 1) = 1 → (K 1 σ)) ∧ (¬ (((p0 >>> (p1 &&& 31)) &&& 1) = 1) → (K 0 σ))
set_option maxHeartbeats 4000000 in
set_option maxRecDepth 100000 in
theorem m_X7_holds (l : Launch) (ad : Nat → Nat) (D : va_G) (ca : Nat → ClassId) (had : adOk ad) (p0 : Int32) (p1 : Int32)  (σ : St) (K : Int32 → St → Prop) (hp : P_X7_holds p0 p1 σ K) : CtI l ad D ca yX7_holds cX7_holds 2 .boolean 0 [.int p0, .int p1] σ K := CtI_of (av := fun ad => [.int p0, .int p1]) (plainFor_of_name (by decide)) had (Nat.le_of_ble_eq_true rfl) (fun κ C hret => by
  have C : Ok κ RX7 cX7_holds 2 0 := C
  show GG κ 0 [(0, .int p0), (1, .int p1)] [] σ
  unfold P_X7_holds at hp
  refine x_iload_n 0 C rfl (dX7_holds_p0 0 rfl) ?_
  refine x_iload_n 1 C rfl (dX7_holds_p0 1 rfl) ?_
  refine x_ishr C (dX7_holds_p0 2 rfl) ?_
  refine x_iconst (v := 1) C (by decide) (dX7_holds_p0 3 rfl) ?_
  refine x_iand C (dX7_holds_p0 4 rfl) ?_
  refine x_iconst (v := 1) C (by decide) (dX7_holds_p0 5 rfl) ?_
  refine x_icmp_ne (tgt := 13) C (dX7_holds_p0 6 rfl) (by decide) (fun hc => ?_) (fun hc => ?_)
  · have hp := hp.2 hc
    refine x_iconst (v := 0) C (by decide) (dX7_holds_p0 9 rfl) ?_
    exact hret _ _ _ _ (dX7_holds_p0 10 rfl) (nar_z isB0) hp
  · have hp := hp.1 hc
    refine x_iconst (v := 1) C (by decide) (dX7_holds_p0 7 rfl) ?_
    refine x_goto (tgt := 14) C (dX7_holds_p0 8 rfl) (by decide) ?_
    exact hret _ _ _ _ (dX7_holds_p0 10 rfl) (nar_z isB1) hp)
def P_X7_arcScore (p1 : Nat) (p2 : Int32) (p3 : Int32) (σ : St) (K : Int32 → St → Prop) : Prop := P_X6_ofArc 81 p1 p2 p3 σ (fun r2 s1 => vp_in p2 7 ∧ vp_in p3 7 ∧ (K (r2 + (s1.1 ((p1 + 3) + 1 + ix p2) (ix p3))) s1))
set_option maxHeartbeats 4000000 in
set_option maxRecDepth 100000 in
theorem m_X7_arcScore (l : Launch) (ad : Nat → Nat) (D : va_G) (ca : Nat → ClassId) (had : adOk ad) (p1 : Nat) (p2 : Int32) (p3 : Int32) (hp1 : sOk p1) (σ : St) (K : Int32 → St → Prop) (hp : P_X7_arcScore p1 p2 p3 σ K) : CtI l ad D ca yX7_arcScore cX7_arcScore 4 .int 2 [.ref (ad 0), .ref (ad p1), .int p2, .int p3] σ K := CtI_of (av := fun ad => [.ref (ad 0), .ref (ad p1), .int p2, .int p3]) (plainFor_of_name (by decide)) had (Nat.le_of_ble_eq_true rfl) (fun κ C hret => by
  have C : Ok κ RX7 cX7_arcScore 4 2 := C
  show GG κ 0 [(0, .ref (kad κ 0)), (1, .ref (kad κ p1)), (2, .int p2), (3, .int p3)] [] σ
  unfold P_X7_arcScore at hp
  refine x_aload_n 0 C rfl (dX7_arcScore_p0 0 rfl) ?_
  refine gX7_3 (b := 81) C rfl (by decide) rfl tw_237 (dX7_arcScore_p0 1 rfl) ?_
  refine x_aload_n 1 C rfl (dX7_arcScore_p0 2 rfl) ?_
  refine x_iload_n 2 C rfl (dX7_arcScore_p0 3 rfl) ?_
  refine x_iload_n 3 C rfl (dX7_arcScore_p0 4 rfl) ?_
  refine x_cvI (As := [.ref (kad κ p1), .int p2, .int p3]) (st := []) C LRX7_263 (ci := 6) rfl (w_kd (Or.inl rfl)) (by decide) (w_lt (Or.inl rfl)) (m_X6_ofArc (kL κ) (kad κ) (kD κ) (kca κ) C.ado 81 p1 p2 p3 (Or.inl rfl) hp1 σ _ hp) rfl (by decide) rfl (Nat.le_of_ble_eq_true rfl) (dX7_arcScore_p0 5 rfl) (fun r2 s1 hp => ?_)
  refine x_aload_n 1 C rfl (dX7_arcScore_p0 6 rfl) ?_
  refine gX0_3 (b := p1 + 3) C (s_kd hp1) (s_lt hp1) (s_m3 hp1) tw_59 (dX7_arcScore_p0 7 rfl) ?_
  refine x_iload_n 2 C rfl (dX7_arcScore_p0 8 rfl) ?_
  obtain ⟨h3, hp⟩ := hp
  refine x_aald (c := 13) (b := (p1 + 3) + 1 + ix p2) C (s_kd3 hp1) (by decide) rfl rfl (s_lt3 hp1) (vp_ln (s_ln3 hp1) h3) (row_mr13 (s_kd3 hp1) (s_lt3 hp1) (vp_ln (s_ln3 hp1) h3)) (dX7_arcScore_p0 9 rfl) ?_
  refine x_iload_n 3 C rfl (dX7_arcScore_p0 10 rfl) ?_
  obtain ⟨h4, hp⟩ := hp
  refine x_iald C (row_kd13 (s_kd3 hp1) (s_lt3 hp1) (vp_ln (s_ln3 hp1) h3)) (row_lt13 (s_kd3 hp1) (s_lt3 hp1) (vp_ln (s_ln3 hp1) h3)) (vp_ln ((row_ln13 (s_kd3 hp1) (s_lt3 hp1) (vp_ln (s_ln3 hp1) h3)).trans (s_iln3 hp1)) h4) (dX7_arcScore_p0 11 rfl) ?_
  refine x_iadd C (dX7_arcScore_p0 12 rfl) ?_
  exact hret _ _ _ _ (dX7_arcScore_p0 13 rfl) (nar_i _) hp)
def J_X7_offerArcs_83 (K : St → Prop) (c13 : (Int32 × St) → Prop) (c31 : (Int32 × St) → Prop) (u1 : Nat) (u2 : Int32) (u3 : Int32) (u4 : Int32) (u5 : Int32) (t1 : Int32) (t2 : Int32) (t3 : Int64) (σ : St) : Prop := P_X4_offer t1 t2 t3 σ (fun s10 => ∀ v11 : Int32, v11 = u5 + 1 → c31 (v11, s10))
set_option maxHeartbeats 4000000 in
set_option maxRecDepth 100000 in
theorem J_X7_offerArcs_83_w {κ : Kap} {K : St → Prop} {c13 : (Int32 × St) → Prop} {c31 : (Int32 × St) → Prop} (C : Ok κ RX7 cX7_offerArcs 6 3) (hret : RetV κ cX7_offerArcs K) (u1 : Nat) (u2 : Int32) (u3 : Int32) (u4 : Int32) (u5 : Int32) (t1 : Int32) (t2 : Int32) (t3 : Int64)  (hu1 : sOk u1)         (σ : St) (hc13 : ∀ (u3 : Int32) (σ : St), c13 (u3, σ) → GG κ 13 [(0, .ref (kad κ 0)), (1, .ref (kad κ u1)), (2, .int u2), (3, .int u3)] [] σ) (hc31 : ∀ (u5 : Int32) (σ : St), c31 (u5, σ) → GG κ 31 [(0, .ref (kad κ 0)), (1, .ref (kad κ u1)), (2, .int u2), (3, .int u3), (4, .int u4), (5, .int u5)] [] σ) (hp : J_X7_offerArcs_83 K c13 c31 u1 u2 u3 u4 u5 t1 t2 t3 σ) : GG κ 83 [(0, .ref (kad κ 0)), (1, .ref (kad κ u1)), (2, .int u2), (3, .int u3), (4, .int u4), (5, .int u5)] [.long t3, .int t2, .int t1, .ref (kad κ 126)] σ := by
  unfold J_X7_offerArcs_83 at hp
  refine x_cvV (As := [.int t1, .int t2, .long t3]) (st := []) C LRX7_275 (ci := 4) rfl rfl (by decide) (by decide) (m_X4_offer (kL κ) (kad κ) (kD κ) (kca κ) C.ado t1 t2 t3  σ _ hp) rfl (by decide) rfl (Nat.le_of_ble_eq_true rfl) (dX7_offerArcs_p0 43 rfl) (fun s10 hp => ?_)
  obtain ⟨v11, ev11⟩ : ∃ z : Int32, z = u5 + 1 := ⟨_, rfl⟩
  have hp := hp v11 ev11
  refine x_iinc (v := v11) (loc' := [(5, .int v11), (0, .ref (kad κ 0)), (1, .ref (kad κ u1)), (2, .int u2), (3, .int u3), (4, .int u4)]) 5 C rfl (by rw [ev11]; rfl) (by decide) rfl (dX7_offerArcs_p0 44 rfl) ?_
  refine x_goto (tgt := 31) C (dX7_offerArcs_p0 45 rfl) (by decide) ?_
  refine x_loc (loc' := [(0, .ref (kad κ 0)), (1, .ref (kad κ u1)), (2, .int u2), (3, .int u3), (4, .int u4), (5, .int v11)]) [1, 2, 3, 4, 5, 0] rfl ?_
  exact hc31 v11 s10 hp
def F_X7_offerArcs_31 (K : St → Prop) (c13 : (Int32 × St) → Prop) (c31 : (Int32 × St) → Prop) (u1 : Nat) (u2 : Int32) (u3 : Int32) (u4 : Int32) (u5 : Int32) (σ : St) : Prop := ((σ.1 u1 0) < u5 → ∀ v4 : Int32, v4 = u3 + 1 → c13 (v4, σ)) ∧ (¬ ((σ.1 u1 0) < u5) → P_X7_holds u4 u5 σ (fun r6 s5 => (r6 = 0 → ∀ v7 : Int32, v7 = u5 + 1 → c31 (v7, s5)) ∧ (¬ (r6 = 0) → ((u2 = 0 → P_X7_arcScore u1 u5 u3 s5 (fun r9 s8 => J_X7_offerArcs_83 K c13 c31 u1 u2 u3 u4 u5 u5 u3 (Int32.toInt64 r9) s8)) ∧ (¬ (u2 = 0) → P_X5_arcSum u5 u3 s5 (fun r13 s12 => J_X7_offerArcs_83 K c13 c31 u1 u2 u3 u4 u5 u5 u3 r13 s12))))))
set_option maxHeartbeats 4000000 in
set_option maxRecDepth 100000 in
theorem F_X7_offerArcs_31_w {κ : Kap} {K : St → Prop} {c13 : (Int32 × St) → Prop} {c31 : (Int32 × St) → Prop} (C : Ok κ RX7 cX7_offerArcs 6 3) (hret : RetV κ cX7_offerArcs K) (u1 : Nat) (u2 : Int32) (u3 : Int32) (u4 : Int32) (u5 : Int32)  (hu1 : sOk u1)     (σ : St) (hc13 : ∀ (u3 : Int32) (σ : St), c13 (u3, σ) → GG κ 13 [(0, .ref (kad κ 0)), (1, .ref (kad κ u1)), (2, .int u2), (3, .int u3)] [] σ) (hc31 : ∀ (u5 : Int32) (σ : St), c31 (u5, σ) → GG κ 31 [(0, .ref (kad κ 0)), (1, .ref (kad κ u1)), (2, .int u2), (3, .int u3), (4, .int u4), (5, .int u5)] [] σ) (hp : F_X7_offerArcs_31 K c13 c31 u1 u2 u3 u4 u5 σ) : GG κ 31 [(0, .ref (kad κ 0)), (1, .ref (kad κ u1)), (2, .int u2), (3, .int u3), (4, .int u4), (5, .int u5)] [] σ := by
  unfold F_X7_offerArcs_31 at hp
  refine x_iload 5 C rfl (dX7_offerArcs_p0 17 rfl) ?_
  refine x_aload_n 1 C rfl (dX7_offerArcs_p0 18 rfl) ?_
  refine gX0_0 C (s_kd hu1) (s_lt hu1) tw_51 (dX7_offerArcs_p0 19 rfl) ?_
  refine x_icmp_gt (tgt := 92) C (dX7_offerArcs_p0 20 rfl) (by decide) (fun hc => ?_) (fun hc => ?_)
  · have hp := hp.1 hc
    obtain ⟨v4, ev4⟩ : ∃ z : Int32, z = u3 + 1 := ⟨_, rfl⟩
    have hp := hp v4 ev4
    refine x_iinc (v := v4) (loc' := [(3, .int v4), (0, .ref (kad κ 0)), (1, .ref (kad κ u1)), (2, .int u2), (4, .int u4), (5, .int u5)]) 3 C rfl (by rw [ev4]; rfl) (by decide) rfl (dX7_offerArcs_p0 46 rfl) ?_
    refine x_goto (tgt := 13) C (dX7_offerArcs_p0 47 rfl) (by decide) ?_
    refine x_loc (loc' := [(0, .ref (kad κ 0)), (1, .ref (kad κ u1)), (2, .int u2), (3, .int v4)]) [1, 2, 3, 0] rfl ?_
    exact hc13 v4 σ hp
  · have hp := hp.2 hc
    refine x_iload 4 C rfl (dX7_offerArcs_p0 21 rfl) ?_
    refine x_iload 5 C rfl (dX7_offerArcs_p0 22 rfl) ?_
    refine x_csI (As := [.int u4, .int u5]) (st := []) C LRX7_272 (m_X7_holds (kL κ) (kad κ) (kD κ) (kca κ) C.ado u4 u5  σ _ hp) rfl (by decide) rfl (Nat.le_of_ble_eq_true rfl) (dX7_offerArcs_p0 23 rfl) (fun r6 s5 hp => ?_)
    refine x_if_eq (tgt := 86) C (dX7_offerArcs_p0 24 rfl) (by decide) (fun hc => ?_) (fun hc => ?_)
    · have hp := hp.1 hc
      obtain ⟨v7, ev7⟩ : ∃ z : Int32, z = u5 + 1 := ⟨_, rfl⟩
      have hp := hp v7 ev7
      refine x_iinc (v := v7) (loc' := [(5, .int v7), (0, .ref (kad κ 0)), (1, .ref (kad κ u1)), (2, .int u2), (3, .int u3), (4, .int u4)]) 5 C rfl (by rw [ev7]; rfl) (by decide) rfl (dX7_offerArcs_p0 44 rfl) ?_
      refine x_goto (tgt := 31) C (dX7_offerArcs_p0 45 rfl) (by decide) ?_
      refine x_loc (loc' := [(0, .ref (kad κ 0)), (1, .ref (kad κ u1)), (2, .int u2), (3, .int u3), (4, .int u4), (5, .int v7)]) [1, 2, 3, 4, 5, 0] rfl ?_
      exact hc31 v7 s5 hp
    · have hp := hp.2 hc
      refine x_aload_n 0 C rfl (dX7_offerArcs_p0 25 rfl) ?_
      refine gX7_7 (b := 126) C rfl (by decide) rfl tw_241 (dX7_offerArcs_p0 26 rfl) ?_
      refine x_iload 5 C rfl (dX7_offerArcs_p0 27 rfl) ?_
      refine x_iload_n 3 C rfl (dX7_offerArcs_p0 28 rfl) ?_
      refine x_iload_n 2 C rfl (dX7_offerArcs_p0 29 rfl) ?_
      refine x_if_eq (tgt := 74) C (dX7_offerArcs_p0 30 rfl) (by decide) (fun hc => ?_) (fun hc => ?_)
      · have hp := hp.1 hc
        refine x_aload_n 0 C rfl (dX7_offerArcs_p0 37 rfl) ?_
        refine x_aload_n 1 C rfl (dX7_offerArcs_p0 38 rfl) ?_
        refine x_iload 5 C rfl (dX7_offerArcs_p0 39 rfl) ?_
        refine x_iload_n 3 C rfl (dX7_offerArcs_p0 40 rfl) ?_
        refine x_cvI (As := [.ref (kad κ u1), .int u5, .int u3]) (st := [.int u3, .int u5, .ref (kad κ 126)]) C LRX7_176 (ci := 7) rfl rfl (by decide) (by decide) (m_X7_arcScore (kL κ) (kad κ) (kD κ) (kca κ) C.ado u1 u5 u3 hu1 s5 _ hp) rfl (by decide) rfl (Nat.le_of_ble_eq_true rfl) (dX7_offerArcs_p0 41 rfl) (fun r9 s8 hp => ?_)
        refine x_i2l C (dX7_offerArcs_p0 42 rfl) ?_
        exact J_X7_offerArcs_83_w C hret u1 u2 u3 u4 u5 u5 u3 (Int32.toInt64 r9) hu1 s8 hc13 hc31 hp
      · have hp := hp.2 hc
        refine x_aload_n 0 C rfl (dX7_offerArcs_p0 31 rfl) ?_
        refine gX7_8 (b := 147) C rfl (by decide) rfl tw_242 (dX7_offerArcs_p0 32 rfl) ?_
        refine x_iload 5 C rfl (dX7_offerArcs_p0 33 rfl) ?_
        refine x_iload_n 3 C rfl (dX7_offerArcs_p0 34 rfl) ?_
        refine x_cvL (As := [.int u5, .int u3]) (st := [.int u3, .int u5, .ref (kad κ 126)]) C LRX7_208 (ci := 5) rfl rfl (by decide) (by decide) (m_X5_arcSum (kL κ) (kad κ) (kD κ) (kca κ) C.ado u5 u3  s5 _ hp) rfl (by decide) rfl (Nat.le_of_ble_eq_true rfl) (dX7_offerArcs_p0 35 rfl) (fun r13 s12 hp => ?_)
        refine x_goto (tgt := 83) C (dX7_offerArcs_p0 36 rfl) (by decide) ?_
        exact J_X7_offerArcs_83_w C hret u1 u2 u3 u4 u5 u5 u3 r13 hu1 s12 hc13 hc31 hp
def F_X7_offerArcs_13 (K : St → Prop) (c13 : (Int32 × St) → Prop) (u1 : Nat) (u2 : Int32) (u3 : Int32) (σ : St) : Prop := ((σ.1 u1 0) < u3 → (K σ)) ∧ (¬ ((σ.1 u1 0) < u3) → P_X0_headChoices u1 u3 σ (fun r3 s2 => LpE (fun c s => F_X7_offerArcs_31 K c13 c u1 u2 u3 r3 s.1 s.2) (0, s2)))
set_option maxHeartbeats 4000000 in
set_option maxRecDepth 100000 in
theorem F_X7_offerArcs_13_w {κ : Kap} {K : St → Prop} {c13 : (Int32 × St) → Prop} (C : Ok κ RX7 cX7_offerArcs 6 3) (hret : RetV κ cX7_offerArcs K) (u1 : Nat) (u2 : Int32) (u3 : Int32)  (hu1 : sOk u1)   (σ : St) (hc13 : ∀ (u3 : Int32) (σ : St), c13 (u3, σ) → GG κ 13 [(0, .ref (kad κ 0)), (1, .ref (kad κ u1)), (2, .int u2), (3, .int u3)] [] σ) (hp : F_X7_offerArcs_13 K c13 u1 u2 u3 σ) : GG κ 13 [(0, .ref (kad κ 0)), (1, .ref (kad κ u1)), (2, .int u2), (3, .int u3)] [] σ := by
  unfold F_X7_offerArcs_13 at hp
  refine x_iload_n 3 C rfl (dX7_offerArcs_p0 7 rfl) ?_
  refine x_aload_n 1 C rfl (dX7_offerArcs_p0 8 rfl) ?_
  refine gX0_0 C (s_kd hu1) (s_lt hu1) tw_51 (dX7_offerArcs_p0 9 rfl) ?_
  refine x_icmp_gt (tgt := 98) C (dX7_offerArcs_p0 10 rfl) (by decide) (fun hc => ?_) (fun hc => ?_)
  · have hp := hp.1 hc
    exact hret _ _ _ (dX7_offerArcs_p0 48 rfl) hp
  · have hp := hp.2 hc
    refine x_aload_n 1 C rfl (dX7_offerArcs_p0 11 rfl) ?_
    refine x_iload_n 3 C rfl (dX7_offerArcs_p0 12 rfl) ?_
    refine x_cvI (As := [.int u3]) (st := []) C LRX7_269 (ci := 0) rfl (s_kd hu1) (by decide) (s_lt hu1) (m_X0_headChoices (kL κ) (kad κ) (kD κ) (kca κ) C.ado u1 u3 hu1 σ _ hp) rfl (by decide) rfl (Nat.le_of_ble_eq_true rfl) (dX7_offerArcs_p0 13 rfl) (fun r3 s2 hp => ?_)
    refine x_istore (loc' := [(4, .int r3), (0, .ref (kad κ 0)), (1, .ref (kad κ u1)), (2, .int u2), (3, .int u3)]) C (by decide) rfl (dX7_offerArcs_p0 14 rfl) ?_
    refine x_iconst (v := 0) C (by decide) (dX7_offerArcs_p0 15 rfl) ?_
    refine x_istore (loc' := [(5, .int 0), (4, .int r3), (0, .ref (kad κ 0)), (1, .ref (kad κ u1)), (2, .int u2), (3, .int u3)]) C (by decide) rfl (dX7_offerArcs_p0 16 rfl) ?_
    refine x_loc (loc' := [(0, .ref (kad κ 0)), (1, .ref (kad κ u1)), (2, .int u2), (3, .int u3), (4, .int r3), (5, .int 0)]) [2, 3, 4, 5, 1, 0] rfl ?_
    exact LpE_GG (S := (Int32 × St)) (F := fun c s => F_X7_offerArcs_31 K c13 c u1 u2 u3 r3 s.1 s.2) (W := fun s => GG κ 31 [(0, .ref (kad κ 0)), (1, .ref (kad κ u1)), (2, .int u2), (3, .int u3), (4, .int r3), (5, .int s.1)] [] s.2) (fun c s hcc hp => F_X7_offerArcs_31_w C hret u1 u2 u3 r3 s.1 hu1 s.2 hc13 (fun u5 σ h => hcc (u5, σ) h) hp) hp
def P_X7_offerArcs (p1 : Nat) (p2 : Int32) (σ : St) (K : St → Prop) : Prop := P_X4_begin (σ.1 p1 0) σ (fun s1 => LpE (fun c s => F_X7_offerArcs_13 K  c p1 p2 s.1 s.2) (1, s1))
set_option maxHeartbeats 4000000 in
set_option maxRecDepth 100000 in
theorem m_X7_offerArcs (l : Launch) (ad : Nat → Nat) (D : va_G) (ca : Nat → ClassId) (had : adOk ad) (p1 : Nat) (p2 : Int32) (hp1 : sOk p1) (σ : St) (K : St → Prop) (hp : P_X7_offerArcs p1 p2 σ K) : CtV l ad D ca yX7_offerArcs cX7_offerArcs 6 3 [.ref (ad 0), .ref (ad p1), .int p2] σ K := CtV_of (av := fun ad => [.ref (ad 0), .ref (ad p1), .int p2]) (plainFor_of_name (by decide)) had (Nat.le_of_ble_eq_true rfl) (fun κ C hret => by
  have C : Ok κ RX7 cX7_offerArcs 6 3 := C
  show GG κ 0 [(0, .ref (kad κ 0)), (1, .ref (kad κ p1)), (2, .int p2)] [] σ
  unfold P_X7_offerArcs at hp
  refine x_aload_n 0 C rfl (dX7_offerArcs_p0 0 rfl) ?_
  refine gX7_7 (b := 126) C rfl (by decide) rfl tw_241 (dX7_offerArcs_p0 1 rfl) ?_
  refine x_aload_n 1 C rfl (dX7_offerArcs_p0 2 rfl) ?_
  refine gX0_0 C (s_kd hp1) (s_lt hp1) tw_51 (dX7_offerArcs_p0 3 rfl) ?_
  refine x_cvV (As := [.int (σ.1 p1 0)]) (st := []) C LRX7_266 (ci := 4) rfl rfl (by decide) (by decide) (m_X4_begin (kL κ) (kad κ) (kD κ) (kca κ) C.ado (σ.1 p1 0)  σ _ hp) rfl (by decide) rfl (Nat.le_of_ble_eq_true rfl) (dX7_offerArcs_p0 4 rfl) (fun s1 hp => ?_)
  refine x_iconst (v := 1) C (by decide) (dX7_offerArcs_p0 5 rfl) ?_
  refine x_istore_n (loc' := [(3, .int 1), (0, .ref (kad κ 0)), (1, .ref (kad κ p1)), (2, .int p2)]) C rfl (by decide) rfl (dX7_offerArcs_p0 6 rfl) ?_
  refine x_loc (loc' := [(0, .ref (kad κ 0)), (1, .ref (kad κ p1)), (2, .int p2), (3, .int 1)]) [1, 2, 3, 0] rfl ?_
  exact LpE_GG (S := (Int32 × St)) (F := fun c s => F_X7_offerArcs_13 K  c p1 p2 s.1 s.2) (W := fun s => GG κ 13 [(0, .ref (kad κ 0)), (1, .ref (kad κ p1)), (2, .int p2), (3, .int s.1)] [] s.2) (fun c s hcc hp => F_X7_offerArcs_13_w C hret p1 p2 s.1 hp1 s.2  (fun u3 σ h => hcc (u3, σ) h) hp) hp)
def P_X7_rankTrees (p1 : Nat) (p2 : Int32) (σ : St) (K : St → Prop) : Prop := P_X7_offerArcs p1 0 σ (fun s1 => P_X4_seek p2 s1 (fun s2 => K s2))
set_option maxHeartbeats 4000000 in
set_option maxRecDepth 100000 in
theorem m_X7_rankTrees (l : Launch) (ad : Nat → Nat) (D : va_G) (ca : Nat → ClassId) (had : adOk ad) (p1 : Nat) (p2 : Int32) (hp1 : sOk p1) (σ : St) (K : St → Prop) (hp : P_X7_rankTrees p1 p2 σ K) : CtV l ad D ca yX7_rankTrees cX7_rankTrees 3 12 [.ref (ad 0), .ref (ad p1), .int p2] σ K := CtV_of (av := fun ad => [.ref (ad 0), .ref (ad p1), .int p2]) (plainFor_of_name (by decide)) had (Nat.le_of_ble_eq_true rfl) (fun κ C hret => by
  have C : Ok κ RX7 cX7_rankTrees 3 12 := C
  show GG κ 0 [(0, .ref (kad κ 0)), (1, .ref (kad κ p1)), (2, .int p2)] [] σ
  unfold P_X7_rankTrees at hp
  refine x_aload_n 0 C rfl (dX7_rankTrees_p0 0 rfl) ?_
  refine x_aload_n 1 C rfl (dX7_rankTrees_p0 1 rfl) ?_
  refine x_iconst (v := 0) C (by decide) (dX7_rankTrees_p0 2 rfl) ?_
  refine x_cvV (As := [.ref (kad κ p1), .int 0]) (st := []) C LRX7_216 (ci := 7) rfl rfl (by decide) (by decide) (m_X7_offerArcs (kL κ) (kad κ) (kD κ) (kca κ) C.ado p1 0 hp1 σ _ hp) rfl (by decide) rfl (Nat.le_of_ble_eq_true rfl) (dX7_rankTrees_p0 3 rfl) (fun s1 hp => ?_)
  refine x_aload_n 0 C rfl (dX7_rankTrees_p0 4 rfl) ?_
  refine gX7_7 (b := 126) C rfl (by decide) rfl tw_241 (dX7_rankTrees_p0 5 rfl) ?_
  refine x_iload_n 2 C rfl (dX7_rankTrees_p0 6 rfl) ?_
  refine x_cvV (As := [.int p2]) (st := []) C LRX7_187 (ci := 4) rfl rfl (by decide) (by decide) (m_X4_seek (kL κ) (kad κ) (kD κ) (kca κ) C.ado p2  s1 _ hp) rfl (by decide) rfl (Nat.le_of_ble_eq_true rfl) (dX7_rankTrees_p0 7 rfl) (fun s2 hp => ?_)
  exact hret _ _ _ (dX7_rankTrees_p0 8 rfl) hp)
def F_X7_countAgreeing_4 (K : Int32 → St → Prop) (c4 : (Int32 × Int32 × St) → Prop) (u1 : Nat) (u2 : Int32) (u3 : Int32) (σ : St) : Prop := ((σ.1 u1 0) < u3 → (K u2 σ)) ∧ (¬ ((σ.1 u1 0) < u3) → P_X4_headAt 0 u3 σ (fun r2 s1 => vp_in u3 7 ∧ ((r2 = (s1.1 (u1 + 2) (ix u3)) → ∀ v5 : Int32, v5 = u2 + 1 → ∀ v6 : Int32, v6 = u3 + 1 → c4 (v5, v6, s1)) ∧ (¬ (r2 = (s1.1 (u1 + 2) (ix u3))) → ∀ v4 : Int32, v4 = u3 + 1 → c4 (u2, v4, s1)))))
set_option maxHeartbeats 4000000 in
set_option maxRecDepth 100000 in
theorem F_X7_countAgreeing_4_w {κ : Kap} {K : Int32 → St → Prop} {c4 : (Int32 × Int32 × St) → Prop} (C : Ok κ RX7 cX7_countAgreeing 4 2) (hret : RetI κ cX7_countAgreeing .int K) (u1 : Nat) (u2 : Int32) (u3 : Int32)  (hu1 : sOk u1)   (σ : St) (hc4 : ∀ (u2 : Int32) (u3 : Int32) (σ : St), c4 (u2, u3, σ) → GG κ 4 [(0, .ref (kad κ 0)), (1, .ref (kad κ u1)), (2, .int u2), (3, .int u3)] [] σ) (hp : F_X7_countAgreeing_4 K c4 u1 u2 u3 σ) : GG κ 4 [(0, .ref (kad κ 0)), (1, .ref (kad κ u1)), (2, .int u2), (3, .int u3)] [] σ := by
  unfold F_X7_countAgreeing_4 at hp
  refine x_iload_n 3 C rfl (dX7_countAgreeing_p0 4 rfl) ?_
  refine x_aload_n 1 C rfl (dX7_countAgreeing_p0 5 rfl) ?_
  refine gX0_0 C (s_kd hu1) (s_lt hu1) tw_51 (dX7_countAgreeing_p0 6 rfl) ?_
  refine x_icmp_gt (tgt := 39) C (dX7_countAgreeing_p0 7 rfl) (by decide) (fun hc => ?_) (fun hc => ?_)
  · have hp := hp.1 hc
    refine x_iload_n 2 C rfl (dX7_countAgreeing_p0 21 rfl) ?_
    exact hret _ _ _ _ (dX7_countAgreeing_p0 22 rfl) (nar_i _) hp
  · have hp := hp.2 hc
    refine x_aload_n 0 C rfl (dX7_countAgreeing_p0 8 rfl) ?_
    refine gX7_7 (b := 126) C rfl (by decide) rfl tw_241 (dX7_countAgreeing_p0 9 rfl) ?_
    refine x_iconst (v := 0) C (by decide) (dX7_countAgreeing_p0 10 rfl) ?_
    refine x_iload_n 3 C rfl (dX7_countAgreeing_p0 11 rfl) ?_
    refine x_cvI (As := [.int 0, .int u3]) (st := []) C LRX7_140 (ci := 4) rfl rfl (by decide) (by decide) (m_X4_headAt (kL κ) (kad κ) (kD κ) (kca κ) C.ado 0 u3  σ _ hp) rfl (by decide) rfl (Nat.le_of_ble_eq_true rfl) (dX7_countAgreeing_p0 12 rfl) (fun r2 s1 hp => ?_)
    refine x_aload_n 1 C rfl (dX7_countAgreeing_p0 13 rfl) ?_
    refine gX0_2 (b := u1 + 2) C (s_kd hu1) (s_lt hu1) (s_m2 hu1) tw_57 (dX7_countAgreeing_p0 14 rfl) ?_
    refine x_iload_n 3 C rfl (dX7_countAgreeing_p0 15 rfl) ?_
    obtain ⟨h3, hp⟩ := hp
    refine x_iald C (s_kd2 hu1) (s_lt2 hu1) (vp_ln (s_ln2 hu1) h3) (dX7_countAgreeing_p0 16 rfl) ?_
    refine x_icmp_ne (tgt := 33) C (dX7_countAgreeing_p0 17 rfl) (by decide) (fun hc => ?_) (fun hc => ?_)
    · have hp := hp.2 hc
      obtain ⟨v4, ev4⟩ : ∃ z : Int32, z = u3 + 1 := ⟨_, rfl⟩
      have hp := hp v4 ev4
      refine x_iinc (v := v4) (loc' := [(3, .int v4), (0, .ref (kad κ 0)), (1, .ref (kad κ u1)), (2, .int u2)]) 3 C rfl (by rw [ev4]; rfl) (by decide) rfl (dX7_countAgreeing_p0 19 rfl) ?_
      refine x_goto (tgt := 4) C (dX7_countAgreeing_p0 20 rfl) (by decide) ?_
      refine x_loc (loc' := [(0, .ref (kad κ 0)), (1, .ref (kad κ u1)), (2, .int u2), (3, .int v4)]) [1, 2, 3, 0] rfl ?_
      exact hc4 u2 v4 s1 hp
    · have hp := hp.1 hc
      obtain ⟨v5, ev5⟩ : ∃ z : Int32, z = u2 + 1 := ⟨_, rfl⟩
      have hp := hp v5 ev5
      refine x_iinc (v := v5) (loc' := [(2, .int v5), (0, .ref (kad κ 0)), (1, .ref (kad κ u1)), (3, .int u3)]) 2 C rfl (by rw [ev5]; rfl) (by decide) rfl (dX7_countAgreeing_p0 18 rfl) ?_
      obtain ⟨v6, ev6⟩ : ∃ z : Int32, z = u3 + 1 := ⟨_, rfl⟩
      have hp := hp v6 ev6
      refine x_iinc (v := v6) (loc' := [(3, .int v6), (2, .int v5), (0, .ref (kad κ 0)), (1, .ref (kad κ u1))]) 3 C rfl (by rw [ev6]; rfl) (by decide) rfl (dX7_countAgreeing_p0 19 rfl) ?_
      refine x_goto (tgt := 4) C (dX7_countAgreeing_p0 20 rfl) (by decide) ?_
      refine x_loc (loc' := [(0, .ref (kad κ 0)), (1, .ref (kad κ u1)), (2, .int v5), (3, .int v6)]) [2, 3, 1, 0] rfl ?_
      exact hc4 v5 v6 s1 hp
def P_X7_countAgreeing (p1 : Nat) (σ : St) (K : Int32 → St → Prop) : Prop := LpE (fun c s => F_X7_countAgreeing_4 K  c p1 s.1 s.2.1 s.2.2) (0, 1, σ)
set_option maxHeartbeats 4000000 in
set_option maxRecDepth 100000 in
theorem m_X7_countAgreeing (l : Launch) (ad : Nat → Nat) (D : va_G) (ca : Nat → ClassId) (had : adOk ad) (p1 : Nat) (hp1 : sOk p1) (σ : St) (K : Int32 → St → Prop) (hp : P_X7_countAgreeing p1 σ K) : CtI l ad D ca yX7_countAgreeing cX7_countAgreeing 4 .int 2 [.ref (ad 0), .ref (ad p1)] σ K := CtI_of (av := fun ad => [.ref (ad 0), .ref (ad p1)]) (plainFor_of_name (by decide)) had (Nat.le_of_ble_eq_true rfl) (fun κ C hret => by
  have C : Ok κ RX7 cX7_countAgreeing 4 2 := C
  show GG κ 0 [(0, .ref (kad κ 0)), (1, .ref (kad κ p1))] [] σ
  unfold P_X7_countAgreeing at hp
  refine x_iconst (v := 0) C (by decide) (dX7_countAgreeing_p0 0 rfl) ?_
  refine x_istore_n (loc' := [(2, .int 0), (0, .ref (kad κ 0)), (1, .ref (kad κ p1))]) C rfl (by decide) rfl (dX7_countAgreeing_p0 1 rfl) ?_
  refine x_iconst (v := 1) C (by decide) (dX7_countAgreeing_p0 2 rfl) ?_
  refine x_istore_n (loc' := [(3, .int 1), (2, .int 0), (0, .ref (kad κ 0)), (1, .ref (kad κ p1))]) C rfl (by decide) rfl (dX7_countAgreeing_p0 3 rfl) ?_
  refine x_loc (loc' := [(0, .ref (kad κ 0)), (1, .ref (kad κ p1)), (2, .int 0), (3, .int 1)]) [2, 3, 1, 0] rfl ?_
  exact LpE_GG (S := (Int32 × Int32 × St)) (F := fun c s => F_X7_countAgreeing_4 K  c p1 s.1 s.2.1 s.2.2) (W := fun s => GG κ 4 [(0, .ref (kad κ 0)), (1, .ref (kad κ p1)), (2, .int s.1), (3, .int s.2.1)] [] s.2.2) (fun c s hcc hp => F_X7_countAgreeing_4_w C hret p1 s.1 s.2.1 hp1 s.2.2  (fun u2 u3 σ h => hcc (u2, u3, σ) h) hp) hp)
def F_X7_acceptBest_46 (K : Int32 → St → Prop) (c46 : (Int32 × St) → Prop) (u2 : Nat) (u3 : Int32) (u4 : Int32) (σ : St) : Prop := ((σ.1 u2 0) < u4 → (K u3 σ)) ∧ (¬ ((σ.1 u2 0) < u4) → P_X4_headAt 0 u4 σ (fun r9 s8 => vp_in u4 7 ∧ ∀ s11 : St, s11 = wI s8 (u2 + 2) (ix u4) r9 → ∀ v12 : Int32, v12 = u4 + 1 → c46 (v12, s11)))
set_option maxHeartbeats 4000000 in
set_option maxRecDepth 100000 in
theorem F_X7_acceptBest_46_w {κ : Kap} {K : Int32 → St → Prop} {c46 : (Int32 × St) → Prop} (C : Ok κ RX7 cX7_acceptBest 5 13) (hret : RetI κ cX7_acceptBest .int K) (u2 : Nat) (u3 : Int32) (u4 : Int32)  (hu2 : sOk u2)   (σ : St) (hc46 : ∀ (u4 : Int32) (σ : St), c46 (u4, σ) → GG κ 46 [(0, .ref (kad κ 0)), (2, .ref (kad κ u2)), (3, .int u3), (4, .int u4)] [] σ) (hp : F_X7_acceptBest_46 K c46 u2 u3 u4 σ) : GG κ 46 [(0, .ref (kad κ 0)), (2, .ref (kad κ u2)), (3, .int u3), (4, .int u4)] [] σ := by
  unfold F_X7_acceptBest_46 at hp
  refine x_iload 3 C rfl (dX7_acceptBest_p0 27 rfl) ?_
  refine x_aload_n 1 C rfl (dX7_acceptBest_p0 28 rfl) ?_
  refine gX0_0 C (s_kd hu2) (s_lt hu2) tw_51 (dX7_acceptBest_p0 29 rfl) ?_
  refine x_icmp_gt (tgt := 78) C (dX7_acceptBest_p0 30 rfl) (by decide) (fun hc => ?_) (fun hc => ?_)
  · have hp := hp.1 hc
    refine x_iload_n 2 C rfl (dX7_acceptBest_p0 42 rfl) ?_
    exact hret _ _ _ _ (dX7_acceptBest_p0 43 rfl) (nar_i _) hp
  · have hp := hp.2 hc
    refine x_aload_n 1 C rfl (dX7_acceptBest_p0 31 rfl) ?_
    refine gX0_2 (b := u2 + 2) C (s_kd hu2) (s_lt hu2) (s_m2 hu2) tw_57 (dX7_acceptBest_p0 32 rfl) ?_
    refine x_iload 3 C rfl (dX7_acceptBest_p0 33 rfl) ?_
    refine x_aload_n 0 C rfl (dX7_acceptBest_p0 34 rfl) ?_
    refine gX7_7 (b := 126) C rfl (by decide) rfl tw_241 (dX7_acceptBest_p0 35 rfl) ?_
    refine x_iconst (v := 0) C (by decide) (dX7_acceptBest_p0 36 rfl) ?_
    refine x_iload 3 C rfl (dX7_acceptBest_p0 37 rfl) ?_
    refine x_cvI (As := [.int 0, .int u4]) (st := [.int u4, .ref (kad κ (u2 + 2))]) C LRX7_140 (ci := 4) rfl rfl (by decide) (by decide) (m_X4_headAt (kL κ) (kad κ) (kD κ) (kca κ) C.ado 0 u4  σ _ hp) rfl (by decide) rfl (Nat.le_of_ble_eq_true rfl) (dX7_acceptBest_p0 38 rfl) (fun r9 s8 hp => ?_)
    obtain ⟨h10, hp⟩ := hp
    refine x_iast C (s_kd2 hu2) (s_lt2 hu2) (vp_ln (s_ln2 hu2) h10) (dX7_acceptBest_p0 39 rfl) ?_
    refine x_nmS (fun s11 es11 => ?_)
    have hp := hp s11 es11
    obtain ⟨v12, ev12⟩ : ∃ z : Int32, z = u4 + 1 := ⟨_, rfl⟩
    have hp := hp v12 ev12
    refine x_iinc (v := v12) (loc' := [(4, .int v12), (0, .ref (kad κ 0)), (2, .ref (kad κ u2)), (3, .int u3)]) 3 C rfl (by rw [ev12]; rfl) (by decide) rfl (dX7_acceptBest_p0 40 rfl) ?_
    refine x_goto (tgt := 46) C (dX7_acceptBest_p0 41 rfl) (by decide) ?_
    refine x_loc (loc' := [(0, .ref (kad κ 0)), (2, .ref (kad κ u2)), (3, .int u3), (4, .int v12)]) [1, 2, 3, 0] rfl ?_
    exact hc46 v12 s11 hp
def P_X7_acceptBest (p1 : Int32) (σ : St) (K : Int32 → St → Prop) : Prop := P_X7_find p1 σ (fun r3 s1 => (r3 = none → (K (-1000001) s1)) ∧ (∀ b2 : Nat, r3 = some b2 → sOk b2 ∧ P_X7_rankTrees b2 1 s1 (fun s4 => ((s4.1 126 9) = 0 → (K (-1000004) s4)) ∧ (¬ ((s4.1 126 9) = 0) → P_X7_countAgreeing b2 s4 (fun r6 s5 => ∀ v7 : Int32, v7 = ((s4.1 b2 0) - r6) → (LpE (fun c s => F_X7_acceptBest_46 K  c b2 v7 s.1 s.2) (1, s5)))))))
set_option maxHeartbeats 4000000 in
set_option maxRecDepth 100000 in
theorem m_X7_acceptBest (l : Launch) (ad : Nat → Nat) (D : va_G) (ca : Nat → ClassId) (had : adOk ad) (p1 : Int32)  (σ : St) (K : Int32 → St → Prop) (hp : P_X7_acceptBest p1 σ K) : CtI l ad D ca yX7_acceptBest cX7_acceptBest 5 .int 13 [.ref (ad 0), .int p1] σ K := CtI_of (av := fun ad => [.ref (ad 0), .int p1]) (plainFor_of_name (by decide)) had (Nat.le_of_ble_eq_true rfl) (fun κ C hret => by
  have C : Ok κ RX7 cX7_acceptBest 5 13 := C
  show GG κ 0 [(0, .ref (kad κ 0)), (1, .int p1)] [] σ
  unfold P_X7_acceptBest at hp
  refine x_aload_n 0 C rfl (dX7_acceptBest_p0 0 rfl) ?_
  refine x_iload_n 1 C rfl (dX7_acceptBest_p0 1 rfl) ?_
  refine x_cvQ (As := [.int p1]) (st := []) C LRX7_101 (ci := 7) rfl rfl (by decide) (by decide) (m_X7_find (kL κ) (kad κ) (kD κ) (kca κ) C.ado p1  σ _ hp) rfl (by decide) rfl (Nat.le_of_ble_eq_true rfl) (dX7_acceptBest_p0 2 rfl) (fun s1 hp => ?_) (fun b2 s1 hp => ?_)
  · have hp := hp.1 rfl
    refine x_astore_nN (loc' := [(2, .null), (0, .ref (kad κ 0)), (1, .int p1)]) C rfl (by decide) rfl (dX7_acceptBest_p0 3 rfl) ?_
    refine x_aload_nN 0 C rfl (dX7_acceptBest_p0 4 rfl) ?_
    refine x_ifnonnullN C (dX7_acceptBest_p0 5 rfl) ?_
    refine x_ldc C tw_326 (dX7_acceptBest_p0 6 rfl) ?_
    exact hret _ _ _ _ (dX7_acceptBest_p0 7 rfl) (nar_i _) hp
  · obtain ⟨hb2, hp⟩ := hp.2 b2 rfl
    refine x_astore_n (loc' := [(2, .ref (kad κ b2)), (0, .ref (kad κ 0)), (1, .int p1)]) C rfl (by decide) rfl (dX7_acceptBest_p0 3 rfl) ?_
    refine x_aload_n 0 C rfl (dX7_acceptBest_p0 4 rfl) ?_
    refine x_ifnonnull (tgt := 13) C (dX7_acceptBest_p0 5 rfl) (by decide) ?_
    refine x_aload_n 1 C rfl (dX7_acceptBest_p0 8 rfl) ?_
    refine x_aload_n 0 C rfl (dX7_acceptBest_p0 9 rfl) ?_
    refine x_iconst (v := 1) C (by decide) (dX7_acceptBest_p0 10 rfl) ?_
    refine x_cvV (As := [.ref (kad κ b2), .int 1]) (st := []) C LRX7_129 (ci := 7) rfl rfl (by decide) (by decide) (m_X7_rankTrees (kL κ) (kad κ) (kD κ) (kca κ) C.ado b2 1 hb2 s1 _ hp) rfl (by decide) rfl (Nat.le_of_ble_eq_true rfl) (dX7_acceptBest_p0 11 rfl) (fun s4 hp => ?_)
    refine x_aload_n 1 C rfl (dX7_acceptBest_p0 12 rfl) ?_
    refine gX7_7 (b := 126) C rfl (by decide) rfl tw_241 (dX7_acceptBest_p0 13 rfl) ?_
    refine gX4_9 C rfl (by decide) tw_133 (dX7_acceptBest_p0 14 rfl) ?_
    refine x_if_ne (tgt := 32) C (dX7_acceptBest_p0 15 rfl) (by decide) (fun hc => ?_) (fun hc => ?_)
    · have hp := hp.2 hc
      refine x_aload_n 0 C rfl (dX7_acceptBest_p0 18 rfl) ?_
      refine gX0_0 C (s_kd hb2) (s_lt hb2) tw_51 (dX7_acceptBest_p0 19 rfl) ?_
      refine x_aload_n 1 C rfl (dX7_acceptBest_p0 20 rfl) ?_
      refine x_aload_n 0 C rfl (dX7_acceptBest_p0 21 rfl) ?_
      refine x_cvI (As := [.ref (kad κ b2)]) (st := [.int (s4.1 b2 0)]) C LRX7_136 (ci := 7) rfl rfl (by decide) (by decide) (m_X7_countAgreeing (kL κ) (kad κ) (kD κ) (kca κ) C.ado b2 hb2 s4 _ hp) rfl (by decide) rfl (Nat.le_of_ble_eq_true rfl) (dX7_acceptBest_p0 22 rfl) (fun r6 s5 hp => ?_)
      refine x_isub C (dX7_acceptBest_p0 23 rfl) ?_
      refine x_topI (fun v7 ev7 => ?_)
      have hp := hp v7 ev7
      refine x_istore_n (loc' := [(3, .int v7), (2, .ref (kad κ b2)), (0, .ref (kad κ 0)), (1, .int p1)]) C rfl (by decide) rfl (dX7_acceptBest_p0 24 rfl) ?_
      refine x_iconst (v := 1) C (by decide) (dX7_acceptBest_p0 25 rfl) ?_
      refine x_istore (loc' := [(4, .int 1), (3, .int v7), (2, .ref (kad κ b2)), (0, .ref (kad κ 0)), (1, .int p1)]) C (by decide) rfl (dX7_acceptBest_p0 26 rfl) ?_
      refine x_loc (loc' := [(0, .ref (kad κ 0)), (2, .ref (kad κ b2)), (3, .int v7), (4, .int 1)]) [3, 2, 1, 0] rfl ?_
      exact LpE_GG (S := (Int32 × St)) (F := fun c s => F_X7_acceptBest_46 K  c b2 v7 s.1 s.2) (W := fun s => GG κ 46 [(0, .ref (kad κ 0)), (2, .ref (kad κ b2)), (3, .int v7), (4, .int s.1)] [] s.2) (fun c s hcc hp => F_X7_acceptBest_46_w C hret b2 v7 s.1 hb2 s.2  (fun u4 σ h => hcc (u4, σ) h) hp) hp
    · have hp := hp.1 hc
      refine x_ldc C tw_299 (dX7_acceptBest_p0 16 rfl) ?_
      exact hret _ _ _ _ (dX7_acceptBest_p0 17 rfl) (nar_i _) hp)
def P_X7_annotate (p1 : Int32) (p2 : Int32) (p3 : Int32) (σ : St) (K : Int32 → St → Prop) : Prop := P_X7_find p1 σ (fun r3 s1 => (r3 = none → (K (-1000001) s1)) ∧ (∀ b2 : Nat, r3 = some b2 → sOk b2 ∧ P_X0_hasArc b2 p3 p2 s1 (fun r5 s4 => (r5 = 0 → (K (-1000001) s4)) ∧ (¬ (r5 = 0) → vp_in p2 7 ∧ (∀ v7 : Int32, v7 = (s4.1 (b2 + 2) (ix p2)) → (vp_in p2 7 ∧ ∀ s9 : St, s9 = wI s4 (b2 + 2) (ix p2) p3 → (P_X7_formTree (b2 + 2) (s9.1 b2 0) s9 (fun r11 s10 => (r11 = 0 → (vp_in p2 7 ∧ ∀ s13 : St, s13 = wI s10 (b2 + 2) (ix p2) v7 → (K (-1000002) s13))) ∧ (¬ (r11 = 0) → (K v7 s10))))))))))
set_option maxHeartbeats 4000000 in
set_option maxRecDepth 100000 in
theorem m_X7_annotate (l : Launch) (ad : Nat → Nat) (D : va_G) (ca : Nat → ClassId) (had : adOk ad) (p1 : Int32) (p2 : Int32) (p3 : Int32)  (σ : St) (K : Int32 → St → Prop) (hp : P_X7_annotate p1 p2 p3 σ K) : CtI l ad D ca yX7_annotate cX7_annotate 6 .int 2 [.ref (ad 0), .int p1, .int p2, .int p3] σ K := CtI_of (av := fun ad => [.ref (ad 0), .int p1, .int p2, .int p3]) (plainFor_of_name (by decide)) had (Nat.le_of_ble_eq_true rfl) (fun κ C hret => by
  have C : Ok κ RX7 cX7_annotate 6 2 := C
  show GG κ 0 [(0, .ref (kad κ 0)), (1, .int p1), (2, .int p2), (3, .int p3)] [] σ
  unfold P_X7_annotate at hp
  refine x_aload_n 0 C rfl (dX7_annotate_p0 0 rfl) ?_
  refine x_iload_n 1 C rfl (dX7_annotate_p0 1 rfl) ?_
  refine x_cvQ (As := [.int p1]) (st := []) C LRX7_101 (ci := 7) rfl rfl (by decide) (by decide) (m_X7_find (kL κ) (kad κ) (kD κ) (kca κ) C.ado p1  σ _ hp) rfl (by decide) rfl (Nat.le_of_ble_eq_true rfl) (dX7_annotate_p0 2 rfl) (fun s1 hp => ?_) (fun b2 s1 hp => ?_)
  · have hp := hp.1 rfl
    refine x_astoreN (loc' := [(4, .null), (0, .ref (kad κ 0)), (1, .int p1), (2, .int p2), (3, .int p3)]) C (by decide) rfl (dX7_annotate_p0 3 rfl) ?_
    refine x_aloadN 0 C rfl (dX7_annotate_p0 4 rfl) ?_
    refine x_ifnullN (tgt := 22) C (dX7_annotate_p0 5 rfl) (by decide) ?_
    refine x_ldc C tw_326 (dX7_annotate_p0 11 rfl) ?_
    exact hret _ _ _ _ (dX7_annotate_p0 12 rfl) (nar_i _) hp
  · obtain ⟨hb2, hp⟩ := hp.2 b2 rfl
    refine x_astore (loc' := [(4, .ref (kad κ b2)), (0, .ref (kad κ 0)), (1, .int p1), (2, .int p2), (3, .int p3)]) C (by decide) rfl (dX7_annotate_p0 3 rfl) ?_
    refine x_aload 0 C rfl (dX7_annotate_p0 4 rfl) ?_
    refine x_ifnull C (dX7_annotate_p0 5 rfl) ?_
    refine x_aload 0 C rfl (dX7_annotate_p0 6 rfl) ?_
    refine x_iload_n 4 C rfl (dX7_annotate_p0 7 rfl) ?_
    refine x_iload_n 3 C rfl (dX7_annotate_p0 8 rfl) ?_
    refine x_cvI (As := [.int p3, .int p2]) (st := []) C LRX7_121 (ci := 0) rfl (s_kd hb2) (by decide) (s_lt hb2) (m_X0_hasArc (kL κ) (kad κ) (kD κ) (kca κ) C.ado b2 p3 p2 hb2 s1 _ hp) rfl (by decide) rfl (Nat.le_of_ble_eq_true rfl) (dX7_annotate_p0 9 rfl) (fun r5 s4 hp => ?_)
    refine x_if_ne (tgt := 25) C (dX7_annotate_p0 10 rfl) (by decide) (fun hc => ?_) (fun hc => ?_)
    · have hp := hp.2 hc
      refine x_aload 0 C rfl (dX7_annotate_p0 13 rfl) ?_
      refine gX0_2 (b := b2 + 2) C (s_kd hb2) (s_lt hb2) (s_m2 hb2) tw_57 (dX7_annotate_p0 14 rfl) ?_
      refine x_iload_n 3 C rfl (dX7_annotate_p0 15 rfl) ?_
      obtain ⟨h6, hp⟩ := hp
      refine x_iald C (s_kd2 hb2) (s_lt2 hb2) (vp_ln (s_ln2 hb2) h6) (dX7_annotate_p0 16 rfl) ?_
      refine x_topI (fun v7 ev7 => ?_)
      have hp := hp v7 ev7
      refine x_istore (loc' := [(5, .int v7), (4, .ref (kad κ b2)), (0, .ref (kad κ 0)), (1, .int p1), (2, .int p2), (3, .int p3)]) C (by decide) rfl (dX7_annotate_p0 17 rfl) ?_
      refine x_aload 1 C rfl (dX7_annotate_p0 18 rfl) ?_
      refine gX0_2 (b := b2 + 2) C (s_kd hb2) (s_lt hb2) (s_m2 hb2) tw_57 (dX7_annotate_p0 19 rfl) ?_
      refine x_iload_n 4 C rfl (dX7_annotate_p0 20 rfl) ?_
      refine x_iload_n 5 C rfl (dX7_annotate_p0 21 rfl) ?_
      obtain ⟨h8, hp⟩ := hp
      refine x_iast C (s_kd2 hb2) (s_lt2 hb2) (vp_ln (s_ln2 hb2) h8) (dX7_annotate_p0 22 rfl) ?_
      refine x_nmS (fun s9 es9 => ?_)
      have hp := hp s9 es9
      refine x_aload 1 C rfl (dX7_annotate_p0 23 rfl) ?_
      refine gX0_2 (b := b2 + 2) C (s_kd hb2) (s_lt hb2) (s_m2 hb2) tw_57 (dX7_annotate_p0 24 rfl) ?_
      refine x_aload 1 C rfl (dX7_annotate_p0 25 rfl) ?_
      refine gX0_0 C (s_kd hb2) (s_lt hb2) tw_51 (dX7_annotate_p0 26 rfl) ?_
      refine x_csI (As := [.ref (kad κ (b2 + 2)), .int (s9.1 b2 0)]) (st := []) C LRX7_125 (m_X7_formTree (kL κ) (kad κ) (kD κ) (kca κ) C.ado (b2 + 2) (s9.1 b2 0) (s_kd2 hb2) (s_lt2 hb2) s9 _ hp) rfl (by decide) rfl (Nat.le_of_ble_eq_true rfl) (dX7_annotate_p0 27 rfl) (fun r11 s10 hp => ?_)
      refine x_if_ne (tgt := 70) C (dX7_annotate_p0 28 rfl) (by decide) (fun hc => ?_) (fun hc => ?_)
      · have hp := hp.2 hc
        refine x_iload 0 C rfl (dX7_annotate_p0 36 rfl) ?_
        exact hret _ _ _ _ (dX7_annotate_p0 37 rfl) (nar_i _) hp
      · have hp := hp.1 hc
        refine x_aload 1 C rfl (dX7_annotate_p0 29 rfl) ?_
        refine gX0_2 (b := b2 + 2) C (s_kd hb2) (s_lt hb2) (s_m2 hb2) tw_57 (dX7_annotate_p0 30 rfl) ?_
        refine x_iload_n 4 C rfl (dX7_annotate_p0 31 rfl) ?_
        refine x_iload 0 C rfl (dX7_annotate_p0 32 rfl) ?_
        obtain ⟨h12, hp⟩ := hp
        refine x_iast C (s_kd2 hb2) (s_lt2 hb2) (vp_ln (s_ln2 hb2) h12) (dX7_annotate_p0 33 rfl) ?_
        refine x_nmS (fun s13 es13 => ?_)
        have hp := hp s13 es13
        refine x_ldc C tw_269 (dX7_annotate_p0 34 rfl) ?_
        exact hret _ _ _ _ (dX7_annotate_p0 35 rfl) (nar_i _) hp
    · have hp := hp.1 hc
      refine x_ldc C tw_326 (dX7_annotate_p0 11 rfl) ?_
      exact hret _ _ _ _ (dX7_annotate_p0 12 rfl) (nar_i _) hp)
def P_X7_annotatedHead (p1 : Int32) (p2 : Int32) (σ : St) (K : Int32 → St → Prop) : Prop := P_X7_find p1 σ (fun r3 s1 => (r3 = none → (K (-1000001) s1)) ∧ (∀ b2 : Nat, r3 = some b2 → sOk b2 ∧ P_X0_hasWord b2 p2 s1 (fun r5 s4 => (r5 = 0 → (K (-1000001) s4)) ∧ (¬ (r5 = 0) → vp_in p2 7 ∧ (K (s4.1 (b2 + 2) (ix p2)) s4)))))
set_option maxHeartbeats 4000000 in
set_option maxRecDepth 100000 in
theorem m_X7_annotatedHead (l : Launch) (ad : Nat → Nat) (D : va_G) (ca : Nat → ClassId) (had : adOk ad) (p1 : Int32) (p2 : Int32)  (σ : St) (K : Int32 → St → Prop) (hp : P_X7_annotatedHead p1 p2 σ K) : CtI l ad D ca yX7_annotatedHead cX7_annotatedHead 4 .int 1 [.ref (ad 0), .int p1, .int p2] σ K := CtI_of (av := fun ad => [.ref (ad 0), .int p1, .int p2]) (plainFor_of_name (by decide)) had (Nat.le_of_ble_eq_true rfl) (fun κ C hret => by
  have C : Ok κ RX7 cX7_annotatedHead 4 1 := C
  show GG κ 0 [(0, .ref (kad κ 0)), (1, .int p1), (2, .int p2)] [] σ
  unfold P_X7_annotatedHead at hp
  refine x_aload_n 0 C rfl (dX7_annotatedHead_p0 0 rfl) ?_
  refine x_iload_n 1 C rfl (dX7_annotatedHead_p0 1 rfl) ?_
  refine x_cvQ (As := [.int p1]) (st := []) C LRX7_101 (ci := 7) rfl rfl (by decide) (by decide) (m_X7_find (kL κ) (kad κ) (kD κ) (kca κ) C.ado p1  σ _ hp) rfl (by decide) rfl (Nat.le_of_ble_eq_true rfl) (dX7_annotatedHead_p0 2 rfl) (fun s1 hp => ?_) (fun b2 s1 hp => ?_)
  · have hp := hp.1 rfl
    refine x_astore_nN (loc' := [(3, .null), (0, .ref (kad κ 0)), (1, .int p1), (2, .int p2)]) C rfl (by decide) rfl (dX7_annotatedHead_p0 3 rfl) ?_
    refine x_aload_nN 0 C rfl (dX7_annotatedHead_p0 4 rfl) ?_
    refine x_ifnullN (tgt := 18) C (dX7_annotatedHead_p0 5 rfl) (by decide) ?_
    refine x_ldc C tw_326 (dX7_annotatedHead_p0 10 rfl) ?_
    refine x_goto (tgt := 29) C (dX7_annotatedHead_p0 11 rfl) (by decide) ?_
    exact hret _ _ _ _ (dX7_annotatedHead_p0 16 rfl) (nar_i _) hp
  · obtain ⟨hb2, hp⟩ := hp.2 b2 rfl
    refine x_astore_n (loc' := [(3, .ref (kad κ b2)), (0, .ref (kad κ 0)), (1, .int p1), (2, .int p2)]) C rfl (by decide) rfl (dX7_annotatedHead_p0 3 rfl) ?_
    refine x_aload_n 0 C rfl (dX7_annotatedHead_p0 4 rfl) ?_
    refine x_ifnull C (dX7_annotatedHead_p0 5 rfl) ?_
    refine x_aload_n 0 C rfl (dX7_annotatedHead_p0 6 rfl) ?_
    refine x_iload_n 3 C rfl (dX7_annotatedHead_p0 7 rfl) ?_
    refine x_cvI (As := [.int p2]) (st := []) C LRX7_112 (ci := 0) rfl (s_kd hb2) (by decide) (s_lt hb2) (m_X0_hasWord (kL κ) (kad κ) (kD κ) (kca κ) C.ado b2 p2 hb2 s1 _ hp) rfl (by decide) rfl (Nat.le_of_ble_eq_true rfl) (dX7_annotatedHead_p0 8 rfl) (fun r5 s4 hp => ?_)
    refine x_if_ne (tgt := 23) C (dX7_annotatedHead_p0 9 rfl) (by decide) (fun hc => ?_) (fun hc => ?_)
    · have hp := hp.2 hc
      refine x_aload_n 0 C rfl (dX7_annotatedHead_p0 12 rfl) ?_
      refine gX0_2 (b := b2 + 2) C (s_kd hb2) (s_lt hb2) (s_m2 hb2) tw_57 (dX7_annotatedHead_p0 13 rfl) ?_
      refine x_iload_n 3 C rfl (dX7_annotatedHead_p0 14 rfl) ?_
      obtain ⟨h6, hp⟩ := hp
      refine x_iald C (s_kd2 hb2) (s_lt2 hb2) (vp_ln (s_ln2 hb2) h6) (dX7_annotatedHead_p0 15 rfl) ?_
      exact hret _ _ _ _ (dX7_annotatedHead_p0 16 rfl) (nar_i _) hp
    · have hp := hp.1 hc
      refine x_ldc C tw_326 (dX7_annotatedHead_p0 10 rfl) ?_
      refine x_goto (tgt := 29) C (dX7_annotatedHead_p0 11 rfl) (by decide) ?_
      exact hret _ _ _ _ (dX7_annotatedHead_p0 16 rfl) (nar_i _) hp)
