def F_X8_checksum_223 (K : Int64 → St → Prop) (c223 : (Int64 × Int32 × St) → Prop) (u1 : Int64) (u3 : Int32) (σ : St) : Prop := (84 ≤ u3 → (K u1 σ)) ∧ (¬ (84 ≤ u3) → vp_in u3 84 ∧ (∀ v3 : Int64, v3 = ((31 * u1) + (Int32.toInt64 (σ.1 211 (ix u3)))) → ∀ v4 : Int32, v4 = u3 + 1 → c223 (v3, v4, σ)))
set_option maxHeartbeats 4000000 in
set_option maxRecDepth 100000 in
theorem F_X8_checksum_223_w {κ : Kap} {K : Int64 → St → Prop} {c223 : (Int64 × Int32 × St) → Prop} (C : Ok κ RX8 cX8_checksum 5 6) (hret : RetL κ cX8_checksum K) (u1 : Int64) (u3 : Int32)    (σ : St) (hc223 : ∀ (u1 : Int64) (u3 : Int32) (σ : St), c223 (u1, u3, σ) → GG κ 223 [(0, .ref (kad κ 204)), (1, .long u1), (3, .int u3)] [] σ) (hp : F_X8_checksum_223 K c223 u1 u3 σ) : GG κ 223 [(0, .ref (kad κ 204)), (1, .long u1), (3, .int u3)] [] σ := by
  unfold F_X8_checksum_223 at hp
  refine x_iload_n 2 C rfl (dX8_checksum_p2 7 rfl) ?_
  refine x_bipush (v := 84) C (by decide) (dX8_checksum_p2 8 rfl) ?_
  refine x_icmp_ge (tgt := 249) C (dX8_checksum_p2 9 rfl) (by decide) (fun hc => ?_) (fun hc => ?_)
  · have hp := hp.1 hc
    refine x_lload_n 1 C rfl (dX8_checksum_p2 22 rfl) ?_
    exact hret _ _ _ _ (dX8_checksum_p2 23 rfl) hp
  · have hp := hp.2 hc
    refine x_ldc2 C tw_1196 (dX8_checksum_p2 10 rfl) ?_
    refine x_lload_n 1 C rfl (dX8_checksum_p2 11 rfl) ?_
    refine x_lmul C (dX8_checksum_p2 12 rfl) ?_
    refine x_aload_n 0 C rfl (dX8_checksum_p2 13 rfl) ?_
    refine gX8_8 (b := 211) C rfl (by decide) rfl tw_756 (dX8_checksum_p2 14 rfl) ?_
    refine x_iload_n 2 C rfl (dX8_checksum_p2 15 rfl) ?_
    obtain ⟨h2, hp⟩ := hp
    refine x_iald C rfl (by decide) h2 (dX8_checksum_p2 16 rfl) ?_
    refine x_i2l C (dX8_checksum_p2 17 rfl) ?_
    refine x_ladd C (dX8_checksum_p2 18 rfl) ?_
    refine x_topL (fun v3 ev3 => ?_)
    have hp := hp v3 ev3
    refine x_lstore_n (loc' := [(1, .long v3), (0, .ref (kad κ 204)), (3, .int u3)]) C rfl (by decide) rfl (dX8_checksum_p2 19 rfl) ?_
    obtain ⟨v4, ev4⟩ : ∃ z : Int32, z = u3 + 1 := ⟨_, rfl⟩
    have hp := hp v4 ev4
    refine x_iinc (v := v4) (loc' := [(3, .int v4), (1, .long v3), (0, .ref (kad κ 204))]) 2 C rfl (by rw [ev4]; rfl) (by decide) rfl (dX8_checksum_p2 20 rfl) ?_
    refine x_goto (tgt := 223) C (dX8_checksum_p2 21 rfl) (by decide) ?_
    refine x_loc (loc' := [(0, .ref (kad κ 204)), (1, .long v3), (3, .int v4)]) [2, 1, 0] rfl ?_
    exact hc223 v3 v4 σ hp
def J_X8_checksum_147 (K : Int64 → St → Prop) (c12 : (Int64 × Int32 × St) → Prop) (u3 : Int32) (t0 : Int64) (t1 : Int32) (σ : St) : Prop := ∀ v9 : Int64, v9 = (t0 + (Int32.toInt64 t1)) → (∀ v10 : Int64, v10 = ((31 * v9) + (Int32.toInt64 (σ.1 204 24))) → (∀ v11 : Int64, v11 = ((31 * v10) + (σ.2.1 204 25)) → vp_in u3 4 ∧ (P_X8_crossed 208 (7 * u3) (σ.1 206 (ix u3)) σ (fun r14 s13 => ∀ v15 : Int64, v15 = ((31 * v11) + (Int32.toInt64 r14)) → P_X8_moves u3 s13 (fun s16 => ∀ v17 : Int64, v17 = ((31 * v15) + (Int32.toInt64 (s16.1 204 33))) → ∀ v18 : Int32, v18 = u3 + 1 → c12 (v17, v18, s16))))))
set_option maxHeartbeats 4000000 in
set_option maxRecDepth 100000 in
theorem J_X8_checksum_147_w {κ : Kap} {K : Int64 → St → Prop} {c12 : (Int64 × Int32 × St) → Prop} (C : Ok κ RX8 cX8_checksum 5 6) (hret : RetL κ cX8_checksum K) (u3 : Int32) (t0 : Int64) (t1 : Int32)     (σ : St) (hc12 : ∀ (u1 : Int64) (u3 : Int32) (σ : St), c12 (u1, u3, σ) → GG κ 12 [(0, .ref (kad κ 204)), (1, .long u1), (3, .int u3)] [] σ) (hp : J_X8_checksum_147 K c12 u3 t0 t1 σ) : GG κ 147 [(0, .ref (kad κ 204)), (3, .int u3)] [.int t1, .long t0] σ := by
  unfold J_X8_checksum_147 at hp
  refine x_i2l C (dX8_checksum_p1 22 rfl) ?_
  refine x_ladd C (dX8_checksum_p1 23 rfl) ?_
  refine x_topL (fun v9 ev9 => ?_)
  have hp := hp v9 ev9
  refine x_lstore_n (loc' := [(1, .long v9), (0, .ref (kad κ 204)), (3, .int u3)]) C rfl (by decide) rfl (dX8_checksum_p1 24 rfl) ?_
  refine x_ldc2 C tw_1196 (dX8_checksum_p1 25 rfl) ?_
  refine x_lload_n 0 C rfl (dX8_checksum_p1 26 rfl) ?_
  refine x_lmul C (dX8_checksum_p1 27 rfl) ?_
  refine x_aload_n 1 C rfl (dX8_checksum_p1 28 rfl) ?_
  refine gX8_24 C rfl (by decide) tw_772 (dX8_checksum_p1 29 rfl) ?_
  refine x_i2l C (dX8_checksum_p1 30 rfl) ?_
  refine x_ladd C (dX8_checksum_p1 31 rfl) ?_
  refine x_topL (fun v10 ev10 => ?_)
  have hp := hp v10 ev10
  refine x_lstore_n (loc' := [(1, .long v10), (0, .ref (kad κ 204)), (3, .int u3)]) C rfl (by decide) rfl (dX8_checksum_p1 32 rfl) ?_
  refine x_ldc2 C tw_1196 (dX8_checksum_p1 33 rfl) ?_
  refine x_lload_n 0 C rfl (dX8_checksum_p1 34 rfl) ?_
  refine x_lmul C (dX8_checksum_p1 35 rfl) ?_
  refine x_aload_n 1 C rfl (dX8_checksum_p1 36 rfl) ?_
  refine gX8_25 C rfl (by decide) tw_773 (dX8_checksum_p1 37 rfl) ?_
  refine x_ladd C (dX8_checksum_p1 38 rfl) ?_
  refine x_topL (fun v11 ev11 => ?_)
  have hp := hp v11 ev11
  refine x_lstore_n (loc' := [(1, .long v11), (0, .ref (kad κ 204)), (3, .int u3)]) C rfl (by decide) rfl (dX8_checksum_p1 39 rfl) ?_
  refine x_ldc2 C tw_1196 (dX8_checksum_p1 40 rfl) ?_
  refine x_lload_n 0 C rfl (dX8_checksum_p1 41 rfl) ?_
  refine x_lmul C (dX8_checksum_p1 42 rfl) ?_
  refine x_aload_n 1 C rfl (dX8_checksum_p1 43 rfl) ?_
  refine gX8_5 (b := 208) C rfl (by decide) rfl tw_753 (dX8_checksum_p1 44 rfl) ?_
  refine x_bipush (v := 7) C (by decide) (dX8_checksum_p1 45 rfl) ?_
  refine x_iload_n 2 C rfl (dX8_checksum_p1 46 rfl) ?_
  refine x_imul C (dX8_checksum_p1 47 rfl) ?_
  refine x_aload_n 1 C rfl (dX8_checksum_p1 48 rfl) ?_
  refine gX8_3 (b := 206) C rfl (by decide) rfl tw_751 (dX8_checksum_p1 49 rfl) ?_
  refine x_iload_n 2 C rfl (dX8_checksum_p1 50 rfl) ?_
  obtain ⟨h12, hp⟩ := hp
  refine x_iald C rfl (by decide) h12 (dX8_checksum_p1 51 rfl) ?_
  refine x_csI (As := [.ref (kad κ 208), .int (7 * u3), .int (σ.1 206 (ix u3))]) (st := [.long (31 * v11)]) C LRX8_193 (m_X8_crossed (kL κ) (kad κ) (kD κ) (kca κ) C.ado 208 (7 * u3) (σ.1 206 (ix u3)) rfl (by decide) σ _ hp) rfl (by decide) rfl (Nat.le_of_ble_eq_true rfl) (dX8_checksum_p1 52 rfl) (fun r14 s13 hp => ?_)
  refine x_i2l C (dX8_checksum_p1 53 rfl) ?_
  refine x_ladd C (dX8_checksum_p1 54 rfl) ?_
  refine x_topL (fun v15 ev15 => ?_)
  have hp := hp v15 ev15
  refine x_lstore_n (loc' := [(1, .long v15), (0, .ref (kad κ 204)), (3, .int u3)]) C rfl (by decide) rfl (dX8_checksum_p1 55 rfl) ?_
  refine x_aload_n 1 C rfl (dX8_checksum_p1 56 rfl) ?_
  refine x_iload_n 2 C rfl (dX8_checksum_p1 57 rfl) ?_
  refine x_cvV (As := [.int u3]) (st := []) C LRX8_267 (ci := 8) rfl rfl (by decide) (by decide) (m_X8_moves (kL κ) (kad κ) (kD κ) (kca κ) C.ado u3  s13 _ hp) rfl (by decide) rfl (Nat.le_of_ble_eq_true rfl) (dX8_checksum_p1 58 rfl) (fun s16 hp => ?_)
  refine x_ldc2 C tw_1196 (dX8_checksum_p1 59 rfl) ?_
  refine x_lload_n 0 C rfl (dX8_checksum_p1 60 rfl) ?_
  refine x_lmul C (dX8_checksum_p1 61 rfl) ?_
  refine x_aload_n 1 C rfl (dX8_checksum_p1 62 rfl) ?_
  refine gX8_33 C rfl (by decide) tw_781 (dX8_checksum_p1 63 rfl) ?_
  refine x_i2l C (dX8_checksum_p2 0 rfl) ?_
  refine x_ladd C (dX8_checksum_p2 1 rfl) ?_
  refine x_topL (fun v17 ev17 => ?_)
  have hp := hp v17 ev17
  refine x_lstore_n (loc' := [(1, .long v17), (0, .ref (kad κ 204)), (3, .int u3)]) C rfl (by decide) rfl (dX8_checksum_p2 2 rfl) ?_
  obtain ⟨v18, ev18⟩ : ∃ z : Int32, z = u3 + 1 := ⟨_, rfl⟩
  have hp := hp v18 ev18
  refine x_iinc (v := v18) (loc' := [(3, .int v18), (1, .long v17), (0, .ref (kad κ 204))]) 2 C rfl (by rw [ev18]; rfl) (by decide) rfl (dX8_checksum_p2 3 rfl) ?_
  refine x_goto (tgt := 12) C (dX8_checksum_p2 4 rfl) (by decide) ?_
  refine x_loc (loc' := [(0, .ref (kad κ 204)), (1, .long v17), (3, .int v18)]) [2, 1, 0] rfl ?_
  exact hc12 v17 v18 s16 hp
def F_X8_checksum_42 (K : Int64 → St → Prop) (c12 : (Int64 × Int32 × St) → Prop) (c42 : (Int64 × Int32 × St) → Prop) (u1 : Int64) (u3 : Int32) (u4 : Int32) (σ : St) : Prop := vp_in u3 4 ∧ (((σ.1 206 (ix u3)) < u4 → (((σ.1 204 21) ≤ 0 → (J_X8_checksum_147 K c12 u3 (31 * u1) (-1000004) σ)) ∧ (¬ ((σ.1 204 21) ≤ 0) → (J_X8_checksum_147 K c12 u3 (31 * u1) (σ.1 220 (ix 0)) σ)))) ∧ (¬ ((σ.1 206 (ix u3)) < u4) → P_X8_word u3 u4 σ (fun r20 s19 => vp_in r20 28 ∧ (∀ v22 : Int64, v22 = ((31 * u1) + (Int32.toInt64 (s19.1 207 (ix r20)))) → P_X8_word u3 u4 s19 (fun r24 s23 => vp_in r24 28 ∧ (∀ v26 : Int64, v26 = ((31 * v22) + (Int32.toInt64 (s23.1 208 (ix r24)))) → (((s23.1 204 21) ≤ 0 → (∀ v27 : Int64, v27 = ((31 * v26) + (Int32.toInt64 (-1000004))) → ∀ v28 : Int32, v28 = u4 + 1 → c42 (v27, v28, s23))) ∧ (¬ ((s23.1 204 21) ≤ 0) → vp_in u4 49 ∧ (∀ v30 : Int64, v30 = ((31 * v26) + (Int32.toInt64 (s23.1 221 (ix u4)))) → ∀ v31 : Int32, v31 = u4 + 1 → c42 (v30, v31, s23))))))))))
set_option maxHeartbeats 4000000 in
set_option maxRecDepth 100000 in
theorem F_X8_checksum_42_w {κ : Kap} {K : Int64 → St → Prop} {c12 : (Int64 × Int32 × St) → Prop} {c42 : (Int64 × Int32 × St) → Prop} (C : Ok κ RX8 cX8_checksum 5 6) (hret : RetL κ cX8_checksum K) (u1 : Int64) (u3 : Int32) (u4 : Int32)     (σ : St) (hc12 : ∀ (u1 : Int64) (u3 : Int32) (σ : St), c12 (u1, u3, σ) → GG κ 12 [(0, .ref (kad κ 204)), (1, .long u1), (3, .int u3)] [] σ) (hc42 : ∀ (u1 : Int64) (u4 : Int32) (σ : St), c42 (u1, u4, σ) → GG κ 42 [(0, .ref (kad κ 204)), (1, .long u1), (3, .int u3), (4, .int u4)] [] σ) (hp : F_X8_checksum_42 K c12 c42 u1 u3 u4 σ) : GG κ 42 [(0, .ref (kad κ 204)), (1, .long u1), (3, .int u3), (4, .int u4)] [] σ := by
  unfold F_X8_checksum_42 at hp
  refine x_iload 3 C rfl (dX8_checksum_p0 27 rfl) ?_
  refine x_aload_n 0 C rfl (dX8_checksum_p0 28 rfl) ?_
  refine gX8_3 (b := 206) C rfl (by decide) rfl tw_751 (dX8_checksum_p0 29 rfl) ?_
  refine x_iload_n 2 C rfl (dX8_checksum_p0 30 rfl) ?_
  obtain ⟨h8, hp⟩ := hp
  refine x_iald C rfl (by decide) h8 (dX8_checksum_p0 31 rfl) ?_
  refine x_icmp_gt (tgt := 124) C (dX8_checksum_p0 32 rfl) (by decide) (fun hc => ?_) (fun hc => ?_)
  · have hp := hp.1 hc
    refine x_ldc2 C tw_1196 (dX8_checksum_p1 10 rfl) ?_
    refine x_lload_n 1 C rfl (dX8_checksum_p1 11 rfl) ?_
    refine x_lmul C (dX8_checksum_p1 12 rfl) ?_
    refine x_aload_n 0 C rfl (dX8_checksum_p1 13 rfl) ?_
    refine gX8_21 C rfl (by decide) tw_769 (dX8_checksum_p1 14 rfl) ?_
    refine x_if_le (tgt := 145) C (dX8_checksum_p1 15 rfl) (by decide) (fun hc => ?_) (fun hc => ?_)
    · have hp := hp.1 hc
      refine x_ldc C tw_893 (dX8_checksum_p1 21 rfl) ?_
      refine x_loc (loc' := [(0, .ref (kad κ 204)), (3, .int u3)]) [0, 2] rfl ?_
      exact J_X8_checksum_147_w C hret u3 (31 * u1) (-1000004)  σ hc12 hp
    · have hp := hp.2 hc
      refine x_aload_n 0 C rfl (dX8_checksum_p1 16 rfl) ?_
      refine gX8_22 (b := 220) C rfl (by decide) rfl tw_770 (dX8_checksum_p1 17 rfl) ?_
      refine x_iconst (v := 0) C (by decide) (dX8_checksum_p1 18 rfl) ?_
      refine x_iald C rfl (by decide) (vp_lit (by decide) (by decide)) (dX8_checksum_p1 19 rfl) ?_
      refine x_goto (tgt := 147) C (dX8_checksum_p1 20 rfl) (by decide) ?_
      refine x_loc (loc' := [(0, .ref (kad κ 204)), (3, .int u3)]) [0, 2] rfl ?_
      exact J_X8_checksum_147_w C hret u3 (31 * u1) (σ.1 220 (ix 0))  σ hc12 hp
  · have hp := hp.2 hc
    refine x_ldc2 C tw_1196 (dX8_checksum_p0 33 rfl) ?_
    refine x_lload_n 1 C rfl (dX8_checksum_p0 34 rfl) ?_
    refine x_lmul C (dX8_checksum_p0 35 rfl) ?_
    refine x_aload_n 0 C rfl (dX8_checksum_p0 36 rfl) ?_
    refine gX8_4 (b := 207) C rfl (by decide) rfl tw_752 (dX8_checksum_p0 37 rfl) ?_
    refine x_iload_n 2 C rfl (dX8_checksum_p0 38 rfl) ?_
    refine x_iload 3 C rfl (dX8_checksum_p0 39 rfl) ?_
    refine x_csI (As := [.int u3, .int u4]) (st := [.ref (kad κ 207), .long (31 * u1)]) C LRX8_124 (m_X8_word (kL κ) (kad κ) (kD κ) (kca κ) C.ado u3 u4  σ _ hp) rfl (by decide) rfl (Nat.le_of_ble_eq_true rfl) (dX8_checksum_p0 40 rfl) (fun r20 s19 hp => ?_)
    obtain ⟨h21, hp⟩ := hp
    refine x_iald C rfl (by decide) h21 (dX8_checksum_p0 41 rfl) ?_
    refine x_i2l C (dX8_checksum_p0 42 rfl) ?_
    refine x_ladd C (dX8_checksum_p0 43 rfl) ?_
    refine x_topL (fun v22 ev22 => ?_)
    have hp := hp v22 ev22
    refine x_lstore_n (loc' := [(1, .long v22), (0, .ref (kad κ 204)), (3, .int u3), (4, .int u4)]) C rfl (by decide) rfl (dX8_checksum_p0 44 rfl) ?_
    refine x_ldc2 C tw_1196 (dX8_checksum_p0 45 rfl) ?_
    refine x_lload_n 0 C rfl (dX8_checksum_p0 46 rfl) ?_
    refine x_lmul C (dX8_checksum_p0 47 rfl) ?_
    refine x_aload_n 1 C rfl (dX8_checksum_p0 48 rfl) ?_
    refine gX8_5 (b := 208) C rfl (by decide) rfl tw_753 (dX8_checksum_p0 49 rfl) ?_
    refine x_iload_n 2 C rfl (dX8_checksum_p0 50 rfl) ?_
    refine x_iload 3 C rfl (dX8_checksum_p0 51 rfl) ?_
    refine x_csI (As := [.int u3, .int u4]) (st := [.ref (kad κ 208), .long (31 * v22)]) C LRX8_124 (m_X8_word (kL κ) (kad κ) (kD κ) (kca κ) C.ado u3 u4  s19 _ hp) rfl (by decide) rfl (Nat.le_of_ble_eq_true rfl) (dX8_checksum_p0 52 rfl) (fun r24 s23 hp => ?_)
    obtain ⟨h25, hp⟩ := hp
    refine x_iald C rfl (by decide) h25 (dX8_checksum_p0 53 rfl) ?_
    refine x_i2l C (dX8_checksum_p0 54 rfl) ?_
    refine x_ladd C (dX8_checksum_p0 55 rfl) ?_
    refine x_topL (fun v26 ev26 => ?_)
    have hp := hp v26 ev26
    refine x_lstore_n (loc' := [(1, .long v26), (0, .ref (kad κ 204)), (3, .int u3), (4, .int u4)]) C rfl (by decide) rfl (dX8_checksum_p0 56 rfl) ?_
    refine x_ldc2 C tw_1196 (dX8_checksum_p0 57 rfl) ?_
    refine x_lload_n 0 C rfl (dX8_checksum_p0 58 rfl) ?_
    refine x_lmul C (dX8_checksum_p0 59 rfl) ?_
    refine x_aload_n 1 C rfl (dX8_checksum_p0 60 rfl) ?_
    refine gX8_21 C rfl (by decide) tw_769 (dX8_checksum_p0 61 rfl) ?_
    refine x_if_le (tgt := 113) C (dX8_checksum_p0 62 rfl) (by decide) (fun hc => ?_) (fun hc => ?_)
    · have hp := hp.1 hc
      refine x_ldc C tw_893 (dX8_checksum_p1 4 rfl) ?_
      refine x_i2l C (dX8_checksum_p1 5 rfl) ?_
      refine x_ladd C (dX8_checksum_p1 6 rfl) ?_
      refine x_topL (fun v27 ev27 => ?_)
      have hp := hp v27 ev27
      refine x_lstore_n (loc' := [(1, .long v27), (0, .ref (kad κ 204)), (3, .int u3), (4, .int u4)]) C rfl (by decide) rfl (dX8_checksum_p1 7 rfl) ?_
      obtain ⟨v28, ev28⟩ : ∃ z : Int32, z = u4 + 1 := ⟨_, rfl⟩
      have hp := hp v28 ev28
      refine x_iinc (v := v28) (loc' := [(4, .int v28), (1, .long v27), (0, .ref (kad κ 204)), (3, .int u3)]) 3 C rfl (by rw [ev28]; rfl) (by decide) rfl (dX8_checksum_p1 8 rfl) ?_
      refine x_goto (tgt := 42) C (dX8_checksum_p1 9 rfl) (by decide) ?_
      refine x_loc (loc' := [(0, .ref (kad κ 204)), (1, .long v27), (3, .int u3), (4, .int v28)]) [2, 1, 3, 0] rfl ?_
      exact hc42 v27 v28 s23 hp
    · have hp := hp.2 hc
      refine x_aload_n 1 C rfl (dX8_checksum_p0 63 rfl) ?_
      refine gX8_23 (b := 221) C rfl (by decide) rfl tw_771 (dX8_checksum_p1 0 rfl) ?_
      refine x_iload 3 C rfl (dX8_checksum_p1 1 rfl) ?_
      obtain ⟨h29, hp⟩ := hp
      refine x_iald C rfl (by decide) h29 (dX8_checksum_p1 2 rfl) ?_
      refine x_goto (tgt := 115) C (dX8_checksum_p1 3 rfl) (by decide) ?_
      refine x_i2l C (dX8_checksum_p1 5 rfl) ?_
      refine x_ladd C (dX8_checksum_p1 6 rfl) ?_
      refine x_topL (fun v30 ev30 => ?_)
      have hp := hp v30 ev30
      refine x_lstore_n (loc' := [(1, .long v30), (0, .ref (kad κ 204)), (3, .int u3), (4, .int u4)]) C rfl (by decide) rfl (dX8_checksum_p1 7 rfl) ?_
      obtain ⟨v31, ev31⟩ : ∃ z : Int32, z = u4 + 1 := ⟨_, rfl⟩
      have hp := hp v31 ev31
      refine x_iinc (v := v31) (loc' := [(4, .int v31), (1, .long v30), (0, .ref (kad κ 204)), (3, .int u3)]) 3 C rfl (by rw [ev31]; rfl) (by decide) rfl (dX8_checksum_p1 8 rfl) ?_
      refine x_goto (tgt := 42) C (dX8_checksum_p1 9 rfl) (by decide) ?_
      refine x_loc (loc' := [(0, .ref (kad κ 204)), (1, .long v30), (3, .int u3), (4, .int v31)]) [2, 1, 3, 0] rfl ?_
      exact hc42 v30 v31 s23 hp
def F_X8_checksum_12 (K : Int64 → St → Prop) (c12 : (Int64 × Int32 × St) → Prop) (u1 : Int64) (u3 : Int32) (σ : St) : Prop := ((σ.1 204 2) ≤ u3 → (LpE (fun c s => F_X8_checksum_223 K  c s.1 s.2.1 s.2.2) (u1, 0, σ))) ∧ (¬ ((σ.1 204 2) ≤ u3) → P_X8_looks u3 σ (fun s5 => vp_in u3 4 ∧ (∀ v7 : Int64, v7 = ((31 * u1) + (Int32.toInt64 (s5.1 206 (ix u3)))) → (LpE (fun c s => F_X8_checksum_42 K c12 c s.1 u3 s.2.1 s.2.2) (v7, 1, s5)))))
set_option maxHeartbeats 4000000 in
set_option maxRecDepth 100000 in
theorem F_X8_checksum_12_w {κ : Kap} {K : Int64 → St → Prop} {c12 : (Int64 × Int32 × St) → Prop} (C : Ok κ RX8 cX8_checksum 5 6) (hret : RetL κ cX8_checksum K) (u1 : Int64) (u3 : Int32)    (σ : St) (hc12 : ∀ (u1 : Int64) (u3 : Int32) (σ : St), c12 (u1, u3, σ) → GG κ 12 [(0, .ref (kad κ 204)), (1, .long u1), (3, .int u3)] [] σ) (hp : F_X8_checksum_12 K c12 u1 u3 σ) : GG κ 12 [(0, .ref (kad κ 204)), (1, .long u1), (3, .int u3)] [] σ := by
  unfold F_X8_checksum_12 at hp
  refine x_iload_n 2 C rfl (dX8_checksum_p0 8 rfl) ?_
  refine x_aload_n 0 C rfl (dX8_checksum_p0 9 rfl) ?_
  refine gX8_2 C rfl (by decide) tw_750 (dX8_checksum_p0 10 rfl) ?_
  refine x_icmp_ge (tgt := 221) C (dX8_checksum_p0 11 rfl) (by decide) (fun hc => ?_) (fun hc => ?_)
  · have hp := hp.1 hc
    refine x_iconst (v := 0) C (by decide) (dX8_checksum_p2 5 rfl) ?_
    refine x_istore_n (loc' := [(3, .int 0), (0, .ref (kad κ 204)), (1, .long u1)]) C rfl (by decide) rfl (dX8_checksum_p2 6 rfl) ?_
    refine x_loc (loc' := [(0, .ref (kad κ 204)), (1, .long u1), (3, .int 0)]) [1, 2, 0] rfl ?_
    exact LpE_GG (S := (Int64 × Int32 × St)) (F := fun c s => F_X8_checksum_223 K  c s.1 s.2.1 s.2.2) (W := fun s => GG κ 223 [(0, .ref (kad κ 204)), (1, .long s.1), (3, .int s.2.1)] [] s.2.2) (fun c s hcc hp => F_X8_checksum_223_w C hret s.1 s.2.1  s.2.2  (fun u1 u3 σ h => hcc (u1, u3, σ) h) hp) hp
  · have hp := hp.2 hc
    refine x_aload_n 0 C rfl (dX8_checksum_p0 12 rfl) ?_
    refine x_iload_n 2 C rfl (dX8_checksum_p0 13 rfl) ?_
    refine x_cvV (As := [.int u3]) (st := []) C LRX8_226 (ci := 8) rfl rfl (by decide) (by decide) (m_X8_looks (kL κ) (kad κ) (kD κ) (kca κ) C.ado u3  σ _ hp) rfl (by decide) rfl (Nat.le_of_ble_eq_true rfl) (dX8_checksum_p0 14 rfl) (fun s5 hp => ?_)
    refine x_ldc2 C tw_1196 (dX8_checksum_p0 15 rfl) ?_
    refine x_lload_n 1 C rfl (dX8_checksum_p0 16 rfl) ?_
    refine x_lmul C (dX8_checksum_p0 17 rfl) ?_
    refine x_aload_n 0 C rfl (dX8_checksum_p0 18 rfl) ?_
    refine gX8_3 (b := 206) C rfl (by decide) rfl tw_751 (dX8_checksum_p0 19 rfl) ?_
    refine x_iload_n 2 C rfl (dX8_checksum_p0 20 rfl) ?_
    obtain ⟨h6, hp⟩ := hp
    refine x_iald C rfl (by decide) h6 (dX8_checksum_p0 21 rfl) ?_
    refine x_i2l C (dX8_checksum_p0 22 rfl) ?_
    refine x_ladd C (dX8_checksum_p0 23 rfl) ?_
    refine x_topL (fun v7 ev7 => ?_)
    have hp := hp v7 ev7
    refine x_lstore_n (loc' := [(1, .long v7), (0, .ref (kad κ 204)), (3, .int u3)]) C rfl (by decide) rfl (dX8_checksum_p0 24 rfl) ?_
    refine x_iconst (v := 1) C (by decide) (dX8_checksum_p0 25 rfl) ?_
    refine x_istore (loc' := [(4, .int 1), (1, .long v7), (0, .ref (kad κ 204)), (3, .int u3)]) C (by decide) rfl (dX8_checksum_p0 26 rfl) ?_
    refine x_loc (loc' := [(0, .ref (kad κ 204)), (1, .long v7), (3, .int u3), (4, .int 1)]) [2, 1, 3, 0] rfl ?_
    exact LpE_GG (S := (Int64 × Int32 × St)) (F := fun c s => F_X8_checksum_42 K c12 c s.1 u3 s.2.1 s.2.2) (W := fun s => GG κ 42 [(0, .ref (kad κ 204)), (1, .long s.1), (3, .int u3), (4, .int s.2.1)] [] s.2.2) (fun c s hcc hp => F_X8_checksum_42_w C hret s.1 u3 s.2.1  s.2.2 hc12 (fun u1 u4 σ h => hcc (u1, u4, σ) h) hp) hp
def P_X8_checksum  (σ : St) (K : Int64 → St → Prop) : Prop := ∀ v1 : Int64, v1 = (403 + (Int32.toInt64 (σ.1 204 2))) → (LpE (fun c s => F_X8_checksum_12 K  c s.1 s.2.1 s.2.2) (v1, 0, σ))
set_option maxHeartbeats 4000000 in
set_option maxRecDepth 100000 in
theorem m_X8_checksum (l : Launch) (ad : Nat → Nat) (D : va_G) (ca : Nat → ClassId) (had : adOk ad)   (σ : St) (K : Int64 → St → Prop) (hp : P_X8_checksum  σ K) : CtL l ad D ca yX8_checksum cX8_checksum 5 6 [.ref (ad 204)] σ K := CtL_of (av := fun ad => [.ref (ad 204)]) (plainFor_of_name (by decide)) had (Nat.le_of_ble_eq_true rfl) (fun κ C hret => by
  have C : Ok κ RX8 cX8_checksum 5 6 := C
  show GG κ 0 [(0, .ref (kad κ 204))] [] σ
  unfold P_X8_checksum at hp
  refine x_ldc2 C tw_1195 (dX8_checksum_p0 0 rfl) ?_
  refine x_aload_n 0 C rfl (dX8_checksum_p0 1 rfl) ?_
  refine gX8_2 C rfl (by decide) tw_750 (dX8_checksum_p0 2 rfl) ?_
  refine x_i2l C (dX8_checksum_p0 3 rfl) ?_
  refine x_ladd C (dX8_checksum_p0 4 rfl) ?_
  refine x_topL (fun v1 ev1 => ?_)
  have hp := hp v1 ev1
  refine x_lstore_n (loc' := [(1, .long v1), (0, .ref (kad κ 204))]) C rfl (by decide) rfl (dX8_checksum_p0 5 rfl) ?_
  refine x_iconst (v := 0) C (by decide) (dX8_checksum_p0 6 rfl) ?_
  refine x_istore_n (loc' := [(3, .int 0), (1, .long v1), (0, .ref (kad κ 204))]) C rfl (by decide) rfl (dX8_checksum_p0 7 rfl) ?_
  refine x_loc (loc' := [(0, .ref (kad κ 204)), (1, .long v1), (3, .int 0)]) [2, 1, 0] rfl ?_
  exact LpE_GG (S := (Int64 × Int32 × St)) (F := fun c s => F_X8_checksum_12 K  c s.1 s.2.1 s.2.2) (W := fun s => GG κ 12 [(0, .ref (kad κ 204)), (1, .long s.1), (3, .int s.2.1)] [] s.2.2) (fun c s hcc hp => F_X8_checksum_12_w C hret s.1 s.2.1  s.2.2  (fun u1 u3 σ h => hcc (u1, u3, σ) h) hp) hp)
def P_X8_clearText  (σ : St) (K : Int32 → St → Prop) : Prop := ∀ v1 : Int32, v1 = (σ.1 204 1) → ∀ s2 : St, s2 = wI σ 204 1 0 → (K v1 s2)
set_option maxHeartbeats 4000000 in
set_option maxRecDepth 100000 in
theorem m_X8_clearText (l : Launch) (ad : Nat → Nat) (D : va_G) (ca : Nat → ClassId) (had : adOk ad)   (σ : St) (K : Int32 → St → Prop) (hp : P_X8_clearText  σ K) : CtI l ad D ca yX8_clearText cX8_clearText 2 .int 0 [.ref (ad 204)] σ K := CtI_of (av := fun ad => [.ref (ad 204)]) (plainFor_of_name (by decide)) had (Nat.le_of_ble_eq_true rfl) (fun κ C hret => by
  have C : Ok κ RX8 cX8_clearText 2 0 := C
  show GG κ 0 [(0, .ref (kad κ 204))] [] σ
  unfold P_X8_clearText at hp
  refine x_aload_n 0 C rfl (dX8_clearText_p0 0 rfl) ?_
  refine gX8_1 C rfl (by decide) tw_749 (dX8_clearText_p0 1 rfl) ?_
  refine x_topI (fun v1 ev1 => ?_)
  have hp := hp v1 ev1
  refine x_istore_n (loc' := [(1, .int v1), (0, .ref (kad κ 204))]) C rfl (by decide) rfl (dX8_clearText_p0 2 rfl) ?_
  refine x_aload_n 1 C rfl (dX8_clearText_p0 3 rfl) ?_
  refine x_iconst (v := 0) C (by decide) (dX8_clearText_p0 4 rfl) ?_
  refine qX8_1 C rfl (by decide) tw_749 (dX8_clearText_p0 5 rfl) ?_
  refine x_nmS (fun s2 es2 => ?_)
  have hp := hp s2 es2
  refine x_iload_n 0 C rfl (dX8_clearText_p0 6 rfl) ?_
  exact hret _ _ _ _ (dX8_clearText_p0 7 rfl) (nar_i _) hp)
def P_X8_constrain (p1 : Int32) (p2 : Int32) (p3 : Int32) (p4 : Int32) (σ : St) (K : Int32 → St → Prop) : Prop := P_X8_isArc p1 p2 p3 σ (fun r2 s1 => (r2 = 0 → (K (-1000001) s1)) ∧ (¬ (r2 = 0) → P_X8_in p4 0 2 s1 (fun r4 s3 => (r4 = 0 → (K (-1000002) s3)) ∧ (¬ (r4 = 0) → P_X8_arc p1 p2 p3 s3 (fun r6 s5 => vp_in r6 196 ∧ (∀ v8 : Int32, v8 = (s5.1 210 (ix r6)) → (vp_in r6 196 ∧ ∀ s10 : St, s10 = wI s5 210 (ix r6) p4 → (K v8 s10))))))))
set_option maxHeartbeats 4000000 in
set_option maxRecDepth 100000 in
theorem m_X8_constrain (l : Launch) (ad : Nat → Nat) (D : va_G) (ca : Nat → ClassId) (had : adOk ad) (p1 : Int32) (p2 : Int32) (p3 : Int32) (p4 : Int32)  (σ : St) (K : Int32 → St → Prop) (hp : P_X8_constrain p1 p2 p3 p4 σ K) : CtI l ad D ca yX8_constrain cX8_constrain 7 .int 4 [.ref (ad 204), .int p1, .int p2, .int p3, .int p4] σ K := CtI_of (av := fun ad => [.ref (ad 204), .int p1, .int p2, .int p3, .int p4]) (plainFor_of_name (by decide)) had (Nat.le_of_ble_eq_true rfl) (fun κ C hret => by
  have C : Ok κ RX8 cX8_constrain 7 4 := C
  show GG κ 0 [(0, .ref (kad κ 204)), (1, .int p1), (2, .int p2), (3, .int p3), (4, .int p4)] [] σ
  unfold P_X8_constrain at hp
  refine x_aload_n 0 C rfl (dX8_constrain_p0 0 rfl) ?_
  refine x_iload_n 1 C rfl (dX8_constrain_p0 1 rfl) ?_
  refine x_iload_n 2 C rfl (dX8_constrain_p0 2 rfl) ?_
  refine x_iload_n 3 C rfl (dX8_constrain_p0 3 rfl) ?_
  refine x_cvI (As := [.int p1, .int p2, .int p3]) (st := []) C LRX8_129 (ci := 8) rfl rfl (by decide) (by decide) (m_X8_isArc (kL κ) (kad κ) (kD κ) (kca κ) C.ado p1 p2 p3  σ _ hp) rfl (by decide) rfl (Nat.le_of_ble_eq_true rfl) (dX8_constrain_p0 4 rfl) (fun r2 s1 hp => ?_)
  refine x_if_ne (tgt := 13) C (dX8_constrain_p0 5 rfl) (by decide) (fun hc => ?_) (fun hc => ?_)
  · have hp := hp.2 hc
    refine x_iload 4 C rfl (dX8_constrain_p0 8 rfl) ?_
    refine x_iconst (v := 0) C (by decide) (dX8_constrain_p0 9 rfl) ?_
    refine x_iconst (v := 2) C (by decide) (dX8_constrain_p0 10 rfl) ?_
    refine x_csI (As := [.int p4, .int 0, .int 2]) (st := []) C LRX8_94 (m_X8_in (kL κ) (kad κ) (kD κ) (kca κ) C.ado p4 0 2  s1 _ hp) rfl (by decide) rfl (Nat.le_of_ble_eq_true rfl) (dX8_constrain_p0 11 rfl) (fun r4 s3 hp => ?_)
    refine x_if_ne (tgt := 26) C (dX8_constrain_p0 12 rfl) (by decide) (fun hc => ?_) (fun hc => ?_)
    · have hp := hp.2 hc
      refine x_iload_n 1 C rfl (dX8_constrain_p0 15 rfl) ?_
      refine x_iload_n 2 C rfl (dX8_constrain_p0 16 rfl) ?_
      refine x_iload_n 3 C rfl (dX8_constrain_p0 17 rfl) ?_
      refine x_csI (As := [.int p1, .int p2, .int p3]) (st := []) C LRX8_147 (m_X8_arc (kL κ) (kad κ) (kD κ) (kca κ) C.ado p1 p2 p3  s3 _ hp) rfl (by decide) rfl (Nat.le_of_ble_eq_true rfl) (dX8_constrain_p0 18 rfl) (fun r6 s5 hp => ?_)
      refine x_istore (loc' := [(5, .int r6), (0, .ref (kad κ 204)), (1, .int p1), (2, .int p2), (3, .int p3), (4, .int p4)]) C (by decide) rfl (dX8_constrain_p0 19 rfl) ?_
      refine x_aload_n 1 C rfl (dX8_constrain_p0 20 rfl) ?_
      refine gX8_7 (b := 210) C rfl (by decide) rfl tw_755 (dX8_constrain_p0 21 rfl) ?_
      refine x_iload 0 C rfl (dX8_constrain_p0 22 rfl) ?_
      obtain ⟨h7, hp⟩ := hp
      refine x_iald C rfl (by decide) h7 (dX8_constrain_p0 23 rfl) ?_
      refine x_topI (fun v8 ev8 => ?_)
      have hp := hp v8 ev8
      refine x_istore (loc' := [(6, .int v8), (5, .int r6), (0, .ref (kad κ 204)), (1, .int p1), (2, .int p2), (3, .int p3), (4, .int p4)]) C (by decide) rfl (dX8_constrain_p0 24 rfl) ?_
      refine x_aload_n 2 C rfl (dX8_constrain_p0 25 rfl) ?_
      refine gX8_7 (b := 210) C rfl (by decide) rfl tw_755 (dX8_constrain_p0 26 rfl) ?_
      refine x_iload 1 C rfl (dX8_constrain_p0 27 rfl) ?_
      refine x_iload 6 C rfl (dX8_constrain_p0 28 rfl) ?_
      obtain ⟨h9, hp⟩ := hp
      refine x_iast C rfl (by decide) h9 (dX8_constrain_p0 29 rfl) ?_
      refine x_nmS (fun s10 es10 => ?_)
      have hp := hp s10 es10
      refine x_iload 0 C rfl (dX8_constrain_p0 30 rfl) ?_
      exact hret _ _ _ _ (dX8_constrain_p0 31 rfl) (nar_i _) hp
    · have hp := hp.1 hc
      refine x_ldc C tw_876 (dX8_constrain_p0 13 rfl) ?_
      exact hret _ _ _ _ (dX8_constrain_p0 14 rfl) (nar_i _) hp
  · have hp := hp.1 hc
    refine x_ldc C tw_910 (dX8_constrain_p0 6 rfl) ?_
    exact hret _ _ _ _ (dX8_constrain_p0 7 rfl) (nar_i _) hp)
def P_X8_correct (p1 : Int32) (σ : St) (K : Int32 → St → Prop) : Prop := P_X8_isSentence p1 σ (fun r2 s1 => (r2 = 0 → (K (-1000001) s1)) ∧ (¬ (r2 = 0) → P_X8_looks p1 s1 (fun s3 => ((s3.1 204 21) ≤ 0 → (K (-1000004) s3)) ∧ (¬ ((s3.1 204 21) ≤ 0) → P_X8_right p1 s3 (fun r5 s4 => K r5 s4)))))
set_option maxHeartbeats 4000000 in
set_option maxRecDepth 100000 in
theorem m_X8_correct (l : Launch) (ad : Nat → Nat) (D : va_G) (ca : Nat → ClassId) (had : adOk ad) (p1 : Int32)  (σ : St) (K : Int32 → St → Prop) (hp : P_X8_correct p1 σ K) : CtI l ad D ca yX8_correct cX8_correct 2 .int 6 [.ref (ad 204), .int p1] σ K := CtI_of (av := fun ad => [.ref (ad 204), .int p1]) (plainFor_of_name (by decide)) had (Nat.le_of_ble_eq_true rfl) (fun κ C hret => by
  have C : Ok κ RX8 cX8_correct 2 6 := C
  show GG κ 0 [(0, .ref (kad κ 204)), (1, .int p1)] [] σ
  unfold P_X8_correct at hp
  refine x_aload_n 0 C rfl (dX8_correct_p0 0 rfl) ?_
  refine x_iload_n 1 C rfl (dX8_correct_p0 1 rfl) ?_
  refine x_cvI (As := [.int p1]) (st := []) C LRX8_98 (ci := 8) rfl rfl (by decide) (by decide) (m_X8_isSentence (kL κ) (kad κ) (kD κ) (kca κ) C.ado p1  σ _ hp) rfl (by decide) rfl (Nat.le_of_ble_eq_true rfl) (dX8_correct_p0 2 rfl) (fun r2 s1 hp => ?_)
  refine x_if_ne (tgt := 11) C (dX8_correct_p0 3 rfl) (by decide) (fun hc => ?_) (fun hc => ?_)
  · have hp := hp.2 hc
    refine x_aload_n 0 C rfl (dX8_correct_p0 6 rfl) ?_
    refine x_iload_n 1 C rfl (dX8_correct_p0 7 rfl) ?_
    refine x_cvV (As := [.int p1]) (st := []) C LRX8_226 (ci := 8) rfl rfl (by decide) (by decide) (m_X8_looks (kL κ) (kad κ) (kD κ) (kca κ) C.ado p1  s1 _ hp) rfl (by decide) rfl (Nat.le_of_ble_eq_true rfl) (dX8_correct_p0 8 rfl) (fun s3 hp => ?_)
    refine x_aload_n 0 C rfl (dX8_correct_p0 9 rfl) ?_
    refine gX8_21 C rfl (by decide) tw_769 (dX8_correct_p0 10 rfl) ?_
    refine x_if_le (tgt := 31) C (dX8_correct_p0 11 rfl) (by decide) (fun hc => ?_) (fun hc => ?_)
    · have hp := hp.1 hc
      refine x_ldc C tw_893 (dX8_correct_p0 16 rfl) ?_
      exact hret _ _ _ _ (dX8_correct_p0 17 rfl) (nar_i _) hp
    · have hp := hp.2 hc
      refine x_aload_n 0 C rfl (dX8_correct_p0 12 rfl) ?_
      refine x_iload_n 1 C rfl (dX8_correct_p0 13 rfl) ?_
      refine x_cvI (As := [.int p1]) (st := []) C LRX8_229 (ci := 8) rfl rfl (by decide) (by decide) (m_X8_right (kL κ) (kad κ) (kD κ) (kca κ) C.ado p1  s3 _ hp) rfl (by decide) rfl (Nat.le_of_ble_eq_true rfl) (dX8_correct_p0 14 rfl) (fun r5 s4 hp => ?_)
      refine x_goto (tgt := 33) C (dX8_correct_p0 15 rfl) (by decide) ?_
      exact hret _ _ _ _ (dX8_correct_p0 17 rfl) (nar_i _) hp
  · have hp := hp.1 hc
    refine x_ldc C tw_910 (dX8_correct_p0 4 rfl) ?_
    exact hret _ _ _ _ (dX8_correct_p0 5 rfl) (nar_i _) hp)
def P_X8_crossings (p1 : Int32) (σ : St) (K : Int32 → St → Prop) : Prop := P_X8_isSentence p1 σ (fun r2 s1 => (r2 = 0 → (K (-1000001) s1)) ∧ (¬ (r2 = 0) → vp_in p1 4 ∧ (P_X8_crossed 208 (7 * p1) (s1.1 206 (ix p1)) s1 (fun r5 s4 => K r5 s4))))
set_option maxHeartbeats 4000000 in
set_option maxRecDepth 100000 in
theorem m_X8_crossings (l : Launch) (ad : Nat → Nat) (D : va_G) (ca : Nat → ClassId) (had : adOk ad) (p1 : Int32)  (σ : St) (K : Int32 → St → Prop) (hp : P_X8_crossings p1 σ K) : CtI l ad D ca yX8_crossings cX8_crossings 2 .int 2 [.ref (ad 204), .int p1] σ K := CtI_of (av := fun ad => [.ref (ad 204), .int p1]) (plainFor_of_name (by decide)) had (Nat.le_of_ble_eq_true rfl) (fun κ C hret => by
  have C : Ok κ RX8 cX8_crossings 2 2 := C
  show GG κ 0 [(0, .ref (kad κ 204)), (1, .int p1)] [] σ
  unfold P_X8_crossings at hp
  refine x_aload_n 0 C rfl (dX8_crossings_p0 0 rfl) ?_
  refine x_iload_n 1 C rfl (dX8_crossings_p0 1 rfl) ?_
  refine x_cvI (As := [.int p1]) (st := []) C LRX8_98 (ci := 8) rfl rfl (by decide) (by decide) (m_X8_isSentence (kL κ) (kad κ) (kD κ) (kca κ) C.ado p1  σ _ hp) rfl (by decide) rfl (Nat.le_of_ble_eq_true rfl) (dX8_crossings_p0 2 rfl) (fun r2 s1 hp => ?_)
  refine x_if_eq (tgt := 28) C (dX8_crossings_p0 3 rfl) (by decide) (fun hc => ?_) (fun hc => ?_)
  · have hp := hp.1 hc
    refine x_ldc C tw_910 (dX8_crossings_p0 15 rfl) ?_
    exact hret _ _ _ _ (dX8_crossings_p0 16 rfl) (nar_i _) hp
  · have hp := hp.2 hc
    refine x_aload_n 0 C rfl (dX8_crossings_p0 4 rfl) ?_
    refine gX8_5 (b := 208) C rfl (by decide) rfl tw_753 (dX8_crossings_p0 5 rfl) ?_
    refine x_bipush (v := 7) C (by decide) (dX8_crossings_p0 6 rfl) ?_
    refine x_iload_n 1 C rfl (dX8_crossings_p0 7 rfl) ?_
    refine x_imul C (dX8_crossings_p0 8 rfl) ?_
    refine x_aload_n 0 C rfl (dX8_crossings_p0 9 rfl) ?_
    refine gX8_3 (b := 206) C rfl (by decide) rfl tw_751 (dX8_crossings_p0 10 rfl) ?_
    refine x_iload_n 1 C rfl (dX8_crossings_p0 11 rfl) ?_
    obtain ⟨h3, hp⟩ := hp
    refine x_iald C rfl (by decide) h3 (dX8_crossings_p0 12 rfl) ?_
    refine x_csI (As := [.ref (kad κ 208), .int (7 * p1), .int (s1.1 206 (ix p1))]) (st := []) C LRX8_193 (m_X8_crossed (kL κ) (kad κ) (kD κ) (kca κ) C.ado 208 (7 * p1) (s1.1 206 (ix p1)) rfl (by decide) s1 _ hp) rfl (by decide) rfl (Nat.le_of_ble_eq_true rfl) (dX8_crossings_p0 13 rfl) (fun r5 s4 hp => ?_)
    refine x_goto (tgt := 30) C (dX8_crossings_p0 14 rfl) (by decide) ?_
    exact hret _ _ _ _ (dX8_crossings_p0 16 rfl) (nar_i _) hp)
def F_X8_depth_17 (K : Int32 → St → Prop) (c17 : (Int32 × Int32 × St) → Prop) (u1 : Int32) (u3 : Int32) (u4 : Int32) (σ : St) : Prop := (u4 ≤ 0 → (K u3 σ)) ∧ (¬ (u4 ≤ 0) → P_X8_word u1 u4 σ (fun r4 s3 => vp_in r4 28 ∧ (∀ v6 : Int32, v6 = (s3.1 208 (ix r4)) → ∀ v7 : Int32, v7 = u3 + 1 → c17 (v7, v6, s3))))
set_option maxHeartbeats 4000000 in
set_option maxRecDepth 100000 in
theorem F_X8_depth_17_w {κ : Kap} {K : Int32 → St → Prop} {c17 : (Int32 × Int32 × St) → Prop} (C : Ok κ RX8 cX8_depth 5 3) (hret : RetI κ cX8_depth .int K) (u1 : Int32) (u3 : Int32) (u4 : Int32)     (σ : St) (hc17 : ∀ (u3 : Int32) (u4 : Int32) (σ : St), c17 (u3, u4, σ) → GG κ 17 [(0, .ref (kad κ 204)), (1, .int u1), (3, .int u3), (4, .int u4)] [] σ) (hp : F_X8_depth_17 K c17 u1 u3 u4 σ) : GG κ 17 [(0, .ref (kad κ 204)), (1, .int u1), (3, .int u3), (4, .int u4)] [] σ := by
  unfold F_X8_depth_17 at hp
  refine x_iload 3 C rfl (dX8_depth_p0 11 rfl) ?_
  refine x_if_le (tgt := 41) C (dX8_depth_p0 12 rfl) (by decide) (fun hc => ?_) (fun hc => ?_)
  · have hp := hp.1 hc
    refine x_iload_n 2 C rfl (dX8_depth_p0 22 rfl) ?_
    exact hret _ _ _ _ (dX8_depth_p0 23 rfl) (nar_i _) hp
  · have hp := hp.2 hc
    refine x_aload_n 0 C rfl (dX8_depth_p0 13 rfl) ?_
    refine gX8_5 (b := 208) C rfl (by decide) rfl tw_753 (dX8_depth_p0 14 rfl) ?_
    refine x_iload_n 1 C rfl (dX8_depth_p0 15 rfl) ?_
    refine x_iload 3 C rfl (dX8_depth_p0 16 rfl) ?_
    refine x_csI (As := [.int u1, .int u4]) (st := [.ref (kad κ 208)]) C LRX8_124 (m_X8_word (kL κ) (kad κ) (kD κ) (kca κ) C.ado u1 u4  σ _ hp) rfl (by decide) rfl (Nat.le_of_ble_eq_true rfl) (dX8_depth_p0 17 rfl) (fun r4 s3 hp => ?_)
    obtain ⟨h5, hp⟩ := hp
    refine x_iald C rfl (by decide) h5 (dX8_depth_p0 18 rfl) ?_
    refine x_topI (fun v6 ev6 => ?_)
    have hp := hp v6 ev6
    refine x_istore (loc' := [(4, .int v6), (0, .ref (kad κ 204)), (1, .int u1), (3, .int u3)]) C (by decide) rfl (dX8_depth_p0 19 rfl) ?_
    obtain ⟨v7, ev7⟩ : ∃ z : Int32, z = u3 + 1 := ⟨_, rfl⟩
    have hp := hp v7 ev7
    refine x_iinc (v := v7) (loc' := [(3, .int v7), (4, .int v6), (0, .ref (kad κ 204)), (1, .int u1)]) 3 C rfl (by rw [ev7]; rfl) (by decide) rfl (dX8_depth_p0 20 rfl) ?_
    refine x_goto (tgt := 17) C (dX8_depth_p0 21 rfl) (by decide) ?_
    refine x_loc (loc' := [(0, .ref (kad κ 204)), (1, .int u1), (3, .int v7), (4, .int v6)]) [2, 3, 0, 1] rfl ?_
    exact hc17 v7 v6 s3 hp
def P_X8_depth (p1 : Int32) (p2 : Int32) (σ : St) (K : Int32 → St → Prop) : Prop := P_X8_isWord p1 p2 σ (fun r2 s1 => (r2 = 0 → (K (-1000001) s1)) ∧ (¬ (r2 = 0) → (LpE (fun c s => F_X8_depth_17 K  c p1 s.1 s.2.1 s.2.2) (0, p2, s1))))
set_option maxHeartbeats 4000000 in
set_option maxRecDepth 100000 in
theorem m_X8_depth (l : Launch) (ad : Nat → Nat) (D : va_G) (ca : Nat → ClassId) (had : adOk ad) (p1 : Int32) (p2 : Int32)  (σ : St) (K : Int32 → St → Prop) (hp : P_X8_depth p1 p2 σ K) : CtI l ad D ca yX8_depth cX8_depth 5 .int 3 [.ref (ad 204), .int p1, .int p2] σ K := CtI_of (av := fun ad => [.ref (ad 204), .int p1, .int p2]) (plainFor_of_name (by decide)) had (Nat.le_of_ble_eq_true rfl) (fun κ C hret => by
  have C : Ok κ RX8 cX8_depth 5 3 := C
  show GG κ 0 [(0, .ref (kad κ 204)), (1, .int p1), (2, .int p2)] [] σ
  unfold P_X8_depth at hp
  refine x_aload_n 0 C rfl (dX8_depth_p0 0 rfl) ?_
  refine x_iload_n 1 C rfl (dX8_depth_p0 1 rfl) ?_
  refine x_iload_n 2 C rfl (dX8_depth_p0 2 rfl) ?_
  refine x_cvI (As := [.int p1, .int p2]) (st := []) C LRX8_102 (ci := 8) rfl rfl (by decide) (by decide) (m_X8_isWord (kL κ) (kad κ) (kD κ) (kca κ) C.ado p1 p2  σ _ hp) rfl (by decide) rfl (Nat.le_of_ble_eq_true rfl) (dX8_depth_p0 3 rfl) (fun r2 s1 hp => ?_)
  refine x_if_ne (tgt := 12) C (dX8_depth_p0 4 rfl) (by decide) (fun hc => ?_) (fun hc => ?_)
  · have hp := hp.2 hc
    refine x_iconst (v := 0) C (by decide) (dX8_depth_p0 7 rfl) ?_
    refine x_istore_n (loc' := [(3, .int 0), (0, .ref (kad κ 204)), (1, .int p1), (2, .int p2)]) C rfl (by decide) rfl (dX8_depth_p0 8 rfl) ?_
    refine x_iload_n 3 C rfl (dX8_depth_p0 9 rfl) ?_
    refine x_istore (loc' := [(4, .int p2), (3, .int 0), (0, .ref (kad κ 204)), (1, .int p1), (2, .int p2)]) C (by decide) rfl (dX8_depth_p0 10 rfl) ?_
    refine x_loc (loc' := [(0, .ref (kad κ 204)), (1, .int p1), (3, .int 0), (4, .int p2)]) [2, 3, 1, 0] rfl ?_
    exact LpE_GG (S := (Int32 × Int32 × St)) (F := fun c s => F_X8_depth_17 K  c p1 s.1 s.2.1 s.2.2) (W := fun s => GG κ 17 [(0, .ref (kad κ 204)), (1, .int p1), (3, .int s.1), (4, .int s.2.1)] [] s.2.2) (fun c s hcc hp => F_X8_depth_17_w C hret p1 s.1 s.2.1  s.2.2  (fun u3 u4 σ h => hcc (u3, u4, σ) h) hp) hp
  · have hp := hp.1 hc
    refine x_ldc C tw_910 (dX8_depth_p0 5 rfl) ?_
    exact hret _ _ _ _ (dX8_depth_p0 6 rfl) (nar_i _) hp)
def P_X8_isDistance (p0 : Int32) (p1 : Int32) (σ : St) (K : Int32 → St → Prop) : Prop := P_X8_in p0 0 1 σ (fun r2 s1 => (r2 = 0 → (K 0 s1)) ∧ (¬ (r2 = 0) → P_X8_in p1 1 6 s1 (fun r4 s3 => (r4 = 0 → (K 0 s3)) ∧ (¬ (r4 = 0) → (K 1 s3)))))
set_option maxHeartbeats 4000000 in
set_option maxRecDepth 100000 in
theorem m_X8_isDistance (l : Launch) (ad : Nat → Nat) (D : va_G) (ca : Nat → ClassId) (had : adOk ad) (p0 : Int32) (p1 : Int32)  (σ : St) (K : Int32 → St → Prop) (hp : P_X8_isDistance p0 p1 σ K) : CtI l ad D ca yX8_isDistance cX8_isDistance 2 .boolean 1 [.int p0, .int p1] σ K := CtI_of (av := fun ad => [.int p0, .int p1]) (plainFor_of_name (by decide)) had (Nat.le_of_ble_eq_true rfl) (fun κ C hret => by
  have C : Ok κ RX8 cX8_isDistance 2 1 := C
  show GG κ 0 [(0, .int p0), (1, .int p1)] [] σ
  unfold P_X8_isDistance at hp
  refine x_iload_n 0 C rfl (dX8_isDistance_p0 0 rfl) ?_
  refine x_iconst (v := 0) C (by decide) (dX8_isDistance_p0 1 rfl) ?_
  refine x_iconst (v := 1) C (by decide) (dX8_isDistance_p0 2 rfl) ?_
  refine x_csI (As := [.int p0, .int 0, .int 1]) (st := []) C LRX8_94 (m_X8_in (kL κ) (kad κ) (kD κ) (kca κ) C.ado p0 0 1  σ _ hp) rfl (by decide) rfl (Nat.le_of_ble_eq_true rfl) (dX8_isDistance_p0 3 rfl) (fun r2 s1 hp => ?_)
  refine x_if_eq (tgt := 23) C (dX8_isDistance_p0 4 rfl) (by decide) (fun hc => ?_) (fun hc => ?_)
  · have hp := hp.1 hc
    refine x_iconst (v := 0) C (by decide) (dX8_isDistance_p0 12 rfl) ?_
    exact hret _ _ _ _ (dX8_isDistance_p0 13 rfl) (nar_z isB0) hp
  · have hp := hp.2 hc
    refine x_iload_n 1 C rfl (dX8_isDistance_p0 5 rfl) ?_
    refine x_iconst (v := 1) C (by decide) (dX8_isDistance_p0 6 rfl) ?_
    refine x_bipush (v := 6) C (by decide) (dX8_isDistance_p0 7 rfl) ?_
    refine x_csI (As := [.int p1, .int 1, .int 6]) (st := []) C LRX8_94 (m_X8_in (kL κ) (kad κ) (kD κ) (kca κ) C.ado p1 1 6  s1 _ hp) rfl (by decide) rfl (Nat.le_of_ble_eq_true rfl) (dX8_isDistance_p0 8 rfl) (fun r4 s3 hp => ?_)
    refine x_if_eq (tgt := 23) C (dX8_isDistance_p0 9 rfl) (by decide) (fun hc => ?_) (fun hc => ?_)
    · have hp := hp.1 hc
      refine x_iconst (v := 0) C (by decide) (dX8_isDistance_p0 12 rfl) ?_
      exact hret _ _ _ _ (dX8_isDistance_p0 13 rfl) (nar_z isB0) hp
    · have hp := hp.2 hc
      refine x_iconst (v := 1) C (by decide) (dX8_isDistance_p0 10 rfl) ?_
      refine x_goto (tgt := 24) C (dX8_isDistance_p0 11 rfl) (by decide) ?_
      exact hret _ _ _ _ (dX8_isDistance_p0 13 rfl) (nar_z isB1) hp)
def P_X8_distanceWeight (p1 : Int32) (p2 : Int32) (σ : St) (K : Int32 → St → Prop) : Prop := P_X8_isDistance p1 p2 σ (fun r2 s1 => (r2 = 0 → (K (-1000001) s1)) ∧ (¬ (r2 = 0) → P_X8_distancePlace p1 p2 s1 (fun r4 s3 => vp_in r4 84 ∧ (K (s3.1 211 (ix r4)) s3))))
set_option maxHeartbeats 4000000 in
set_option maxRecDepth 100000 in
theorem m_X8_distanceWeight (l : Launch) (ad : Nat → Nat) (D : va_G) (ca : Nat → ClassId) (had : adOk ad) (p1 : Int32) (p2 : Int32)  (σ : St) (K : Int32 → St → Prop) (hp : P_X8_distanceWeight p1 p2 σ K) : CtI l ad D ca yX8_distanceWeight cX8_distanceWeight 3 .int 2 [.ref (ad 204), .int p1, .int p2] σ K := CtI_of (av := fun ad => [.ref (ad 204), .int p1, .int p2]) (plainFor_of_name (by decide)) had (Nat.le_of_ble_eq_true rfl) (fun κ C hret => by
  have C : Ok κ RX8 cX8_distanceWeight 3 2 := C
  show GG κ 0 [(0, .ref (kad κ 204)), (1, .int p1), (2, .int p2)] [] σ
  unfold P_X8_distanceWeight at hp
  refine x_iload_n 1 C rfl (dX8_distanceWeight_p0 0 rfl) ?_
  refine x_iload_n 2 C rfl (dX8_distanceWeight_p0 1 rfl) ?_
  refine x_csI (As := [.int p1, .int p2]) (st := []) C LRX8_141 (m_X8_isDistance (kL κ) (kad κ) (kD κ) (kca κ) C.ado p1 p2  σ _ hp) rfl (by decide) rfl (Nat.le_of_ble_eq_true rfl) (dX8_distanceWeight_p0 2 rfl) (fun r2 s1 hp => ?_)
  refine x_if_eq (tgt := 21) C (dX8_distanceWeight_p0 3 rfl) (by decide) (fun hc => ?_) (fun hc => ?_)
  · have hp := hp.1 hc
    refine x_ldc C tw_910 (dX8_distanceWeight_p0 11 rfl) ?_
    exact hret _ _ _ _ (dX8_distanceWeight_p0 12 rfl) (nar_i _) hp
  · have hp := hp.2 hc
    refine x_aload_n 0 C rfl (dX8_distanceWeight_p0 4 rfl) ?_
    refine gX8_8 (b := 211) C rfl (by decide) rfl tw_756 (dX8_distanceWeight_p0 5 rfl) ?_
    refine x_iload_n 1 C rfl (dX8_distanceWeight_p0 6 rfl) ?_
    refine x_iload_n 2 C rfl (dX8_distanceWeight_p0 7 rfl) ?_
    refine x_csI (As := [.int p1, .int p2]) (st := [.ref (kad κ 211)]) C LRX8_144 (m_X8_distancePlace (kL κ) (kad κ) (kD κ) (kca κ) C.ado p1 p2  s1 _ hp) rfl (by decide) rfl (Nat.le_of_ble_eq_true rfl) (dX8_distanceWeight_p0 8 rfl) (fun r4 s3 hp => ?_)
    obtain ⟨h5, hp⟩ := hp
    refine x_iald C rfl (by decide) h5 (dX8_distanceWeight_p0 9 rfl) ?_
    refine x_goto (tgt := 23) C (dX8_distanceWeight_p0 10 rfl) (by decide) ?_
    exact hret _ _ _ _ (dX8_distanceWeight_p0 12 rfl) (nar_i _) hp)
def J_X8_faultOf_132 (K : Int32 → St → Prop) (c16 : (Int32 × St) → Prop) (u1 : Int32) (u2 : Int32) (σ : St) : Prop := (u1 = (σ.1 204 1) → (K u1 σ)) ∧ (¬ (u1 = (σ.1 204 1)) → ((u2 = 0 → (K u1 σ)) ∧ (¬ (u2 = 0) → vp_in u1 100 ∧ (((σ.1 205 (ix u1)) = 59 → P_X8_isTree 216 0 u2 σ (fun r6 s5 => (r6 = 0 → (K u1 s5)) ∧ (¬ (r6 = 0) → (vp_in (s5.1 204 14) 50 ∧ ∀ s8 : St, s8 = wI s5 214 (ix (s5.1 204 14)) u2 → (∀ s9 : St, s9 = wI s8 204 14 ((s8.1 204 14) + 1) → ∀ v10 : Int32, v10 = u1 + 1 → c16 (v10, s9)))))) ∧ (¬ ((σ.1 205 (ix u1)) = 59) → (K u1 σ))))))
set_option maxHeartbeats 4000000 in
set_option maxRecDepth 100000 in
theorem J_X8_faultOf_132_w {κ : Kap} {K : Int32 → St → Prop} {c16 : (Int32 × St) → Prop} (C : Ok κ RX8 cX8_faultOf 3 1) (hret : RetI κ cX8_faultOf .int K) (u1 : Int32) (u2 : Int32)    (σ : St) (hc16 : ∀ (u1 : Int32) (σ : St), c16 (u1, σ) → GG κ 16 [(0, .ref (kad κ 204)), (1, .int u1)] [] σ) (hp : J_X8_faultOf_132 K c16 u1 u2 σ) : GG κ 132 [(0, .ref (kad κ 204)), (1, .int u1), (2, .int u2)] [] σ := by
  unfold J_X8_faultOf_132 at hp
  refine x_iload_n 1 C rfl (dX8_faultOf_p1 9 rfl) ?_
  refine x_aload_n 0 C rfl (dX8_faultOf_p1 10 rfl) ?_
  refine gX8_1 C rfl (by decide) tw_749 (dX8_faultOf_p1 11 rfl) ?_
  refine x_icmp_eq (tgt := 167) C (dX8_faultOf_p1 12 rfl) (by decide) (fun hc => ?_) (fun hc => ?_)
  · have hp := hp.1 hc
    refine x_iload_n 1 C rfl (dX8_faultOf_p1 27 rfl) ?_
    exact hret _ _ _ _ (dX8_faultOf_p1 28 rfl) (nar_i _) hp
  · have hp := hp.2 hc
    refine x_iload_n 2 C rfl (dX8_faultOf_p1 13 rfl) ?_
    refine x_if_eq (tgt := 167) C (dX8_faultOf_p1 14 rfl) (by decide) (fun hc => ?_) (fun hc => ?_)
    · have hp := hp.1 hc
      refine x_iload_n 1 C rfl (dX8_faultOf_p1 27 rfl) ?_
      exact hret _ _ _ _ (dX8_faultOf_p1 28 rfl) (nar_i _) hp
    · have hp := hp.2 hc
      refine x_aload_n 0 C rfl (dX8_faultOf_p1 15 rfl) ?_
      refine gX8_0 (b := 205) C rfl (by decide) rfl tw_748 (dX8_faultOf_p1 16 rfl) ?_
      refine x_iload_n 1 C rfl (dX8_faultOf_p1 17 rfl) ?_
      obtain ⟨h4, hp⟩ := hp
      refine x_iald C rfl (by decide) h4 (dX8_faultOf_p1 18 rfl) ?_
      refine x_bipush (v := 59) C (by decide) (dX8_faultOf_p1 19 rfl) ?_
      refine x_icmp_ne (tgt := 167) C (dX8_faultOf_p1 20 rfl) (by decide) (fun hc => ?_) (fun hc => ?_)
      · have hp := hp.2 hc
        refine x_iload_n 1 C rfl (dX8_faultOf_p1 27 rfl) ?_
        exact hret _ _ _ _ (dX8_faultOf_p1 28 rfl) (nar_i _) hp
      · have hp := hp.1 hc
        refine x_aload_n 0 C rfl (dX8_faultOf_p1 21 rfl) ?_
        refine gX8_17 (b := 216) C rfl (by decide) rfl tw_765 (dX8_faultOf_p1 22 rfl) ?_
        refine x_iconst (v := 0) C (by decide) (dX8_faultOf_p1 23 rfl) ?_
        refine x_iload_n 2 C rfl (dX8_faultOf_p1 24 rfl) ?_
        refine x_csI (As := [.ref (kad κ 216), .int 0, .int u2]) (st := []) C LRX8_114 (m_X8_isTree (kL κ) (kad κ) (kD κ) (kca κ) C.ado 216 0 u2 rfl (by decide) σ _ hp) rfl (by decide) rfl (Nat.le_of_ble_eq_true rfl) (dX8_faultOf_p1 25 rfl) (fun r6 s5 hp => ?_)
        refine x_if_ne (tgt := 169) C (dX8_faultOf_p1 26 rfl) (by decide) (fun hc => ?_) (fun hc => ?_)
        · have hp := hp.2 hc
          refine x_aload_n 0 C rfl (dX8_faultOf_p1 29 rfl) ?_
          refine gX8_15 (b := 214) C rfl (by decide) rfl tw_763 (dX8_faultOf_p1 30 rfl) ?_
          refine x_aload_n 0 C rfl (dX8_faultOf_p1 31 rfl) ?_
          refine gX8_14 C rfl (by decide) tw_762 (dX8_faultOf_p1 32 rfl) ?_
          refine x_iload_n 2 C rfl (dX8_faultOf_p1 33 rfl) ?_
          obtain ⟨h7, hp⟩ := hp
          refine x_iast C rfl (by decide) h7 (dX8_faultOf_p1 34 rfl) ?_
          refine x_nmS (fun s8 es8 => ?_)
          have hp := hp s8 es8
          refine x_aload_n 0 C rfl (dX8_faultOf_p1 35 rfl) ?_
          refine x_dup C rfl (dX8_faultOf_p1 36 rfl) ?_
          refine gX8_14 C rfl (by decide) tw_762 (dX8_faultOf_p1 37 rfl) ?_
          refine x_iconst (v := 1) C (by decide) (dX8_faultOf_p1 38 rfl) ?_
          refine x_iadd C (dX8_faultOf_p1 39 rfl) ?_
          refine qX8_14 C rfl (by decide) tw_762 (dX8_faultOf_p1 40 rfl) ?_
          refine x_nmS (fun s9 es9 => ?_)
          have hp := hp s9 es9
          obtain ⟨v10, ev10⟩ : ∃ z : Int32, z = u1 + 1 := ⟨_, rfl⟩
          have hp := hp v10 ev10
          refine x_iinc (v := v10) (loc' := [(1, .int v10), (0, .ref (kad κ 204)), (2, .int u2)]) 1 C rfl (by rw [ev10]; rfl) (by decide) rfl (dX8_faultOf_p1 41 rfl) ?_
          refine x_goto (tgt := 16) C (dX8_faultOf_p1 42 rfl) (by decide) ?_
          refine x_loc (loc' := [(0, .ref (kad κ 204)), (1, .int v10)]) [1, 0] rfl ?_
          exact hc16 v10 s9 hp
        · have hp := hp.1 hc
          refine x_iload_n 1 C rfl (dX8_faultOf_p1 27 rfl) ?_
          exact hret _ _ _ _ (dX8_faultOf_p1 28 rfl) (nar_i _) hp
def F_X8_faultOf_36 (K : Int32 → St → Prop) (c16 : (Int32 × St) → Prop) (c36 : (Int32 × Int32 × St) → Prop) (u1 : Int32) (u2 : Int32) (σ : St) : Prop := (6 ≤ u2 → (J_X8_faultOf_132 K c16 u1 u2 σ)) ∧ (¬ (6 ≤ u2) → (((σ.1 204 1) ≤ u1 → (J_X8_faultOf_132 K c16 u1 u2 σ)) ∧ (¬ ((σ.1 204 1) ≤ u1) → vp_in u1 100 ∧ (P_X8_in (σ.1 205 (ix u1)) 65 72 σ (fun r13 s12 => (r13 = 0 → (J_X8_faultOf_132 K c16 u1 u2 s12)) ∧ (¬ (r13 = 0) → ∀ v14 : Int32, v14 = u2 + 1 → ∀ v15 : Int32, v15 = u1 + 1 → ((v15 = (s12.1 204 1) → (K v15 s12)) ∧ (¬ (v15 = (s12.1 204 1)) → vp_in v15 100 ∧ (P_X8_in (s12.1 205 (ix v15)) 48 57 s12 (fun r18 s17 => (r18 = 0 → (K v15 s17)) ∧ (¬ (r18 = 0) → vp_in v15 100 ∧ ((((s17.1 205 (ix v15)) - 48) = v14 → (K v15 s17)) ∧ (¬ (((s17.1 205 (ix v15)) - 48) = v14) → vp_in v15 100 ∧ (vp_in v14 7 ∧ ∀ s22 : St, s22 = wI s17 216 (ix v14) ((s17.1 205 (ix v15)) - 48) → ∀ v23 : Int32, v23 = v15 + 1 → c36 (v23, v14, s22)))))))))))))))
set_option maxHeartbeats 4000000 in
set_option maxRecDepth 100000 in
theorem F_X8_faultOf_36_w {κ : Kap} {K : Int32 → St → Prop} {c16 : (Int32 × St) → Prop} {c36 : (Int32 × Int32 × St) → Prop} (C : Ok κ RX8 cX8_faultOf 3 1) (hret : RetI κ cX8_faultOf .int K) (u1 : Int32) (u2 : Int32)    (σ : St) (hc16 : ∀ (u1 : Int32) (σ : St), c16 (u1, σ) → GG κ 16 [(0, .ref (kad κ 204)), (1, .int u1)] [] σ) (hc36 : ∀ (u1 : Int32) (u2 : Int32) (σ : St), c36 (u1, u2, σ) → GG κ 36 [(0, .ref (kad κ 204)), (1, .int u1), (2, .int u2)] [] σ) (hp : F_X8_faultOf_36 K c16 c36 u1 u2 σ) : GG κ 36 [(0, .ref (kad κ 204)), (1, .int u1), (2, .int u2)] [] σ := by
  unfold F_X8_faultOf_36 at hp
  refine x_iload_n 2 C rfl (dX8_faultOf_p0 22 rfl) ?_
  refine x_bipush (v := 6) C (by decide) (dX8_faultOf_p0 23 rfl) ?_
  refine x_icmp_ge (tgt := 132) C (dX8_faultOf_p0 24 rfl) (by decide) (fun hc => ?_) (fun hc => ?_)
  · have hp := hp.1 hc
    exact J_X8_faultOf_132_w C hret u1 u2  σ hc16 hp
  · have hp := hp.2 hc
    refine x_iload_n 1 C rfl (dX8_faultOf_p0 25 rfl) ?_
    refine x_aload_n 0 C rfl (dX8_faultOf_p0 26 rfl) ?_
    refine gX8_1 C rfl (by decide) tw_749 (dX8_faultOf_p0 27 rfl) ?_
    refine x_icmp_ge (tgt := 132) C (dX8_faultOf_p0 28 rfl) (by decide) (fun hc => ?_) (fun hc => ?_)
    · have hp := hp.1 hc
      exact J_X8_faultOf_132_w C hret u1 u2  σ hc16 hp
    · have hp := hp.2 hc
      refine x_aload_n 0 C rfl (dX8_faultOf_p0 29 rfl) ?_
      refine gX8_0 (b := 205) C rfl (by decide) rfl tw_748 (dX8_faultOf_p0 30 rfl) ?_
      refine x_iload_n 1 C rfl (dX8_faultOf_p0 31 rfl) ?_
      obtain ⟨h11, hp⟩ := hp
      refine x_iald C rfl (by decide) h11 (dX8_faultOf_p0 32 rfl) ?_
      refine x_bipush (v := 65) C (by decide) (dX8_faultOf_p0 33 rfl) ?_
      refine x_bipush (v := 72) C (by decide) (dX8_faultOf_p0 34 rfl) ?_
      refine x_csI (As := [.int (σ.1 205 (ix u1)), .int 65, .int 72]) (st := []) C LRX8_94 (m_X8_in (kL κ) (kad κ) (kD κ) (kca κ) C.ado (σ.1 205 (ix u1)) 65 72  σ _ hp) rfl (by decide) rfl (Nat.le_of_ble_eq_true rfl) (dX8_faultOf_p0 35 rfl) (fun r13 s12 hp => ?_)
      refine x_if_eq (tgt := 132) C (dX8_faultOf_p0 36 rfl) (by decide) (fun hc => ?_) (fun hc => ?_)
      · have hp := hp.1 hc
        exact J_X8_faultOf_132_w C hret u1 u2  s12 hc16 hp
      · have hp := hp.2 hc
        obtain ⟨v14, ev14⟩ : ∃ z : Int32, z = u2 + 1 := ⟨_, rfl⟩
        have hp := hp v14 ev14
        refine x_iinc (v := v14) (loc' := [(2, .int v14), (0, .ref (kad κ 204)), (1, .int u1)]) 2 C rfl (by rw [ev14]; rfl) (by decide) rfl (dX8_faultOf_p0 37 rfl) ?_
        obtain ⟨v15, ev15⟩ : ∃ z : Int32, z = u1 + 1 := ⟨_, rfl⟩
        have hp := hp v15 ev15
        refine x_iinc (v := v15) (loc' := [(1, .int v15), (2, .int v14), (0, .ref (kad κ 204))]) 2 C rfl (by rw [ev15]; rfl) (by decide) rfl (dX8_faultOf_p0 38 rfl) ?_
        refine x_iload_n 0 C rfl (dX8_faultOf_p0 39 rfl) ?_
        refine x_aload_n 2 C rfl (dX8_faultOf_p0 40 rfl) ?_
        refine gX8_1 C rfl (by decide) tw_749 (dX8_faultOf_p0 41 rfl) ?_
        refine x_icmp_eq (tgt := 109) C (dX8_faultOf_p0 42 rfl) (by decide) (fun hc => ?_) (fun hc => ?_)
        · have hp := hp.1 hc
          refine x_iload_n 0 C rfl (dX8_faultOf_p0 59 rfl) ?_
          exact hret _ _ _ _ (dX8_faultOf_p0 60 rfl) (nar_i _) hp
        · have hp := hp.2 hc
          refine x_aload_n 2 C rfl (dX8_faultOf_p0 43 rfl) ?_
          refine gX8_0 (b := 205) C rfl (by decide) rfl tw_748 (dX8_faultOf_p0 44 rfl) ?_
          refine x_iload_n 0 C rfl (dX8_faultOf_p0 45 rfl) ?_
          obtain ⟨h16, hp⟩ := hp
          refine x_iald C rfl (by decide) h16 (dX8_faultOf_p0 46 rfl) ?_
          refine x_bipush (v := 48) C (by decide) (dX8_faultOf_p0 47 rfl) ?_
          refine x_bipush (v := 57) C (by decide) (dX8_faultOf_p0 48 rfl) ?_
          refine x_csI (As := [.int (s12.1 205 (ix v15)), .int 48, .int 57]) (st := []) C LRX8_94 (m_X8_in (kL κ) (kad κ) (kD κ) (kca κ) C.ado (s12.1 205 (ix v15)) 48 57  s12 _ hp) rfl (by decide) rfl (Nat.le_of_ble_eq_true rfl) (dX8_faultOf_p0 49 rfl) (fun r18 s17 hp => ?_)
          refine x_if_eq (tgt := 109) C (dX8_faultOf_p0 50 rfl) (by decide) (fun hc => ?_) (fun hc => ?_)
          · have hp := hp.1 hc
            refine x_iload_n 0 C rfl (dX8_faultOf_p0 59 rfl) ?_
            exact hret _ _ _ _ (dX8_faultOf_p0 60 rfl) (nar_i _) hp
          · have hp := hp.2 hc
            refine x_aload_n 2 C rfl (dX8_faultOf_p0 51 rfl) ?_
            refine gX8_0 (b := 205) C rfl (by decide) rfl tw_748 (dX8_faultOf_p0 52 rfl) ?_
            refine x_iload_n 0 C rfl (dX8_faultOf_p0 53 rfl) ?_
            obtain ⟨h19, hp⟩ := hp
            refine x_iald C rfl (by decide) h19 (dX8_faultOf_p0 54 rfl) ?_
            refine x_bipush (v := 48) C (by decide) (dX8_faultOf_p0 55 rfl) ?_
            refine x_isub C (dX8_faultOf_p0 56 rfl) ?_
            refine x_iload_n 1 C rfl (dX8_faultOf_p0 57 rfl) ?_
            refine x_icmp_ne (tgt := 111) C (dX8_faultOf_p0 58 rfl) (by decide) (fun hc => ?_) (fun hc => ?_)
            · have hp := hp.2 hc
              refine x_aload_n 2 C rfl (dX8_faultOf_p0 61 rfl) ?_
              refine gX8_17 (b := 216) C rfl (by decide) rfl tw_765 (dX8_faultOf_p0 62 rfl) ?_
              refine x_iload_n 1 C rfl (dX8_faultOf_p0 63 rfl) ?_
              refine x_aload_n 2 C rfl (dX8_faultOf_p1 0 rfl) ?_
              refine gX8_0 (b := 205) C rfl (by decide) rfl tw_748 (dX8_faultOf_p1 1 rfl) ?_
              refine x_iload_n 0 C rfl (dX8_faultOf_p1 2 rfl) ?_
              obtain ⟨h20, hp⟩ := hp
              refine x_iald C rfl (by decide) h20 (dX8_faultOf_p1 3 rfl) ?_
              refine x_bipush (v := 48) C (by decide) (dX8_faultOf_p1 4 rfl) ?_
              refine x_isub C (dX8_faultOf_p1 5 rfl) ?_
              obtain ⟨h21, hp⟩ := hp
              refine x_iast C rfl (by decide) h21 (dX8_faultOf_p1 6 rfl) ?_
              refine x_nmS (fun s22 es22 => ?_)
              have hp := hp s22 es22
              obtain ⟨v23, ev23⟩ : ∃ z : Int32, z = v15 + 1 := ⟨_, rfl⟩
              have hp := hp v23 ev23
              refine x_iinc (v := v23) (loc' := [(1, .int v23), (2, .int v14), (0, .ref (kad κ 204))]) 0 C rfl (by rw [ev23]; rfl) (by decide) rfl (dX8_faultOf_p1 7 rfl) ?_
              refine x_goto (tgt := 36) C (dX8_faultOf_p1 8 rfl) (by decide) ?_
              refine x_loc (loc' := [(0, .ref (kad κ 204)), (1, .int v23), (2, .int v14)]) [2, 0, 1] rfl ?_
              exact hc36 v23 v14 s22 hp
            · have hp := hp.1 hc
              refine x_iload_n 0 C rfl (dX8_faultOf_p0 59 rfl) ?_
              exact hret _ _ _ _ (dX8_faultOf_p0 60 rfl) (nar_i _) hp
def F_X8_faultOf_16 (K : Int32 → St → Prop) (c16 : (Int32 × St) → Prop) (u1 : Int32) (σ : St) : Prop := ((σ.1 204 1) ≤ u1 → (K (-1000004) σ)) ∧ (¬ ((σ.1 204 1) ≤ u1) → (vp_in (σ.1 204 14) 50 ∧ ∀ s3 : St, s3 = wI σ 215 (ix (σ.1 204 14)) u1 → (LpE (fun c s => F_X8_faultOf_36 K c16 c s.1 s.2.1 s.2.2) (u1, 0, s3))))
set_option maxHeartbeats 4000000 in
set_option maxRecDepth 100000 in
theorem F_X8_faultOf_16_w {κ : Kap} {K : Int32 → St → Prop} {c16 : (Int32 × St) → Prop} (C : Ok κ RX8 cX8_faultOf 3 1) (hret : RetI κ cX8_faultOf .int K) (u1 : Int32)   (σ : St) (hc16 : ∀ (u1 : Int32) (σ : St), c16 (u1, σ) → GG κ 16 [(0, .ref (kad κ 204)), (1, .int u1)] [] σ) (hp : F_X8_faultOf_16 K c16 u1 σ) : GG κ 16 [(0, .ref (kad κ 204)), (1, .int u1)] [] σ := by
  unfold F_X8_faultOf_16 at hp
  refine x_iload_n 1 C rfl (dX8_faultOf_p0 10 rfl) ?_
  refine x_aload_n 0 C rfl (dX8_faultOf_p0 11 rfl) ?_
  refine gX8_1 C rfl (by decide) tw_749 (dX8_faultOf_p0 12 rfl) ?_
  refine x_icmp_ge (tgt := 195) C (dX8_faultOf_p0 13 rfl) (by decide) (fun hc => ?_) (fun hc => ?_)
  · have hp := hp.1 hc
    refine x_ldc C tw_893 (dX8_faultOf_p1 43 rfl) ?_
    exact hret _ _ _ _ (dX8_faultOf_p1 44 rfl) (nar_i _) hp
  · have hp := hp.2 hc
    refine x_aload_n 0 C rfl (dX8_faultOf_p0 14 rfl) ?_
    refine gX8_16 (b := 215) C rfl (by decide) rfl tw_764 (dX8_faultOf_p0 15 rfl) ?_
    refine x_aload_n 0 C rfl (dX8_faultOf_p0 16 rfl) ?_
    refine gX8_14 C rfl (by decide) tw_762 (dX8_faultOf_p0 17 rfl) ?_
    refine x_iload_n 1 C rfl (dX8_faultOf_p0 18 rfl) ?_
    obtain ⟨h2, hp⟩ := hp
    refine x_iast C rfl (by decide) h2 (dX8_faultOf_p0 19 rfl) ?_
    refine x_nmS (fun s3 es3 => ?_)
    have hp := hp s3 es3
    refine x_iconst (v := 0) C (by decide) (dX8_faultOf_p0 20 rfl) ?_
    refine x_istore_n (loc' := [(2, .int 0), (0, .ref (kad κ 204)), (1, .int u1)]) C rfl (by decide) rfl (dX8_faultOf_p0 21 rfl) ?_
    refine x_loc (loc' := [(0, .ref (kad κ 204)), (1, .int u1), (2, .int 0)]) [1, 2, 0] rfl ?_
    exact LpE_GG (S := (Int32 × Int32 × St)) (F := fun c s => F_X8_faultOf_36 K c16 c s.1 s.2.1 s.2.2) (W := fun s => GG κ 36 [(0, .ref (kad κ 204)), (1, .int s.1), (2, .int s.2.1)] [] s.2.2) (fun c s hcc hp => F_X8_faultOf_36_w C hret s.1 s.2.1  s.2.2 hc16 (fun u1 u2 σ h => hcc (u1, u2, σ) h) hp) hp
def P_X8_faultOf  (σ : St) (K : Int32 → St → Prop) : Prop := ∀ s1 : St, s1 = wI σ 204 14 0 → (((s1.1 204 1) = 0 → (K 0 s1)) ∧ (¬ ((s1.1 204 1) = 0) → (LpE (fun c s => F_X8_faultOf_16 K  c s.1 s.2) (0, s1))))
set_option maxHeartbeats 4000000 in
set_option maxRecDepth 100000 in
theorem m_X8_faultOf (l : Launch) (ad : Nat → Nat) (D : va_G) (ca : Nat → ClassId) (had : adOk ad)   (σ : St) (K : Int32 → St → Prop) (hp : P_X8_faultOf  σ K) : CtI l ad D ca yX8_faultOf cX8_faultOf 3 .int 1 [.ref (ad 204)] σ K := CtI_of (av := fun ad => [.ref (ad 204)]) (plainFor_of_name (by decide)) had (Nat.le_of_ble_eq_true rfl) (fun κ C hret => by
  have C : Ok κ RX8 cX8_faultOf 3 1 := C
  show GG κ 0 [(0, .ref (kad κ 204))] [] σ
  unfold P_X8_faultOf at hp
  refine x_aload_n 0 C rfl (dX8_faultOf_p0 0 rfl) ?_
  refine x_iconst (v := 0) C (by decide) (dX8_faultOf_p0 1 rfl) ?_
  refine qX8_14 C rfl (by decide) tw_762 (dX8_faultOf_p0 2 rfl) ?_
  refine x_nmS (fun s1 es1 => ?_)
  have hp := hp s1 es1
  refine x_iconst (v := 0) C (by decide) (dX8_faultOf_p0 3 rfl) ?_
  refine x_istore_n (loc' := [(1, .int 0), (0, .ref (kad κ 204))]) C rfl (by decide) rfl (dX8_faultOf_p0 4 rfl) ?_
  refine x_aload_n 1 C rfl (dX8_faultOf_p0 5 rfl) ?_
  refine gX8_1 C rfl (by decide) tw_749 (dX8_faultOf_p0 6 rfl) ?_
  refine x_if_ne (tgt := 16) C (dX8_faultOf_p0 7 rfl) (by decide) (fun hc => ?_) (fun hc => ?_)
  · have hp := hp.2 hc
    refine x_loc (loc' := [(0, .ref (kad κ 204)), (1, .int 0)]) [1, 0] rfl ?_
    exact LpE_GG (S := (Int32 × St)) (F := fun c s => F_X8_faultOf_16 K  c s.1 s.2) (W := fun s => GG κ 16 [(0, .ref (kad κ 204)), (1, .int s.1)] [] s.2) (fun c s hcc hp => F_X8_faultOf_16_w C hret s.1  s.2  (fun u1 σ h => hcc (u1, σ) h) hp) hp
  · have hp := hp.1 hc
    refine x_iconst (v := 0) C (by decide) (dX8_faultOf_p0 8 rfl) ?_
    exact hret _ _ _ _ (dX8_faultOf_p0 9 rfl) (nar_i _) hp)
def P_X8_faultPosition  (σ : St) (K : Int32 → St → Prop) : Prop := P_X8_faultOf  σ (fun r2 s1 => K r2 s1)
set_option maxHeartbeats 4000000 in
set_option maxRecDepth 100000 in
theorem m_X8_faultPosition (l : Launch) (ad : Nat → Nat) (D : va_G) (ca : Nat → ClassId) (had : adOk ad)   (σ : St) (K : Int32 → St → Prop) (hp : P_X8_faultPosition  σ K) : CtI l ad D ca yX8_faultPosition cX8_faultPosition 1 .int 2 [.ref (ad 204)] σ K := CtI_of (av := fun ad => [.ref (ad 204)]) (plainFor_of_name (by decide)) had (Nat.le_of_ble_eq_true rfl) (fun κ C hret => by
  have C : Ok κ RX8 cX8_faultPosition 1 2 := C
  show GG κ 0 [(0, .ref (kad κ 204))] [] σ
  unfold P_X8_faultPosition at hp
  refine x_aload_n 0 C rfl (dX8_faultPosition_p0 0 rfl) ?_
  refine x_cvI (As := []) (st := []) C LRX8_119 (ci := 8) rfl rfl (by decide) (by decide) (m_X8_faultOf (kL κ) (kad κ) (kD κ) (kca κ) C.ado   σ _ hp) rfl (by decide) rfl (Nat.le_of_ble_eq_true rfl) (dX8_faultPosition_p0 1 rfl) (fun r2 s1 hp => ?_)
  exact hret _ _ _ _ (dX8_faultPosition_p0 2 rfl) (nar_i _) hp)
def F_X8_risks_55 (K : St → Prop) (c55 : (Int32 × St) → Prop) (u1 : Int32) (u4 : Int32) (σ : St) : Prop := (u1 < u4 → (K σ)) ∧ (¬ (u1 < u4) → vp_in u4 7 ∧ (vp_in u4 7 ∧ ∀ s4 : St, s4 = wI σ 224 (ix u4) (σ.1 219 (ix u4)) → ∀ v5 : Int32, v5 = u4 + 1 → c55 (v5, s4)))
set_option maxHeartbeats 4000000 in
set_option maxRecDepth 100000 in
theorem F_X8_risks_55_w {κ : Kap} {K : St → Prop} {c55 : (Int32 × St) → Prop} (C : Ok κ RX8 cX8_risks 5 0) (hret : RetV κ cX8_risks K) (u1 : Int32) (u4 : Int32)    (σ : St) (hc55 : ∀ (u4 : Int32) (σ : St), c55 (u4, σ) → GG κ 55 [(0, .ref (kad κ 204)), (1, .int u1), (4, .int u4)] [] σ) (hp : F_X8_risks_55 K c55 u1 u4 σ) : GG κ 55 [(0, .ref (kad κ 204)), (1, .int u1), (4, .int u4)] [] σ := by
  unfold F_X8_risks_55 at hp
  refine x_iload 2 C rfl (dX8_risks_p0 33 rfl) ?_
  refine x_iload_n 1 C rfl (dX8_risks_p0 34 rfl) ?_
  refine x_icmp_gt (tgt := 81) C (dX8_risks_p0 35 rfl) (by decide) (fun hc => ?_) (fun hc => ?_)
  · have hp := hp.1 hc
    exact hret _ _ _ (dX8_risks_p0 46 rfl) hp
  · have hp := hp.2 hc
    refine x_aload_n 0 C rfl (dX8_risks_p0 36 rfl) ?_
    refine gX8_30 (b := 224) C rfl (by decide) rfl tw_778 (dX8_risks_p0 37 rfl) ?_
    refine x_iload 2 C rfl (dX8_risks_p0 38 rfl) ?_
    refine x_aload_n 0 C rfl (dX8_risks_p0 39 rfl) ?_
    refine gX8_20 (b := 219) C rfl (by decide) rfl tw_768 (dX8_risks_p0 40 rfl) ?_
    refine x_iload 2 C rfl (dX8_risks_p0 41 rfl) ?_
    obtain ⟨h2, hp⟩ := hp
    refine x_iald C rfl (by decide) h2 (dX8_risks_p0 42 rfl) ?_
    obtain ⟨h3, hp⟩ := hp
    refine x_iast C rfl (by decide) h3 (dX8_risks_p0 43 rfl) ?_
    refine x_nmS (fun s4 es4 => ?_)
    have hp := hp s4 es4
    obtain ⟨v5, ev5⟩ : ∃ z : Int32, z = u4 + 1 := ⟨_, rfl⟩
    have hp := hp v5 ev5
    refine x_iinc (v := v5) (loc' := [(4, .int v5), (0, .ref (kad κ 204)), (1, .int u1)]) 2 C rfl (by rw [ev5]; rfl) (by decide) rfl (dX8_risks_p0 44 rfl) ?_
    refine x_goto (tgt := 55) C (dX8_risks_p0 45 rfl) (by decide) ?_
    refine x_loc (loc' := [(0, .ref (kad κ 204)), (1, .int u1), (4, .int v5)]) [1, 2, 0] rfl ?_
    exact hc55 v5 s4 hp
def F_X8_risks_5 (K : St → Prop) (c5 : (Int64 × Int32 × St) → Prop) (u1 : Int32) (u2 : Int64) (u4 : Int32) (σ : St) : Prop := (u1 < u4 → ((u2 ≤ (σ.2.1 204 29) → (K σ)) ∧ (¬ (u2 ≤ (σ.2.1 204 29)) → ∀ s1 : St, s1 = wL σ 204 29 u2 → (LpE (fun c s => F_X8_risks_55 K  c u1 s.1 s.2) (1, s1))))) ∧ (¬ (u1 < u4) → vp_in u4 7 ∧ (vp_in ((7 * (σ.1 219 (ix u4))) + u4) 49 ∧ (∀ v8 : Int64, v8 = (u2 + (σ.2.1 223 (ix ((7 * (σ.1 219 (ix u4))) + u4)))) → ∀ v9 : Int32, v9 = u4 + 1 → c5 (v8, v9, σ))))
set_option maxHeartbeats 4000000 in
set_option maxRecDepth 100000 in
theorem F_X8_risks_5_w {κ : Kap} {K : St → Prop} {c5 : (Int64 × Int32 × St) → Prop} (C : Ok κ RX8 cX8_risks 5 0) (hret : RetV κ cX8_risks K) (u1 : Int32) (u2 : Int64) (u4 : Int32)     (σ : St) (hc5 : ∀ (u2 : Int64) (u4 : Int32) (σ : St), c5 (u2, u4, σ) → GG κ 5 [(0, .ref (kad κ 204)), (1, .int u1), (2, .long u2), (4, .int u4)] [] σ) (hp : F_X8_risks_5 K c5 u1 u2 u4 σ) : GG κ 5 [(0, .ref (kad κ 204)), (1, .int u1), (2, .long u2), (4, .int u4)] [] σ := by
  unfold F_X8_risks_5 at hp
  refine x_iload 3 C rfl (dX8_risks_p0 4 rfl) ?_
  refine x_iload_n 1 C rfl (dX8_risks_p0 5 rfl) ?_
  refine x_icmp_gt (tgt := 38) C (dX8_risks_p0 6 rfl) (by decide) (fun hc => ?_) (fun hc => ?_)
  · have hp := hp.1 hc
    refine x_lload_n 2 C rfl (dX8_risks_p0 23 rfl) ?_
    refine x_aload_n 0 C rfl (dX8_risks_p0 24 rfl) ?_
    refine gX8_29 C rfl (by decide) tw_777 (dX8_risks_p0 25 rfl) ?_
    refine x_lcmp C (dX8_risks_p0 26 rfl) ?_
    refine x_if_le (tgt := 81) C (dX8_risks_p0 27 rfl) (by decide) (fun hc => ?_) (fun hc => ?_)
    · have hp := hp.1 (lgc_le.mp hc)
      exact hret _ _ _ (dX8_risks_p0 46 rfl) hp
    · have hp := hp.2 (fun q => hc (lgc_le.mpr q))
      refine x_aload_n 0 C rfl (dX8_risks_p0 28 rfl) ?_
      refine x_lload_n 2 C rfl (dX8_risks_p0 29 rfl) ?_
      refine qX8_29 C rfl (by decide) tw_777 (dX8_risks_p0 30 rfl) ?_
      refine x_nmS (fun s1 es1 => ?_)
      have hp := hp s1 es1
      refine x_iconst (v := 1) C (by decide) (dX8_risks_p0 31 rfl) ?_
      refine x_istore (loc' := [(4, .int 1), (0, .ref (kad κ 204)), (1, .int u1), (2, .long u2)]) C (by decide) rfl (dX8_risks_p0 32 rfl) ?_
      refine x_loc (loc' := [(0, .ref (kad κ 204)), (1, .int u1), (4, .int 1)]) [1, 2, 0] rfl ?_
      exact LpE_GG (S := (Int32 × St)) (F := fun c s => F_X8_risks_55 K  c u1 s.1 s.2) (W := fun s => GG κ 55 [(0, .ref (kad κ 204)), (1, .int u1), (4, .int s.1)] [] s.2) (fun c s hcc hp => F_X8_risks_55_w C hret u1 s.1  s.2  (fun u4 σ h => hcc (u4, σ) h) hp) hp
  · have hp := hp.2 hc
    refine x_lload_n 2 C rfl (dX8_risks_p0 7 rfl) ?_
    refine x_aload_n 0 C rfl (dX8_risks_p0 8 rfl) ?_
    refine gX8_27 (b := 223) C rfl (by decide) rfl tw_775 (dX8_risks_p0 9 rfl) ?_
    refine x_bipush (v := 7) C (by decide) (dX8_risks_p0 10 rfl) ?_
    refine x_aload_n 0 C rfl (dX8_risks_p0 11 rfl) ?_
    refine gX8_20 (b := 219) C rfl (by decide) rfl tw_768 (dX8_risks_p0 12 rfl) ?_
    refine x_iload 3 C rfl (dX8_risks_p0 13 rfl) ?_
    obtain ⟨h6, hp⟩ := hp
    refine x_iald C rfl (by decide) h6 (dX8_risks_p0 14 rfl) ?_
    refine x_imul C (dX8_risks_p0 15 rfl) ?_
    refine x_iload 3 C rfl (dX8_risks_p0 16 rfl) ?_
    refine x_iadd C (dX8_risks_p0 17 rfl) ?_
    obtain ⟨h7, hp⟩ := hp
    refine x_lald C rfl (by decide) h7 (dX8_risks_p0 18 rfl) ?_
    refine x_ladd C (dX8_risks_p0 19 rfl) ?_
    refine x_topL (fun v8 ev8 => ?_)
    have hp := hp v8 ev8
    refine x_lstore_n (loc' := [(2, .long v8), (0, .ref (kad κ 204)), (1, .int u1), (4, .int u4)]) C rfl (by decide) rfl (dX8_risks_p0 20 rfl) ?_
    obtain ⟨v9, ev9⟩ : ∃ z : Int32, z = u4 + 1 := ⟨_, rfl⟩
    have hp := hp v9 ev9
    refine x_iinc (v := v9) (loc' := [(4, .int v9), (2, .long v8), (0, .ref (kad κ 204)), (1, .int u1)]) 3 C rfl (by rw [ev9]; rfl) (by decide) rfl (dX8_risks_p0 21 rfl) ?_
    refine x_goto (tgt := 5) C (dX8_risks_p0 22 rfl) (by decide) ?_
    refine x_loc (loc' := [(0, .ref (kad κ 204)), (1, .int u1), (2, .long v8), (4, .int v9)]) [2, 3, 1, 0] rfl ?_
    exact hc5 v8 v9 σ hp
def P_X8_risks (p1 : Int32) (σ : St) (K : St → Prop) : Prop := LpE (fun c s => F_X8_risks_5 K  c p1 s.1 s.2.1 s.2.2) (0, 1, σ)
set_option maxHeartbeats 4000000 in
set_option maxRecDepth 100000 in
theorem m_X8_risks (l : Launch) (ad : Nat → Nat) (D : va_G) (ca : Nat → ClassId) (had : adOk ad) (p1 : Int32)  (σ : St) (K : St → Prop) (hp : P_X8_risks p1 σ K) : CtV l ad D ca yX8_risks cX8_risks 5 0 [.ref (ad 204), .int p1] σ K := CtV_of (av := fun ad => [.ref (ad 204), .int p1]) (plainFor_of_name (by decide)) had (Nat.le_of_ble_eq_true rfl) (fun κ C hret => by
  have C : Ok κ RX8 cX8_risks 5 0 := C
  show GG κ 0 [(0, .ref (kad κ 204)), (1, .int p1)] [] σ
  unfold P_X8_risks at hp
  refine x_lconst (v := 0) C (by decide) (dX8_risks_p0 0 rfl) ?_
  refine x_lstore_n (loc' := [(2, .long 0), (0, .ref (kad κ 204)), (1, .int p1)]) C rfl (by decide) rfl (dX8_risks_p0 1 rfl) ?_
  refine x_iconst (v := 1) C (by decide) (dX8_risks_p0 2 rfl) ?_
  refine x_istore (loc' := [(4, .int 1), (2, .long 0), (0, .ref (kad κ 204)), (1, .int p1)]) C (by decide) rfl (dX8_risks_p0 3 rfl) ?_
  refine x_loc (loc' := [(0, .ref (kad κ 204)), (1, .int p1), (2, .long 0), (4, .int 1)]) [2, 3, 1, 0] rfl ?_
  exact LpE_GG (S := (Int64 × Int32 × St)) (F := fun c s => F_X8_risks_5 K  c p1 s.1 s.2.1 s.2.2) (W := fun s => GG κ 5 [(0, .ref (kad κ 204)), (1, .int p1), (2, .long s.1), (4, .int s.2.1)] [] s.2.2) (fun c s hcc hp => F_X8_risks_5_w C hret p1 s.1 s.2.1  s.2.2  (fun u2 u4 σ h => hcc (u2, u4, σ) h) hp) hp)
def J_X8_looksForRisk_28 (K : St → Prop) (c6 : (Int32 × St) → Prop) (u1 : Int32) (σ : St) : Prop := vp_in u1 4 ∧ (P_X8_steps (σ.1 206 (ix u1)) σ (fun r6 s5 => c6 (r6, s5)))
set_option maxHeartbeats 4000000 in
set_option maxRecDepth 100000 in
theorem J_X8_looksForRisk_28_w {κ : Kap} {K : St → Prop} {c6 : (Int32 × St) → Prop} (C : Ok κ RX8 cX8_looksForRisk 3 3) (hret : RetV κ cX8_looksForRisk K) (u1 : Int32)   (σ : St) (hc6 : ∀ (u2 : Int32) (σ : St), c6 (u2, σ) → GG κ 6 [(0, .ref (kad κ 204)), (1, .int u1), (2, .int u2)] [] σ) (hp : J_X8_looksForRisk_28 K c6 u1 σ) : GG κ 28 [(0, .ref (kad κ 204)), (1, .int u1)] [] σ := by
  unfold J_X8_looksForRisk_28 at hp
  refine x_aload_n 0 C rfl (dX8_looksForRisk_p0 16 rfl) ?_
  refine x_aload_n 0 C rfl (dX8_looksForRisk_p0 17 rfl) ?_
  refine gX8_3 (b := 206) C rfl (by decide) rfl tw_751 (dX8_looksForRisk_p0 18 rfl) ?_
  refine x_iload_n 1 C rfl (dX8_looksForRisk_p0 19 rfl) ?_
  obtain ⟨h4, hp⟩ := hp
  refine x_iald C rfl (by decide) h4 (dX8_looksForRisk_p0 20 rfl) ?_
  refine x_cvI (As := [.int (σ.1 206 (ix u1))]) (st := []) C LRX8_220 (ci := 8) rfl rfl (by decide) (by decide) (m_X8_steps (kL κ) (kad κ) (kD κ) (kca κ) C.ado (σ.1 206 (ix u1))  σ _ hp) rfl (by decide) rfl (Nat.le_of_ble_eq_true rfl) (dX8_looksForRisk_p0 21 rfl) (fun r6 s5 hp => ?_)
  refine x_istore_n (loc' := [(2, .int r6), (0, .ref (kad κ 204)), (1, .int u1)]) C rfl (by decide) rfl (dX8_looksForRisk_p0 22 rfl) ?_
  refine x_goto (tgt := 6) C (dX8_looksForRisk_p0 23 rfl) (by decide) ?_
  refine x_loc (loc' := [(0, .ref (kad κ 204)), (1, .int u1), (2, .int r6)]) [1, 2, 0] rfl ?_
  exact hc6 r6 s5 hp
def F_X8_looksForRisk_6 (K : St → Prop) (c6 : (Int32 × St) → Prop) (u1 : Int32) (u2 : Int32) (σ : St) : Prop := (u2 = 0 → (K σ)) ∧ (¬ (u2 = 0) → P_X8_isAdmissible u1 σ (fun r3 s2 => (r3 = 0 → (J_X8_looksForRisk_28 K c6 u1 s2)) ∧ (¬ (r3 = 0) → vp_in u1 4 ∧ (P_X8_risks (s2.1 206 (ix u1)) s2 (fun s8 => J_X8_looksForRisk_28 K c6 u1 s8)))))
set_option maxHeartbeats 4000000 in
set_option maxRecDepth 100000 in
theorem F_X8_looksForRisk_6_w {κ : Kap} {K : St → Prop} {c6 : (Int32 × St) → Prop} (C : Ok κ RX8 cX8_looksForRisk 3 3) (hret : RetV κ cX8_looksForRisk K) (u1 : Int32) (u2 : Int32)    (σ : St) (hc6 : ∀ (u2 : Int32) (σ : St), c6 (u2, σ) → GG κ 6 [(0, .ref (kad κ 204)), (1, .int u1), (2, .int u2)] [] σ) (hp : F_X8_looksForRisk_6 K c6 u1 u2 σ) : GG κ 6 [(0, .ref (kad κ 204)), (1, .int u1), (2, .int u2)] [] σ := by
  unfold F_X8_looksForRisk_6 at hp
  refine x_iload_n 2 C rfl (dX8_looksForRisk_p0 4 rfl) ?_
  refine x_if_eq (tgt := 42) C (dX8_looksForRisk_p0 5 rfl) (by decide) (fun hc => ?_) (fun hc => ?_)
  · have hp := hp.1 hc
    exact hret _ _ _ (dX8_looksForRisk_p0 24 rfl) hp
  · have hp := hp.2 hc
    refine x_aload_n 0 C rfl (dX8_looksForRisk_p0 6 rfl) ?_
    refine x_iload_n 1 C rfl (dX8_looksForRisk_p0 7 rfl) ?_
    refine x_cvI (As := [.int u1]) (st := []) C LRX8_214 (ci := 8) rfl rfl (by decide) (by decide) (m_X8_isAdmissible (kL κ) (kad κ) (kD κ) (kca κ) C.ado u1  σ _ hp) rfl (by decide) rfl (Nat.le_of_ble_eq_true rfl) (dX8_looksForRisk_p0 8 rfl) (fun r3 s2 hp => ?_)
    refine x_if_eq (tgt := 28) C (dX8_looksForRisk_p0 9 rfl) (by decide) (fun hc => ?_) (fun hc => ?_)
    · have hp := hp.1 hc
      refine x_loc (loc' := [(0, .ref (kad κ 204)), (1, .int u1)]) [0, 1] rfl ?_
      exact J_X8_looksForRisk_28_w C hret u1  s2 hc6 hp
    · have hp := hp.2 hc
      refine x_aload_n 0 C rfl (dX8_looksForRisk_p0 10 rfl) ?_
      refine x_aload_n 0 C rfl (dX8_looksForRisk_p0 11 rfl) ?_
      refine gX8_3 (b := 206) C rfl (by decide) rfl tw_751 (dX8_looksForRisk_p0 12 rfl) ?_
      refine x_iload_n 1 C rfl (dX8_looksForRisk_p0 13 rfl) ?_
      obtain ⟨h7, hp⟩ := hp
      refine x_iald C rfl (by decide) h7 (dX8_looksForRisk_p0 14 rfl) ?_
      refine x_cvV (As := [.int (s2.1 206 (ix u1))]) (st := []) C LRX8_223 (ci := 8) rfl rfl (by decide) (by decide) (m_X8_risks (kL κ) (kad κ) (kD κ) (kca κ) C.ado (s2.1 206 (ix u1))  s2 _ hp) rfl (by decide) rfl (Nat.le_of_ble_eq_true rfl) (dX8_looksForRisk_p0 15 rfl) (fun s8 hp => ?_)
      refine x_loc (loc' := [(0, .ref (kad κ 204)), (1, .int u1)]) [0, 1] rfl ?_
      exact J_X8_looksForRisk_28_w C hret u1  s8 hc6 hp
def P_X8_looksForRisk (p1 : Int32) (σ : St) (K : St → Prop) : Prop := P_X8_begins  σ (fun s1 => LpE (fun c s => F_X8_looksForRisk_6 K  c p1 s.1 s.2) (1, s1))
set_option maxHeartbeats 4000000 in
set_option maxRecDepth 100000 in
theorem m_X8_looksForRisk (l : Launch) (ad : Nat → Nat) (D : va_G) (ca : Nat → ClassId) (had : adOk ad) (p1 : Int32)  (σ : St) (K : St → Prop) (hp : P_X8_looksForRisk p1 σ K) : CtV l ad D ca yX8_looksForRisk cX8_looksForRisk 3 3 [.ref (ad 204), .int p1] σ K := CtV_of (av := fun ad => [.ref (ad 204), .int p1]) (plainFor_of_name (by decide)) had (Nat.le_of_ble_eq_true rfl) (fun κ C hret => by
  have C : Ok κ RX8 cX8_looksForRisk 3 3 := C
  show GG κ 0 [(0, .ref (kad κ 204)), (1, .int p1)] [] σ
  unfold P_X8_looksForRisk at hp
  refine x_aload_n 0 C rfl (dX8_looksForRisk_p0 0 rfl) ?_
  refine x_cvV (As := []) (st := []) C LRX8_212 (ci := 8) rfl rfl (by decide) (by decide) (m_X8_begins (kL κ) (kad κ) (kD κ) (kca κ) C.ado   σ _ hp) rfl (by decide) rfl (Nat.le_of_ble_eq_true rfl) (dX8_looksForRisk_p0 1 rfl) (fun s1 hp => ?_)
  refine x_iconst (v := 1) C (by decide) (dX8_looksForRisk_p0 2 rfl) ?_
  refine x_istore_n (loc' := [(2, .int 1), (0, .ref (kad κ 204)), (1, .int p1)]) C rfl (by decide) rfl (dX8_looksForRisk_p0 3 rfl) ?_
  refine x_loc (loc' := [(0, .ref (kad κ 204)), (1, .int p1), (2, .int 1)]) [1, 2, 0] rfl ?_
  exact LpE_GG (S := (Int32 × St)) (F := fun c s => F_X8_looksForRisk_6 K  c p1 s.1 s.2) (W := fun s => GG κ 6 [(0, .ref (kad κ 204)), (1, .int p1), (2, .int s.1)] [] s.2) (fun c s hcc hp => F_X8_looksForRisk_6_w C hret p1 s.1  s.2  (fun u2 σ h => hcc (u2, σ) h) hp) hp)
def F_X8_margin_32 (K : Int32 → St → Prop) (c32 : (Int32 × Int32 × St) → Prop) (u1 : Int32) (u2 : Int32) (u3 : Int32) (σ : St) : Prop := vp_in u1 4 ∧ (((σ.1 206 (ix u1)) < u3 → (K (u2 - (σ.1 204 28)) σ)) ∧ (¬ ((σ.1 206 (ix u1)) < u3) → P_X8_word u1 u3 σ (fun r6 s5 => vp_in r6 28 ∧ (vp_in ((7 * (s5.1 208 (ix r6))) + u3) 49 ∧ (∀ v9 : Int32, v9 = (u2 + (s5.1 217 (ix ((7 * (s5.1 208 (ix r6))) + u3)))) → ∀ v10 : Int32, v10 = u3 + 1 → c32 (v9, v10, s5))))))
set_option maxHeartbeats 4000000 in
set_option maxRecDepth 100000 in
theorem F_X8_margin_32_w {κ : Kap} {K : Int32 → St → Prop} {c32 : (Int32 × Int32 × St) → Prop} (C : Ok κ RX8 cX8_margin 4 6) (hret : RetI κ cX8_margin .int K) (u1 : Int32) (u2 : Int32) (u3 : Int32)     (σ : St) (hc32 : ∀ (u2 : Int32) (u3 : Int32) (σ : St), c32 (u2, u3, σ) → GG κ 32 [(0, .ref (kad κ 204)), (1, .int u1), (2, .int u2), (3, .int u3)] [] σ) (hp : F_X8_margin_32 K c32 u1 u2 u3 σ) : GG κ 32 [(0, .ref (kad κ 204)), (1, .int u1), (2, .int u2), (3, .int u3)] [] σ := by
  unfold F_X8_margin_32 at hp
  refine x_iload_n 3 C rfl (dX8_margin_p0 19 rfl) ?_
  refine x_aload_n 0 C rfl (dX8_margin_p0 20 rfl) ?_
  refine gX8_3 (b := 206) C rfl (by decide) rfl tw_751 (dX8_margin_p0 21 rfl) ?_
  refine x_iload_n 1 C rfl (dX8_margin_p0 22 rfl) ?_
  obtain ⟨h4, hp⟩ := hp
  refine x_iald C rfl (by decide) h4 (dX8_margin_p0 23 rfl) ?_
  refine x_icmp_gt (tgt := 71) C (dX8_margin_p0 24 rfl) (by decide) (fun hc => ?_) (fun hc => ?_)
  · have hp := hp.1 hc
    refine x_iload_n 2 C rfl (dX8_margin_p0 43 rfl) ?_
    refine x_aload_n 0 C rfl (dX8_margin_p0 44 rfl) ?_
    refine gX8_28 C rfl (by decide) tw_776 (dX8_margin_p0 45 rfl) ?_
    refine x_isub C (dX8_margin_p0 46 rfl) ?_
    exact hret _ _ _ _ (dX8_margin_p0 47 rfl) (nar_i _) hp
  · have hp := hp.2 hc
    refine x_iload_n 2 C rfl (dX8_margin_p0 25 rfl) ?_
    refine x_aload_n 0 C rfl (dX8_margin_p0 26 rfl) ?_
    refine gX8_18 (b := 217) C rfl (by decide) rfl tw_766 (dX8_margin_p0 27 rfl) ?_
    refine x_bipush (v := 7) C (by decide) (dX8_margin_p0 28 rfl) ?_
    refine x_aload_n 0 C rfl (dX8_margin_p0 29 rfl) ?_
    refine gX8_5 (b := 208) C rfl (by decide) rfl tw_753 (dX8_margin_p0 30 rfl) ?_
    refine x_iload_n 1 C rfl (dX8_margin_p0 31 rfl) ?_
    refine x_iload_n 3 C rfl (dX8_margin_p0 32 rfl) ?_
    refine x_csI (As := [.int u1, .int u3]) (st := [.ref (kad κ 208), .int 7, .ref (kad κ 217), .int u2]) C LRX8_124 (m_X8_word (kL κ) (kad κ) (kD κ) (kca κ) C.ado u1 u3  σ _ hp) rfl (by decide) rfl (Nat.le_of_ble_eq_true rfl) (dX8_margin_p0 33 rfl) (fun r6 s5 hp => ?_)
    obtain ⟨h7, hp⟩ := hp
    refine x_iald C rfl (by decide) h7 (dX8_margin_p0 34 rfl) ?_
    refine x_imul C (dX8_margin_p0 35 rfl) ?_
    refine x_iload_n 3 C rfl (dX8_margin_p0 36 rfl) ?_
    refine x_iadd C (dX8_margin_p0 37 rfl) ?_
    obtain ⟨h8, hp⟩ := hp
    refine x_iald C rfl (by decide) h8 (dX8_margin_p0 38 rfl) ?_
    refine x_iadd C (dX8_margin_p0 39 rfl) ?_
    refine x_topI (fun v9 ev9 => ?_)
    have hp := hp v9 ev9
    refine x_istore_n (loc' := [(2, .int v9), (0, .ref (kad κ 204)), (1, .int u1), (3, .int u3)]) C rfl (by decide) rfl (dX8_margin_p0 40 rfl) ?_
    obtain ⟨v10, ev10⟩ : ∃ z : Int32, z = u3 + 1 := ⟨_, rfl⟩
    have hp := hp v10 ev10
    refine x_iinc (v := v10) (loc' := [(3, .int v10), (2, .int v9), (0, .ref (kad κ 204)), (1, .int u1)]) 3 C rfl (by rw [ev10]; rfl) (by decide) rfl (dX8_margin_p0 41 rfl) ?_
    refine x_goto (tgt := 32) C (dX8_margin_p0 42 rfl) (by decide) ?_
    refine x_loc (loc' := [(0, .ref (kad κ 204)), (1, .int u1), (2, .int v9), (3, .int v10)]) [2, 3, 1, 0] rfl ?_
    exact hc32 v9 v10 s5 hp
def P_X8_margin (p1 : Int32) (σ : St) (K : Int32 → St → Prop) : Prop := P_X8_isSentence p1 σ (fun r2 s1 => (r2 = 0 → (K (-1000001) s1)) ∧ (¬ (r2 = 0) → P_X8_looks p1 s1 (fun s3 => ((s3.1 204 28) = (-100000000) → (K (-1000004) s3)) ∧ (¬ ((s3.1 204 28) = (-100000000)) → (LpE (fun c s => F_X8_margin_32 K  c p1 s.1 s.2.1 s.2.2) (0, 1, s3))))))
set_option maxHeartbeats 4000000 in
set_option maxRecDepth 100000 in
theorem m_X8_margin (l : Launch) (ad : Nat → Nat) (D : va_G) (ca : Nat → ClassId) (had : adOk ad) (p1 : Int32)  (σ : St) (K : Int32 → St → Prop) (hp : P_X8_margin p1 σ K) : CtI l ad D ca yX8_margin cX8_margin 4 .int 6 [.ref (ad 204), .int p1] σ K := CtI_of (av := fun ad => [.ref (ad 204), .int p1]) (plainFor_of_name (by decide)) had (Nat.le_of_ble_eq_true rfl) (fun κ C hret => by
  have C : Ok κ RX8 cX8_margin 4 6 := C
  show GG κ 0 [(0, .ref (kad κ 204)), (1, .int p1)] [] σ
  unfold P_X8_margin at hp
  refine x_aload_n 0 C rfl (dX8_margin_p0 0 rfl) ?_
  refine x_iload_n 1 C rfl (dX8_margin_p0 1 rfl) ?_
  refine x_cvI (As := [.int p1]) (st := []) C LRX8_98 (ci := 8) rfl rfl (by decide) (by decide) (m_X8_isSentence (kL κ) (kad κ) (kD κ) (kca κ) C.ado p1  σ _ hp) rfl (by decide) rfl (Nat.le_of_ble_eq_true rfl) (dX8_margin_p0 2 rfl) (fun r2 s1 hp => ?_)
  refine x_if_ne (tgt := 11) C (dX8_margin_p0 3 rfl) (by decide) (fun hc => ?_) (fun hc => ?_)
  · have hp := hp.2 hc
    refine x_aload_n 0 C rfl (dX8_margin_p0 6 rfl) ?_
    refine x_iload_n 1 C rfl (dX8_margin_p0 7 rfl) ?_
    refine x_cvV (As := [.int p1]) (st := []) C LRX8_226 (ci := 8) rfl rfl (by decide) (by decide) (m_X8_looks (kL κ) (kad κ) (kD κ) (kca κ) C.ado p1  s1 _ hp) rfl (by decide) rfl (Nat.le_of_ble_eq_true rfl) (dX8_margin_p0 8 rfl) (fun s3 hp => ?_)
    refine x_aload_n 0 C rfl (dX8_margin_p0 9 rfl) ?_
    refine gX8_28 C rfl (by decide) tw_776 (dX8_margin_p0 10 rfl) ?_
    refine x_ldc C tw_1025 (dX8_margin_p0 11 rfl) ?_
    refine x_icmp_ne (tgt := 28) C (dX8_margin_p0 12 rfl) (by decide) (fun hc => ?_) (fun hc => ?_)
    · have hp := hp.2 hc
      refine x_iconst (v := 0) C (by decide) (dX8_margin_p0 15 rfl) ?_
      refine x_istore_n (loc' := [(2, .int 0), (0, .ref (kad κ 204)), (1, .int p1)]) C rfl (by decide) rfl (dX8_margin_p0 16 rfl) ?_
      refine x_iconst (v := 1) C (by decide) (dX8_margin_p0 17 rfl) ?_
      refine x_istore_n (loc' := [(3, .int 1), (2, .int 0), (0, .ref (kad κ 204)), (1, .int p1)]) C rfl (by decide) rfl (dX8_margin_p0 18 rfl) ?_
      refine x_loc (loc' := [(0, .ref (kad κ 204)), (1, .int p1), (2, .int 0), (3, .int 1)]) [2, 3, 1, 0] rfl ?_
      exact LpE_GG (S := (Int32 × Int32 × St)) (F := fun c s => F_X8_margin_32 K  c p1 s.1 s.2.1 s.2.2) (W := fun s => GG κ 32 [(0, .ref (kad κ 204)), (1, .int p1), (2, .int s.1), (3, .int s.2.1)] [] s.2.2) (fun c s hcc hp => F_X8_margin_32_w C hret p1 s.1 s.2.1  s.2.2  (fun u2 u3 σ h => hcc (u2, u3, σ) h) hp) hp
    · have hp := hp.1 hc
      refine x_ldc C tw_893 (dX8_margin_p0 13 rfl) ?_
      exact hret _ _ _ _ (dX8_margin_p0 14 rfl) (nar_i _) hp
  · have hp := hp.1 hc
    refine x_ldc C tw_910 (dX8_margin_p0 4 rfl) ?_
    exact hret _ _ _ _ (dX8_margin_p0 5 rfl) (nar_i _) hp)
def P_X8_projectiveOrder (p1 : Int32) (p2 : Int32) (σ : St) (K : Int32 → St → Prop) : Prop := P_X8_isSentence p1 σ (fun r2 s1 => (r2 = 0 → (K (-1000001) s1)) ∧ (¬ (r2 = 0) → vp_in p1 4 ∧ (P_X8_in p2 0 ((s1.1 206 (ix p1)) - 1) s1 (fun r5 s4 => (r5 = 0 → (K (-1000001) s4)) ∧ (¬ (r5 = 0) → P_X8_orders p1 s4 (fun s6 => ((s6.1 226 (ix 0)) ≤ p2 → (vp_in (p2 + 1) 7 ∧ (K (s6.1 225 (ix (p2 + 1))) s6))) ∧ (¬ ((s6.1 226 (ix 0)) ≤ p2) → vp_in p2 7 ∧ (K (s6.1 225 (ix p2)) s6))))))))
set_option maxHeartbeats 4000000 in
set_option maxRecDepth 100000 in
theorem m_X8_projectiveOrder (l : Launch) (ad : Nat → Nat) (D : va_G) (ca : Nat → ClassId) (had : adOk ad) (p1 : Int32) (p2 : Int32)  (σ : St) (K : Int32 → St → Prop) (hp : P_X8_projectiveOrder p1 p2 σ K) : CtI l ad D ca yX8_projectiveOrder cX8_projectiveOrder 3 .int 2 [.ref (ad 204), .int p1, .int p2] σ K := CtI_of (av := fun ad => [.ref (ad 204), .int p1, .int p2]) (plainFor_of_name (by decide)) had (Nat.le_of_ble_eq_true rfl) (fun κ C hret => by
  have C : Ok κ RX8 cX8_projectiveOrder 3 2 := C
  show GG κ 0 [(0, .ref (kad κ 204)), (1, .int p1), (2, .int p2)] [] σ
  unfold P_X8_projectiveOrder at hp
  refine x_aload_n 0 C rfl (dX8_projectiveOrder_p0 0 rfl) ?_
  refine x_iload_n 1 C rfl (dX8_projectiveOrder_p0 1 rfl) ?_
  refine x_cvI (As := [.int p1]) (st := []) C LRX8_98 (ci := 8) rfl rfl (by decide) (by decide) (m_X8_isSentence (kL κ) (kad κ) (kD κ) (kca κ) C.ado p1  σ _ hp) rfl (by decide) rfl (Nat.le_of_ble_eq_true rfl) (dX8_projectiveOrder_p0 2 rfl) (fun r2 s1 hp => ?_)
  refine x_if_eq (tgt := 24) C (dX8_projectiveOrder_p0 3 rfl) (by decide) (fun hc => ?_) (fun hc => ?_)
  · have hp := hp.1 hc
    refine x_ldc C tw_910 (dX8_projectiveOrder_p0 14 rfl) ?_
    exact hret _ _ _ _ (dX8_projectiveOrder_p0 15 rfl) (nar_i _) hp
  · have hp := hp.2 hc
    refine x_iload_n 2 C rfl (dX8_projectiveOrder_p0 4 rfl) ?_
    refine x_iconst (v := 0) C (by decide) (dX8_projectiveOrder_p0 5 rfl) ?_
    refine x_aload_n 0 C rfl (dX8_projectiveOrder_p0 6 rfl) ?_
    refine gX8_3 (b := 206) C rfl (by decide) rfl tw_751 (dX8_projectiveOrder_p0 7 rfl) ?_
    refine x_iload_n 1 C rfl (dX8_projectiveOrder_p0 8 rfl) ?_
    obtain ⟨h3, hp⟩ := hp
    refine x_iald C rfl (by decide) h3 (dX8_projectiveOrder_p0 9 rfl) ?_
    refine x_iconst (v := 1) C (by decide) (dX8_projectiveOrder_p0 10 rfl) ?_
    refine x_isub C (dX8_projectiveOrder_p0 11 rfl) ?_
    refine x_csI (As := [.int p2, .int 0, .int ((s1.1 206 (ix p1)) - 1)]) (st := []) C LRX8_94 (m_X8_in (kL κ) (kad κ) (kD κ) (kca κ) C.ado p2 0 ((s1.1 206 (ix p1)) - 1)  s1 _ hp) rfl (by decide) rfl (Nat.le_of_ble_eq_true rfl) (dX8_projectiveOrder_p0 12 rfl) (fun r5 s4 hp => ?_)
    refine x_if_ne (tgt := 27) C (dX8_projectiveOrder_p0 13 rfl) (by decide) (fun hc => ?_) (fun hc => ?_)
    · have hp := hp.2 hc
      refine x_aload_n 0 C rfl (dX8_projectiveOrder_p0 16 rfl) ?_
      refine x_iload_n 1 C rfl (dX8_projectiveOrder_p0 17 rfl) ?_
      refine x_cvV (As := [.int p1]) (st := []) C LRX8_246 (ci := 8) rfl rfl (by decide) (by decide) (m_X8_orders (kL κ) (kad κ) (kD κ) (kca κ) C.ado p1  s4 _ hp) rfl (by decide) rfl (Nat.le_of_ble_eq_true rfl) (dX8_projectiveOrder_p0 18 rfl) (fun s6 hp => ?_)
      refine x_aload_n 0 C rfl (dX8_projectiveOrder_p0 19 rfl) ?_
      refine gX8_31 (b := 225) C rfl (by decide) rfl tw_779 (dX8_projectiveOrder_p0 20 rfl) ?_
      refine x_iload_n 2 C rfl (dX8_projectiveOrder_p0 21 rfl) ?_
      refine x_aload_n 0 C rfl (dX8_projectiveOrder_p0 22 rfl) ?_
      refine gX8_32 (b := 226) C rfl (by decide) rfl tw_780 (dX8_projectiveOrder_p0 23 rfl) ?_
      refine x_iconst (v := 0) C (by decide) (dX8_projectiveOrder_p0 24 rfl) ?_
      refine x_iald C rfl (by decide) (vp_lit (by decide) (by decide)) (dX8_projectiveOrder_p0 25 rfl) ?_
      refine x_icmp_ge (tgt := 50) C (dX8_projectiveOrder_p0 26 rfl) (by decide) (fun hc => ?_) (fun hc => ?_)
      · have hp := hp.1 hc
        refine x_iload_n 2 C rfl (dX8_projectiveOrder_p0 29 rfl) ?_
        refine x_iconst (v := 1) C (by decide) (dX8_projectiveOrder_p0 30 rfl) ?_
        refine x_iadd C (dX8_projectiveOrder_p0 31 rfl) ?_
        obtain ⟨h7, hp⟩ := hp
        refine x_iald C rfl (by decide) h7 (dX8_projectiveOrder_p0 32 rfl) ?_
        exact hret _ _ _ _ (dX8_projectiveOrder_p0 33 rfl) (nar_i _) hp
      · have hp := hp.2 hc
        refine x_iload_n 2 C rfl (dX8_projectiveOrder_p0 27 rfl) ?_
        refine x_goto (tgt := 53) C (dX8_projectiveOrder_p0 28 rfl) (by decide) ?_
        obtain ⟨h8, hp⟩ := hp
        refine x_iald C rfl (by decide) h8 (dX8_projectiveOrder_p0 32 rfl) ?_
        exact hret _ _ _ _ (dX8_projectiveOrder_p0 33 rfl) (nar_i _) hp
    · have hp := hp.1 hc
      refine x_ldc C tw_910 (dX8_projectiveOrder_p0 14 rfl) ?_
      exact hret _ _ _ _ (dX8_projectiveOrder_p0 15 rfl) (nar_i _) hp)
def P_X8_rankedHead (p1 : Int32) (p2 : Int32) (p3 : Int32) (σ : St) (K : Int32 → St → Prop) : Prop := P_X8_isWord p1 p3 σ (fun r2 s1 => (r2 = 0 → (K (-1000001) s1)) ∧ (¬ (r2 = 0) → P_X8_in p2 0 5 s1 (fun r4 s3 => (r4 = 0 → (K (-1000002) s3)) ∧ (¬ (r4 = 0) → P_X8_looks p1 s3 (fun s5 => ((s5.1 204 21) ≤ p2 → (K (-1000004) s5)) ∧ (¬ ((s5.1 204 21) ≤ p2) → (vp_in ((7 * p2) + p3) 49 ∧ (K (s5.1 221 (ix ((7 * p2) + p3))) s5))))))))
set_option maxHeartbeats 4000000 in
set_option maxRecDepth 100000 in
theorem m_X8_rankedHead (l : Launch) (ad : Nat → Nat) (D : va_G) (ca : Nat → ClassId) (had : adOk ad) (p1 : Int32) (p2 : Int32) (p3 : Int32)  (σ : St) (K : Int32 → St → Prop) (hp : P_X8_rankedHead p1 p2 p3 σ K) : CtI l ad D ca yX8_rankedHead cX8_rankedHead 4 .int 6 [.ref (ad 204), .int p1, .int p2, .int p3] σ K := CtI_of (av := fun ad => [.ref (ad 204), .int p1, .int p2, .int p3]) (plainFor_of_name (by decide)) had (Nat.le_of_ble_eq_true rfl) (fun κ C hret => by
  have C : Ok κ RX8 cX8_rankedHead 4 6 := C
  show GG κ 0 [(0, .ref (kad κ 204)), (1, .int p1), (2, .int p2), (3, .int p3)] [] σ
  unfold P_X8_rankedHead at hp
  refine x_aload_n 0 C rfl (dX8_rankedHead_p0 0 rfl) ?_
  refine x_iload_n 1 C rfl (dX8_rankedHead_p0 1 rfl) ?_
  refine x_iload_n 3 C rfl (dX8_rankedHead_p0 2 rfl) ?_
  refine x_cvI (As := [.int p1, .int p3]) (st := []) C LRX8_102 (ci := 8) rfl rfl (by decide) (by decide) (m_X8_isWord (kL κ) (kad κ) (kD κ) (kca κ) C.ado p1 p3  σ _ hp) rfl (by decide) rfl (Nat.le_of_ble_eq_true rfl) (dX8_rankedHead_p0 3 rfl) (fun r2 s1 hp => ?_)
  refine x_if_ne (tgt := 12) C (dX8_rankedHead_p0 4 rfl) (by decide) (fun hc => ?_) (fun hc => ?_)
  · have hp := hp.2 hc
    refine x_iload_n 2 C rfl (dX8_rankedHead_p0 7 rfl) ?_
    refine x_iconst (v := 0) C (by decide) (dX8_rankedHead_p0 8 rfl) ?_
    refine x_iconst (v := 5) C (by decide) (dX8_rankedHead_p0 9 rfl) ?_
    refine x_csI (As := [.int p2, .int 0, .int 5]) (st := []) C LRX8_94 (m_X8_in (kL κ) (kad κ) (kD κ) (kca κ) C.ado p2 0 5  s1 _ hp) rfl (by decide) rfl (Nat.le_of_ble_eq_true rfl) (dX8_rankedHead_p0 10 rfl) (fun r4 s3 hp => ?_)
    refine x_if_ne (tgt := 24) C (dX8_rankedHead_p0 11 rfl) (by decide) (fun hc => ?_) (fun hc => ?_)
    · have hp := hp.2 hc
      refine x_aload_n 0 C rfl (dX8_rankedHead_p0 14 rfl) ?_
      refine x_iload_n 1 C rfl (dX8_rankedHead_p0 15 rfl) ?_
      refine x_cvV (As := [.int p1]) (st := []) C LRX8_226 (ci := 8) rfl rfl (by decide) (by decide) (m_X8_looks (kL κ) (kad κ) (kD κ) (kca κ) C.ado p1  s3 _ hp) rfl (by decide) rfl (Nat.le_of_ble_eq_true rfl) (dX8_rankedHead_p0 16 rfl) (fun s5 hp => ?_)
      refine x_iload_n 2 C rfl (dX8_rankedHead_p0 17 rfl) ?_
      refine x_aload_n 0 C rfl (dX8_rankedHead_p0 18 rfl) ?_
      refine gX8_21 C rfl (by decide) tw_769 (dX8_rankedHead_p0 19 rfl) ?_
      refine x_icmp_ge (tgt := 51) C (dX8_rankedHead_p0 20 rfl) (by decide) (fun hc => ?_) (fun hc => ?_)
      · have hp := hp.1 hc
        refine x_ldc C tw_893 (dX8_rankedHead_p0 30 rfl) ?_
        exact hret _ _ _ _ (dX8_rankedHead_p0 31 rfl) (nar_i _) hp
      · have hp := hp.2 hc
        refine x_aload_n 0 C rfl (dX8_rankedHead_p0 21 rfl) ?_
        refine gX8_23 (b := 221) C rfl (by decide) rfl tw_771 (dX8_rankedHead_p0 22 rfl) ?_
        refine x_bipush (v := 7) C (by decide) (dX8_rankedHead_p0 23 rfl) ?_
        refine x_iload_n 2 C rfl (dX8_rankedHead_p0 24 rfl) ?_
        refine x_imul C (dX8_rankedHead_p0 25 rfl) ?_
        refine x_iload_n 3 C rfl (dX8_rankedHead_p0 26 rfl) ?_
        refine x_iadd C (dX8_rankedHead_p0 27 rfl) ?_
        obtain ⟨h6, hp⟩ := hp
        refine x_iald C rfl (by decide) h6 (dX8_rankedHead_p0 28 rfl) ?_
        refine x_goto (tgt := 53) C (dX8_rankedHead_p0 29 rfl) (by decide) ?_
        exact hret _ _ _ _ (dX8_rankedHead_p0 31 rfl) (nar_i _) hp
    · have hp := hp.1 hc
      refine x_ldc C tw_876 (dX8_rankedHead_p0 12 rfl) ?_
      exact hret _ _ _ _ (dX8_rankedHead_p0 13 rfl) (nar_i _) hp
  · have hp := hp.1 hc
    refine x_ldc C tw_910 (dX8_rankedHead_p0 5 rfl) ?_
    exact hret _ _ _ _ (dX8_rankedHead_p0 6 rfl) (nar_i _) hp)
def P_X8_rankedScore (p1 : Int32) (p2 : Int32) (σ : St) (K : Int32 → St → Prop) : Prop := P_X8_isSentence p1 σ (fun r2 s1 => (r2 = 0 → (K (-1000001) s1)) ∧ (¬ (r2 = 0) → P_X8_in p2 0 5 s1 (fun r4 s3 => (r4 = 0 → (K (-1000002) s3)) ∧ (¬ (r4 = 0) → P_X8_looks p1 s3 (fun s5 => ((s5.1 204 21) ≤ p2 → (K (-1000004) s5)) ∧ (¬ ((s5.1 204 21) ≤ p2) → vp_in p2 7 ∧ (K (s5.1 220 (ix p2)) s5)))))))
set_option maxHeartbeats 4000000 in
set_option maxRecDepth 100000 in
theorem m_X8_rankedScore (l : Launch) (ad : Nat → Nat) (D : va_G) (ca : Nat → ClassId) (had : adOk ad) (p1 : Int32) (p2 : Int32)  (σ : St) (K : Int32 → St → Prop) (hp : P_X8_rankedScore p1 p2 σ K) : CtI l ad D ca yX8_rankedScore cX8_rankedScore 3 .int 6 [.ref (ad 204), .int p1, .int p2] σ K := CtI_of (av := fun ad => [.ref (ad 204), .int p1, .int p2]) (plainFor_of_name (by decide)) had (Nat.le_of_ble_eq_true rfl) (fun κ C hret => by
  have C : Ok κ RX8 cX8_rankedScore 3 6 := C
  show GG κ 0 [(0, .ref (kad κ 204)), (1, .int p1), (2, .int p2)] [] σ
  unfold P_X8_rankedScore at hp
  refine x_aload_n 0 C rfl (dX8_rankedScore_p0 0 rfl) ?_
  refine x_iload_n 1 C rfl (dX8_rankedScore_p0 1 rfl) ?_
  refine x_cvI (As := [.int p1]) (st := []) C LRX8_98 (ci := 8) rfl rfl (by decide) (by decide) (m_X8_isSentence (kL κ) (kad κ) (kD κ) (kca κ) C.ado p1  σ _ hp) rfl (by decide) rfl (Nat.le_of_ble_eq_true rfl) (dX8_rankedScore_p0 2 rfl) (fun r2 s1 hp => ?_)
  refine x_if_ne (tgt := 11) C (dX8_rankedScore_p0 3 rfl) (by decide) (fun hc => ?_) (fun hc => ?_)
  · have hp := hp.2 hc
    refine x_iload_n 2 C rfl (dX8_rankedScore_p0 6 rfl) ?_
    refine x_iconst (v := 0) C (by decide) (dX8_rankedScore_p0 7 rfl) ?_
    refine x_iconst (v := 5) C (by decide) (dX8_rankedScore_p0 8 rfl) ?_
    refine x_csI (As := [.int p2, .int 0, .int 5]) (st := []) C LRX8_94 (m_X8_in (kL κ) (kad κ) (kD κ) (kca κ) C.ado p2 0 5  s1 _ hp) rfl (by decide) rfl (Nat.le_of_ble_eq_true rfl) (dX8_rankedScore_p0 9 rfl) (fun r4 s3 hp => ?_)
    refine x_if_ne (tgt := 23) C (dX8_rankedScore_p0 10 rfl) (by decide) (fun hc => ?_) (fun hc => ?_)
    · have hp := hp.2 hc
      refine x_aload_n 0 C rfl (dX8_rankedScore_p0 13 rfl) ?_
      refine x_iload_n 1 C rfl (dX8_rankedScore_p0 14 rfl) ?_
      refine x_cvV (As := [.int p1]) (st := []) C LRX8_226 (ci := 8) rfl rfl (by decide) (by decide) (m_X8_looks (kL κ) (kad κ) (kD κ) (kca κ) C.ado p1  s3 _ hp) rfl (by decide) rfl (Nat.le_of_ble_eq_true rfl) (dX8_rankedScore_p0 15 rfl) (fun s5 hp => ?_)
      refine x_iload_n 2 C rfl (dX8_rankedScore_p0 16 rfl) ?_
      refine x_aload_n 0 C rfl (dX8_rankedScore_p0 17 rfl) ?_
      refine gX8_21 C rfl (by decide) tw_769 (dX8_rankedScore_p0 18 rfl) ?_
      refine x_icmp_ge (tgt := 45) C (dX8_rankedScore_p0 19 rfl) (by decide) (fun hc => ?_) (fun hc => ?_)
      · have hp := hp.1 hc
        refine x_ldc C tw_893 (dX8_rankedScore_p0 25 rfl) ?_
        exact hret _ _ _ _ (dX8_rankedScore_p0 26 rfl) (nar_i _) hp
      · have hp := hp.2 hc
        refine x_aload_n 0 C rfl (dX8_rankedScore_p0 20 rfl) ?_
        refine gX8_22 (b := 220) C rfl (by decide) rfl tw_770 (dX8_rankedScore_p0 21 rfl) ?_
        refine x_iload_n 2 C rfl (dX8_rankedScore_p0 22 rfl) ?_
        obtain ⟨h6, hp⟩ := hp
        refine x_iald C rfl (by decide) h6 (dX8_rankedScore_p0 23 rfl) ?_
        refine x_goto (tgt := 47) C (dX8_rankedScore_p0 24 rfl) (by decide) ?_
        exact hret _ _ _ _ (dX8_rankedScore_p0 26 rfl) (nar_i _) hp
    · have hp := hp.1 hc
      refine x_ldc C tw_876 (dX8_rankedScore_p0 11 rfl) ?_
      exact hret _ _ _ _ (dX8_rankedScore_p0 12 rfl) (nar_i _) hp
  · have hp := hp.1 hc
    refine x_ldc C tw_910 (dX8_rankedScore_p0 4 rfl) ?_
    exact hret _ _ _ _ (dX8_rankedScore_p0 5 rfl) (nar_i _) hp)
def F_X8_read_97 (K : Int32 → St → Prop) (c30 : (Int32 × St) → Prop) (c97 : (Int32 × St) → Prop) (u1 : Int32) (u2 : Int32) (σ : St) : Prop := vp_in u1 50 ∧ (((σ.1 214 (ix u1)) < u2 → (∀ s8 : St, s8 = wI σ 204 2 ((σ.1 204 2) + 1) → ∀ v9 : Int32, v9 = u1 + 1 → c30 (v9, s8))) ∧ (¬ ((σ.1 214 (ix u1)) < u2) → (P_X8_word (σ.1 204 2) u2 σ (fun r11 s10 => vp_in u1 50 ∧ (vp_in (((s10.1 215 (ix u1)) + (2 * u2)) - 2) 100 ∧ (vp_in r11 28 ∧ ∀ s15 : St, s15 = wI s10 207 (ix r11) ((s10.1 205 (ix (((s10.1 215 (ix u1)) + (2 * u2)) - 2))) - 65) → (P_X8_word (s15.1 204 2) u2 s15 (fun r17 s16 => vp_in u1 50 ∧ (vp_in (((s16.1 215 (ix u1)) + (2 * u2)) - 1) 100 ∧ (vp_in r17 28 ∧ ∀ s21 : St, s21 = wI s16 208 (ix r17) ((s16.1 205 (ix (((s16.1 215 (ix u1)) + (2 * u2)) - 1))) - 48) → ∀ v22 : Int32, v22 = u2 + 1 → c97 (v22, s21)))))))))))
set_option maxHeartbeats 4000000 in
set_option maxRecDepth 100000 in
theorem F_X8_read_97_w {κ : Kap} {K : Int32 → St → Prop} {c30 : (Int32 × St) → Prop} {c97 : (Int32 × St) → Prop} (C : Ok κ RX8 cX8_read 3 2) (hret : RetI κ cX8_read .int K) (u1 : Int32) (u2 : Int32)    (σ : St) (hc30 : ∀ (u1 : Int32) (σ : St), c30 (u1, σ) → GG κ 30 [(0, .ref (kad κ 204)), (1, .int u1)] [] σ) (hc97 : ∀ (u2 : Int32) (σ : St), c97 (u2, σ) → GG κ 97 [(0, .ref (kad κ 204)), (1, .int u1), (2, .int u2)] [] σ) (hp : F_X8_read_97 K c30 c97 u1 u2 σ) : GG κ 97 [(0, .ref (kad κ 204)), (1, .int u1), (2, .int u2)] [] σ := by
  unfold F_X8_read_97 at hp
  refine x_iload_n 2 C rfl (dX8_read_p0 57 rfl) ?_
  refine x_aload_n 0 C rfl (dX8_read_p0 58 rfl) ?_
  refine gX8_15 (b := 214) C rfl (by decide) rfl tw_763 (dX8_read_p0 59 rfl) ?_
  refine x_iload_n 1 C rfl (dX8_read_p0 60 rfl) ?_
  obtain ⟨h7, hp⟩ := hp
  refine x_iald C rfl (by decide) h7 (dX8_read_p0 61 rfl) ?_
  refine x_icmp_gt (tgt := 179) C (dX8_read_p0 62 rfl) (by decide) (fun hc => ?_) (fun hc => ?_)
  · have hp := hp.1 hc
    refine x_aload_n 0 C rfl (dX8_read_p1 45 rfl) ?_
    refine x_dup C rfl (dX8_read_p1 46 rfl) ?_
    refine gX8_2 C rfl (by decide) tw_750 (dX8_read_p1 47 rfl) ?_
    refine x_iconst (v := 1) C (by decide) (dX8_read_p1 48 rfl) ?_
    refine x_iadd C (dX8_read_p1 49 rfl) ?_
    refine qX8_2 C rfl (by decide) tw_750 (dX8_read_p1 50 rfl) ?_
    refine x_nmS (fun s8 es8 => ?_)
    have hp := hp s8 es8
    obtain ⟨v9, ev9⟩ : ∃ z : Int32, z = u1 + 1 := ⟨_, rfl⟩
    have hp := hp v9 ev9
    refine x_iinc (v := v9) (loc' := [(1, .int v9), (0, .ref (kad κ 204)), (2, .int u2)]) 1 C rfl (by rw [ev9]; rfl) (by decide) rfl (dX8_read_p1 51 rfl) ?_
    refine x_goto (tgt := 30) C (dX8_read_p1 52 rfl) (by decide) ?_
    refine x_loc (loc' := [(0, .ref (kad κ 204)), (1, .int v9)]) [1, 0] rfl ?_
    exact hc30 v9 s8 hp
  · have hp := hp.2 hc
    refine x_aload_n 0 C rfl (dX8_read_p0 63 rfl) ?_
    refine gX8_4 (b := 207) C rfl (by decide) rfl tw_752 (dX8_read_p1 0 rfl) ?_
    refine x_aload_n 0 C rfl (dX8_read_p1 1 rfl) ?_
    refine gX8_2 C rfl (by decide) tw_750 (dX8_read_p1 2 rfl) ?_
    refine x_iload_n 2 C rfl (dX8_read_p1 3 rfl) ?_
    refine x_csI (As := [.int (σ.1 204 2), .int u2]) (st := [.ref (kad κ 207)]) C LRX8_124 (m_X8_word (kL κ) (kad κ) (kD κ) (kca κ) C.ado (σ.1 204 2) u2  σ _ hp) rfl (by decide) rfl (Nat.le_of_ble_eq_true rfl) (dX8_read_p1 4 rfl) (fun r11 s10 hp => ?_)
    refine x_aload_n 0 C rfl (dX8_read_p1 5 rfl) ?_
    refine gX8_0 (b := 205) C rfl (by decide) rfl tw_748 (dX8_read_p1 6 rfl) ?_
    refine x_aload_n 0 C rfl (dX8_read_p1 7 rfl) ?_
    refine gX8_16 (b := 215) C rfl (by decide) rfl tw_764 (dX8_read_p1 8 rfl) ?_
    refine x_iload_n 1 C rfl (dX8_read_p1 9 rfl) ?_
    obtain ⟨h12, hp⟩ := hp
    refine x_iald C rfl (by decide) h12 (dX8_read_p1 10 rfl) ?_
    refine x_iconst (v := 2) C (by decide) (dX8_read_p1 11 rfl) ?_
    refine x_iload_n 2 C rfl (dX8_read_p1 12 rfl) ?_
    refine x_imul C (dX8_read_p1 13 rfl) ?_
    refine x_iadd C (dX8_read_p1 14 rfl) ?_
    refine x_iconst (v := 2) C (by decide) (dX8_read_p1 15 rfl) ?_
    refine x_isub C (dX8_read_p1 16 rfl) ?_
    obtain ⟨h13, hp⟩ := hp
    refine x_iald C rfl (by decide) h13 (dX8_read_p1 17 rfl) ?_
    refine x_bipush (v := 65) C (by decide) (dX8_read_p1 18 rfl) ?_
    refine x_isub C (dX8_read_p1 19 rfl) ?_
    obtain ⟨h14, hp⟩ := hp
    refine x_iast C rfl (by decide) h14 (dX8_read_p1 20 rfl) ?_
    refine x_nmS (fun s15 es15 => ?_)
    have hp := hp s15 es15
    refine x_aload_n 0 C rfl (dX8_read_p1 21 rfl) ?_
    refine gX8_5 (b := 208) C rfl (by decide) rfl tw_753 (dX8_read_p1 22 rfl) ?_
    refine x_aload_n 0 C rfl (dX8_read_p1 23 rfl) ?_
    refine gX8_2 C rfl (by decide) tw_750 (dX8_read_p1 24 rfl) ?_
    refine x_iload_n 2 C rfl (dX8_read_p1 25 rfl) ?_
    refine x_csI (As := [.int (s15.1 204 2), .int u2]) (st := [.ref (kad κ 208)]) C LRX8_124 (m_X8_word (kL κ) (kad κ) (kD κ) (kca κ) C.ado (s15.1 204 2) u2  s15 _ hp) rfl (by decide) rfl (Nat.le_of_ble_eq_true rfl) (dX8_read_p1 26 rfl) (fun r17 s16 hp => ?_)
    refine x_aload_n 0 C rfl (dX8_read_p1 27 rfl) ?_
    refine gX8_0 (b := 205) C rfl (by decide) rfl tw_748 (dX8_read_p1 28 rfl) ?_
    refine x_aload_n 0 C rfl (dX8_read_p1 29 rfl) ?_
    refine gX8_16 (b := 215) C rfl (by decide) rfl tw_764 (dX8_read_p1 30 rfl) ?_
    refine x_iload_n 1 C rfl (dX8_read_p1 31 rfl) ?_
    obtain ⟨h18, hp⟩ := hp
    refine x_iald C rfl (by decide) h18 (dX8_read_p1 32 rfl) ?_
    refine x_iconst (v := 2) C (by decide) (dX8_read_p1 33 rfl) ?_
    refine x_iload_n 2 C rfl (dX8_read_p1 34 rfl) ?_
    refine x_imul C (dX8_read_p1 35 rfl) ?_
    refine x_iadd C (dX8_read_p1 36 rfl) ?_
    refine x_iconst (v := 1) C (by decide) (dX8_read_p1 37 rfl) ?_
    refine x_isub C (dX8_read_p1 38 rfl) ?_
    obtain ⟨h19, hp⟩ := hp
    refine x_iald C rfl (by decide) h19 (dX8_read_p1 39 rfl) ?_
    refine x_bipush (v := 48) C (by decide) (dX8_read_p1 40 rfl) ?_
    refine x_isub C (dX8_read_p1 41 rfl) ?_
    obtain ⟨h20, hp⟩ := hp
    refine x_iast C rfl (by decide) h20 (dX8_read_p1 42 rfl) ?_
    refine x_nmS (fun s21 es21 => ?_)
    have hp := hp s21 es21
    obtain ⟨v22, ev22⟩ : ∃ z : Int32, z = u2 + 1 := ⟨_, rfl⟩
    have hp := hp v22 ev22
    refine x_iinc (v := v22) (loc' := [(2, .int v22), (0, .ref (kad κ 204)), (1, .int u1)]) 2 C rfl (by rw [ev22]; rfl) (by decide) rfl (dX8_read_p1 43 rfl) ?_
    refine x_goto (tgt := 97) C (dX8_read_p1 44 rfl) (by decide) ?_
    refine x_loc (loc' := [(0, .ref (kad κ 204)), (1, .int u1), (2, .int v22)]) [1, 2, 0] rfl ?_
    exact hc97 v22 s21 hp
def F_X8_read_46 (K : Int32 → St → Prop) (c30 : (Int32 × St) → Prop) (c46 : (Int32 × St) → Prop) (u1 : Int32) (u2 : Int32) (σ : St) : Prop := (((49 * (σ.1 204 2)) + 49) ≤ u2 → vp_in u1 50 ∧ (vp_in (σ.1 204 2) 4 ∧ ∀ s6 : St, s6 = wI σ 206 (ix (σ.1 204 2)) (σ.1 214 (ix u1)) → (LpE (fun c s => F_X8_read_97 K c30 c u1 s.1 s.2) (1, s6)))) ∧ (¬ (((49 * (σ.1 204 2)) + 49) ≤ u2) → (vp_in u2 196 ∧ ∀ s24 : St, s24 = wI σ 209 (ix u2) 0 → (vp_in u2 196 ∧ ∀ s26 : St, s26 = wI s24 210 (ix u2) 0 → ∀ v27 : Int32, v27 = u2 + 1 → c46 (v27, s26))))
set_option maxHeartbeats 4000000 in
set_option maxRecDepth 100000 in
theorem F_X8_read_46_w {κ : Kap} {K : Int32 → St → Prop} {c30 : (Int32 × St) → Prop} {c46 : (Int32 × St) → Prop} (C : Ok κ RX8 cX8_read 3 2) (hret : RetI κ cX8_read .int K) (u1 : Int32) (u2 : Int32)    (σ : St) (hc30 : ∀ (u1 : Int32) (σ : St), c30 (u1, σ) → GG κ 30 [(0, .ref (kad κ 204)), (1, .int u1)] [] σ) (hc46 : ∀ (u2 : Int32) (σ : St), c46 (u2, σ) → GG κ 46 [(0, .ref (kad κ 204)), (1, .int u1), (2, .int u2)] [] σ) (hp : F_X8_read_46 K c30 c46 u1 u2 σ) : GG κ 46 [(0, .ref (kad κ 204)), (1, .int u1), (2, .int u2)] [] σ := by
  unfold F_X8_read_46 at hp
  refine x_iload_n 2 C rfl (dX8_read_p0 26 rfl) ?_
  refine x_bipush (v := 49) C (by decide) (dX8_read_p0 27 rfl) ?_
  refine x_aload_n 0 C rfl (dX8_read_p0 28 rfl) ?_
  refine gX8_2 C rfl (by decide) tw_750 (dX8_read_p0 29 rfl) ?_
  refine x_imul C (dX8_read_p0 30 rfl) ?_
  refine x_bipush (v := 49) C (by decide) (dX8_read_p0 31 rfl) ?_
  refine x_iadd C (dX8_read_p0 32 rfl) ?_
  refine x_icmp_ge (tgt := 80) C (dX8_read_p0 33 rfl) (by decide) (fun hc => ?_) (fun hc => ?_)
  · have hp := hp.1 hc
    refine x_aload_n 0 C rfl (dX8_read_p0 46 rfl) ?_
    refine gX8_3 (b := 206) C rfl (by decide) rfl tw_751 (dX8_read_p0 47 rfl) ?_
    refine x_aload_n 0 C rfl (dX8_read_p0 48 rfl) ?_
    refine gX8_2 C rfl (by decide) tw_750 (dX8_read_p0 49 rfl) ?_
    refine x_aload_n 0 C rfl (dX8_read_p0 50 rfl) ?_
    refine gX8_15 (b := 214) C rfl (by decide) rfl tw_763 (dX8_read_p0 51 rfl) ?_
    refine x_iload_n 1 C rfl (dX8_read_p0 52 rfl) ?_
    obtain ⟨h4, hp⟩ := hp
    refine x_iald C rfl (by decide) h4 (dX8_read_p0 53 rfl) ?_
    obtain ⟨h5, hp⟩ := hp
    refine x_iast C rfl (by decide) h5 (dX8_read_p0 54 rfl) ?_
    refine x_nmS (fun s6 es6 => ?_)
    have hp := hp s6 es6
    refine x_iconst (v := 1) C (by decide) (dX8_read_p0 55 rfl) ?_
    refine x_istore_n (loc' := [(2, .int 1), (0, .ref (kad κ 204)), (1, .int u1)]) C rfl (by decide) rfl (dX8_read_p0 56 rfl) ?_
    refine x_loc (loc' := [(0, .ref (kad κ 204)), (1, .int u1), (2, .int 1)]) [1, 2, 0] rfl ?_
    exact LpE_GG (S := (Int32 × St)) (F := fun c s => F_X8_read_97 K c30 c u1 s.1 s.2) (W := fun s => GG κ 97 [(0, .ref (kad κ 204)), (1, .int u1), (2, .int s.1)] [] s.2) (fun c s hcc hp => F_X8_read_97_w C hret u1 s.1  s.2 hc30 (fun u2 σ h => hcc (u2, σ) h) hp) hp
  · have hp := hp.2 hc
    refine x_aload_n 0 C rfl (dX8_read_p0 34 rfl) ?_
    refine gX8_6 (b := 209) C rfl (by decide) rfl tw_754 (dX8_read_p0 35 rfl) ?_
    refine x_iload_n 2 C rfl (dX8_read_p0 36 rfl) ?_
    refine x_iconst (v := 0) C (by decide) (dX8_read_p0 37 rfl) ?_
    obtain ⟨h23, hp⟩ := hp
    refine x_iast C rfl (by decide) h23 (dX8_read_p0 38 rfl) ?_
    refine x_nmS (fun s24 es24 => ?_)
    have hp := hp s24 es24
    refine x_aload_n 0 C rfl (dX8_read_p0 39 rfl) ?_
    refine gX8_7 (b := 210) C rfl (by decide) rfl tw_755 (dX8_read_p0 40 rfl) ?_
    refine x_iload_n 2 C rfl (dX8_read_p0 41 rfl) ?_
    refine x_iconst (v := 0) C (by decide) (dX8_read_p0 42 rfl) ?_
    obtain ⟨h25, hp⟩ := hp
    refine x_iast C rfl (by decide) h25 (dX8_read_p0 43 rfl) ?_
    refine x_nmS (fun s26 es26 => ?_)
    have hp := hp s26 es26
    obtain ⟨v27, ev27⟩ : ∃ z : Int32, z = u2 + 1 := ⟨_, rfl⟩
    have hp := hp v27 ev27
    refine x_iinc (v := v27) (loc' := [(2, .int v27), (0, .ref (kad κ 204)), (1, .int u1)]) 2 C rfl (by rw [ev27]; rfl) (by decide) rfl (dX8_read_p0 44 rfl) ?_
    refine x_goto (tgt := 46) C (dX8_read_p0 45 rfl) (by decide) ?_
    refine x_loc (loc' := [(0, .ref (kad κ 204)), (1, .int u1), (2, .int v27)]) [1, 2, 0] rfl ?_
    exact hc46 v27 s26 hp
def F_X8_read_30 (K : Int32 → St → Prop) (c30 : (Int32 × St) → Prop) (u1 : Int32) (σ : St) : Prop := ((σ.1 204 14) ≤ u1 → (K (σ.1 204 2) σ)) ∧ (¬ ((σ.1 204 14) ≤ u1) → (∀ v3 : Int32, v3 = (49 * (σ.1 204 2)) → (LpE (fun c s => F_X8_read_46 K c30 c u1 s.1 s.2) (v3, σ))))
set_option maxHeartbeats 4000000 in
set_option maxRecDepth 100000 in
theorem F_X8_read_30_w {κ : Kap} {K : Int32 → St → Prop} {c30 : (Int32 × St) → Prop} (C : Ok κ RX8 cX8_read 3 2) (hret : RetI κ cX8_read .int K) (u1 : Int32)   (σ : St) (hc30 : ∀ (u1 : Int32) (σ : St), c30 (u1, σ) → GG κ 30 [(0, .ref (kad κ 204)), (1, .int u1)] [] σ) (hp : F_X8_read_30 K c30 u1 σ) : GG κ 30 [(0, .ref (kad κ 204)), (1, .int u1)] [] σ := by
  unfold F_X8_read_30 at hp
  refine x_iload_n 1 C rfl (dX8_read_p0 17 rfl) ?_
  refine x_aload_n 0 C rfl (dX8_read_p0 18 rfl) ?_
  refine gX8_14 C rfl (by decide) tw_762 (dX8_read_p0 19 rfl) ?_
  refine x_icmp_ge (tgt := 195) C (dX8_read_p0 20 rfl) (by decide) (fun hc => ?_) (fun hc => ?_)
  · have hp := hp.1 hc
    refine x_aload_n 0 C rfl (dX8_read_p1 53 rfl) ?_
    refine gX8_2 C rfl (by decide) tw_750 (dX8_read_p1 54 rfl) ?_
    exact hret _ _ _ _ (dX8_read_p1 55 rfl) (nar_i _) hp
  · have hp := hp.2 hc
    refine x_bipush (v := 49) C (by decide) (dX8_read_p0 21 rfl) ?_
    refine x_aload_n 0 C rfl (dX8_read_p0 22 rfl) ?_
    refine gX8_2 C rfl (by decide) tw_750 (dX8_read_p0 23 rfl) ?_
    refine x_imul C (dX8_read_p0 24 rfl) ?_
    refine x_topI (fun v3 ev3 => ?_)
    have hp := hp v3 ev3
    refine x_istore_n (loc' := [(2, .int v3), (0, .ref (kad κ 204)), (1, .int u1)]) C rfl (by decide) rfl (dX8_read_p0 25 rfl) ?_
    refine x_loc (loc' := [(0, .ref (kad κ 204)), (1, .int u1), (2, .int v3)]) [1, 2, 0] rfl ?_
    exact LpE_GG (S := (Int32 × St)) (F := fun c s => F_X8_read_46 K c30 c u1 s.1 s.2) (W := fun s => GG κ 46 [(0, .ref (kad κ 204)), (1, .int u1), (2, .int s.1)] [] s.2) (fun c s hcc hp => F_X8_read_46_w C hret u1 s.1  s.2 hc30 (fun u2 σ h => hcc (u2, σ) h) hp) hp
def P_X8_read  (σ : St) (K : Int32 → St → Prop) : Prop := P_X8_faultOf  σ (fun r2 s1 => (r2 = (-1000004) → ((((s1.1 204 2) + (s1.1 204 14)) ≤ 4 → (LpE (fun c s => F_X8_read_30 K  c s.1 s.2) (0, s1))) ∧ (¬ (((s1.1 204 2) + (s1.1 204 14)) ≤ 4) → (K (-1000003) s1)))) ∧ (¬ (r2 = (-1000004)) → (K (-1000005) s1)))
set_option maxHeartbeats 4000000 in
set_option maxRecDepth 100000 in
theorem m_X8_read (l : Launch) (ad : Nat → Nat) (D : va_G) (ca : Nat → ClassId) (had : adOk ad)   (σ : St) (K : Int32 → St → Prop) (hp : P_X8_read  σ K) : CtI l ad D ca yX8_read cX8_read 3 .int 2 [.ref (ad 204)] σ K := CtI_of (av := fun ad => [.ref (ad 204)]) (plainFor_of_name (by decide)) had (Nat.le_of_ble_eq_true rfl) (fun κ C hret => by
  have C : Ok κ RX8 cX8_read 3 2 := C
  show GG κ 0 [(0, .ref (kad κ 204))] [] σ
  unfold P_X8_read at hp
  refine x_aload_n 0 C rfl (dX8_read_p0 0 rfl) ?_
  refine x_cvI (As := []) (st := []) C LRX8_119 (ci := 8) rfl rfl (by decide) (by decide) (m_X8_faultOf (kL κ) (kad κ) (kD κ) (kca κ) C.ado   σ _ hp) rfl (by decide) rfl (Nat.le_of_ble_eq_true rfl) (dX8_read_p0 1 rfl) (fun r2 s1 hp => ?_)
  refine x_ldc C tw_893 (dX8_read_p0 2 rfl) ?_
  refine x_icmp_eq (tgt := 12) C (dX8_read_p0 3 rfl) (by decide) (fun hc => ?_) (fun hc => ?_)
  · have hp := hp.1 hc
    refine x_aload_n 0 C rfl (dX8_read_p0 6 rfl) ?_
    refine gX8_2 C rfl (by decide) tw_750 (dX8_read_p0 7 rfl) ?_
    refine x_aload_n 0 C rfl (dX8_read_p0 8 rfl) ?_
    refine gX8_14 C rfl (by decide) tw_762 (dX8_read_p0 9 rfl) ?_
    refine x_iadd C (dX8_read_p0 10 rfl) ?_
    refine x_iconst (v := 4) C (by decide) (dX8_read_p0 11 rfl) ?_
    refine x_icmp_le (tgt := 28) C (dX8_read_p0 12 rfl) (by decide) (fun hc => ?_) (fun hc => ?_)
    · have hp := hp.1 hc
      refine x_iconst (v := 0) C (by decide) (dX8_read_p0 15 rfl) ?_
      refine x_istore_n (loc' := [(1, .int 0), (0, .ref (kad κ 204))]) C rfl (by decide) rfl (dX8_read_p0 16 rfl) ?_
      refine x_loc (loc' := [(0, .ref (kad κ 204)), (1, .int 0)]) [1, 0] rfl ?_
      exact LpE_GG (S := (Int32 × St)) (F := fun c s => F_X8_read_30 K  c s.1 s.2) (W := fun s => GG κ 30 [(0, .ref (kad κ 204)), (1, .int s.1)] [] s.2) (fun c s hcc hp => F_X8_read_30_w C hret s.1  s.2  (fun u1 σ h => hcc (u1, σ) h) hp) hp
    · have hp := hp.2 hc
      refine x_ldc C tw_877 (dX8_read_p0 13 rfl) ?_
      exact hret _ _ _ _ (dX8_read_p0 14 rfl) (nar_i _) hp
  · have hp := hp.2 hc
    refine x_ldc C tw_898 (dX8_read_p0 4 rfl) ?_
    exact hret _ _ _ _ (dX8_read_p0 5 rfl) (nar_i _) hp)
def P_X8_regret (p1 : Int32) (p2 : Int32) (p3 : Int32) (σ : St) (K : Int32 → St → Prop) : Prop := P_X8_isArc p1 p2 p3 σ (fun r2 s1 => (r2 = 0 → (K (-1000001) s1)) ∧ (¬ (r2 = 0) → P_X8_looks p1 s1 (fun s3 => vp_in ((7 * p2) + p3) 49 ∧ (∀ v5 : Int32, v5 = (s3.1 222 (ix ((7 * p2) + p3))) → ((v5 = (-100000000) → (K (-1000004) s3)) ∧ (¬ (v5 = (-100000000)) → (K ((s3.1 220 (ix 0)) - v5) s3)))))))
set_option maxHeartbeats 4000000 in
set_option maxRecDepth 100000 in
theorem m_X8_regret (l : Launch) (ad : Nat → Nat) (D : va_G) (ca : Nat → ClassId) (had : adOk ad) (p1 : Int32) (p2 : Int32) (p3 : Int32)  (σ : St) (K : Int32 → St → Prop) (hp : P_X8_regret p1 p2 p3 σ K) : CtI l ad D ca yX8_regret cX8_regret 5 .int 6 [.ref (ad 204), .int p1, .int p2, .int p3] σ K := CtI_of (av := fun ad => [.ref (ad 204), .int p1, .int p2, .int p3]) (plainFor_of_name (by decide)) had (Nat.le_of_ble_eq_true rfl) (fun κ C hret => by
  have C : Ok κ RX8 cX8_regret 5 6 := C
  show GG κ 0 [(0, .ref (kad κ 204)), (1, .int p1), (2, .int p2), (3, .int p3)] [] σ
  unfold P_X8_regret at hp
  refine x_aload_n 0 C rfl (dX8_regret_p0 0 rfl) ?_
  refine x_iload_n 1 C rfl (dX8_regret_p0 1 rfl) ?_
  refine x_iload_n 2 C rfl (dX8_regret_p0 2 rfl) ?_
  refine x_iload_n 3 C rfl (dX8_regret_p0 3 rfl) ?_
  refine x_cvI (As := [.int p1, .int p2, .int p3]) (st := []) C LRX8_129 (ci := 8) rfl rfl (by decide) (by decide) (m_X8_isArc (kL κ) (kad κ) (kD κ) (kca κ) C.ado p1 p2 p3  σ _ hp) rfl (by decide) rfl (Nat.le_of_ble_eq_true rfl) (dX8_regret_p0 4 rfl) (fun r2 s1 hp => ?_)
  refine x_if_ne (tgt := 13) C (dX8_regret_p0 5 rfl) (by decide) (fun hc => ?_) (fun hc => ?_)
  · have hp := hp.2 hc
    refine x_aload_n 0 C rfl (dX8_regret_p0 8 rfl) ?_
    refine x_iload_n 1 C rfl (dX8_regret_p0 9 rfl) ?_
    refine x_cvV (As := [.int p1]) (st := []) C LRX8_226 (ci := 8) rfl rfl (by decide) (by decide) (m_X8_looks (kL κ) (kad κ) (kD κ) (kca κ) C.ado p1  s1 _ hp) rfl (by decide) rfl (Nat.le_of_ble_eq_true rfl) (dX8_regret_p0 10 rfl) (fun s3 hp => ?_)
    refine x_aload_n 0 C rfl (dX8_regret_p0 11 rfl) ?_
    refine gX8_26 (b := 222) C rfl (by decide) rfl tw_774 (dX8_regret_p0 12 rfl) ?_
    refine x_bipush (v := 7) C (by decide) (dX8_regret_p0 13 rfl) ?_
    refine x_iload_n 2 C rfl (dX8_regret_p0 14 rfl) ?_
    refine x_imul C (dX8_regret_p0 15 rfl) ?_
    refine x_iload_n 3 C rfl (dX8_regret_p0 16 rfl) ?_
    refine x_iadd C (dX8_regret_p0 17 rfl) ?_
    obtain ⟨h4, hp⟩ := hp
    refine x_iald C rfl (by decide) h4 (dX8_regret_p0 18 rfl) ?_
    refine x_topI (fun v5 ev5 => ?_)
    have hp := hp v5 ev5
    refine x_istore (loc' := [(4, .int v5), (0, .ref (kad κ 204)), (1, .int p1), (2, .int p2), (3, .int p3)]) C (by decide) rfl (dX8_regret_p0 19 rfl) ?_
    refine x_iload 0 C rfl (dX8_regret_p0 20 rfl) ?_
    refine x_ldc C tw_1025 (dX8_regret_p0 21 rfl) ?_
    refine x_icmp_ne (tgt := 43) C (dX8_regret_p0 22 rfl) (by decide) (fun hc => ?_) (fun hc => ?_)
    · have hp := hp.2 hc
      refine x_aload_n 1 C rfl (dX8_regret_p0 25 rfl) ?_
      refine gX8_22 (b := 220) C rfl (by decide) rfl tw_770 (dX8_regret_p0 26 rfl) ?_
      refine x_iconst (v := 0) C (by decide) (dX8_regret_p0 27 rfl) ?_
      refine x_iald C rfl (by decide) (vp_lit (by decide) (by decide)) (dX8_regret_p0 28 rfl) ?_
      refine x_iload 0 C rfl (dX8_regret_p0 29 rfl) ?_
      refine x_isub C (dX8_regret_p0 30 rfl) ?_
      exact hret _ _ _ _ (dX8_regret_p0 31 rfl) (nar_i _) hp
    · have hp := hp.1 hc
      refine x_ldc C tw_893 (dX8_regret_p0 23 rfl) ?_
      refine x_goto (tgt := 52) C (dX8_regret_p0 24 rfl) (by decide) ?_
      exact hret _ _ _ _ (dX8_regret_p0 31 rfl) (nar_i _) hp
  · have hp := hp.1 hc
    refine x_ldc C tw_910 (dX8_regret_p0 6 rfl) ?_
    exact hret _ _ _ _ (dX8_regret_p0 7 rfl) (nar_i _) hp)
def F_X8_remove_105 (K : Int32 → St → Prop) (c23 : (Int32 × St) → Prop) (c105 : (Int32 × St) → Prop) (u2 : Int32) (u3 : Int32) (σ : St) : Prop := (49 ≤ u3 → ∀ v7 : Int32, v7 = u2 + 1 → c23 (v7, σ)) ∧ (¬ (49 ≤ u3) → (vp_in (((49 * u2) + 49) + u3) 196 ∧ (vp_in ((49 * u2) + u3) 196 ∧ ∀ s10 : St, s10 = wI σ 209 (ix ((49 * u2) + u3)) (σ.1 209 (ix (((49 * u2) + 49) + u3))) → (vp_in (((49 * u2) + 49) + u3) 196 ∧ (vp_in ((49 * u2) + u3) 196 ∧ ∀ s13 : St, s13 = wI s10 210 (ix ((49 * u2) + u3)) (s10.1 210 (ix (((49 * u2) + 49) + u3))) → ∀ v14 : Int32, v14 = u3 + 1 → c105 (v14, s13))))))
set_option maxHeartbeats 4000000 in
set_option maxRecDepth 100000 in
theorem F_X8_remove_105_w {κ : Kap} {K : Int32 → St → Prop} {c23 : (Int32 × St) → Prop} {c105 : (Int32 × St) → Prop} (C : Ok κ RX8 cX8_remove 4 2) (hret : RetI κ cX8_remove .int K) (u2 : Int32) (u3 : Int32)    (σ : St) (hc23 : ∀ (u2 : Int32) (σ : St), c23 (u2, σ) → GG κ 23 [(0, .ref (kad κ 204)), (2, .int u2)] [] σ) (hc105 : ∀ (u3 : Int32) (σ : St), c105 (u3, σ) → GG κ 105 [(0, .ref (kad κ 204)), (2, .int u2), (3, .int u3)] [] σ) (hp : F_X8_remove_105 K c23 c105 u2 u3 σ) : GG κ 105 [(0, .ref (kad κ 204)), (2, .int u2), (3, .int u3)] [] σ := by
  unfold F_X8_remove_105 at hp
  refine x_iload_n 2 C rfl (dX8_remove_p1 1 rfl) ?_
  refine x_bipush (v := 49) C (by decide) (dX8_remove_p1 2 rfl) ?_
  refine x_icmp_ge (tgt := 167) C (dX8_remove_p1 3 rfl) (by decide) (fun hc => ?_) (fun hc => ?_)
  · have hp := hp.1 hc
    obtain ⟨v7, ev7⟩ : ∃ z : Int32, z = u2 + 1 := ⟨_, rfl⟩
    have hp := hp v7 ev7
    refine x_iinc (v := v7) (loc' := [(2, .int v7), (0, .ref (kad κ 204)), (3, .int u3)]) 1 C rfl (by rw [ev7]; rfl) (by decide) rfl (dX8_remove_p1 42 rfl) ?_
    refine x_goto (tgt := 23) C (dX8_remove_p1 43 rfl) (by decide) ?_
    refine x_loc (loc' := [(0, .ref (kad κ 204)), (2, .int v7)]) [1, 0] rfl ?_
    exact hc23 v7 σ hp
  · have hp := hp.2 hc
    refine x_aload_n 0 C rfl (dX8_remove_p1 4 rfl) ?_
    refine gX8_6 (b := 209) C rfl (by decide) rfl tw_754 (dX8_remove_p1 5 rfl) ?_
    refine x_bipush (v := 49) C (by decide) (dX8_remove_p1 6 rfl) ?_
    refine x_iload_n 1 C rfl (dX8_remove_p1 7 rfl) ?_
    refine x_imul C (dX8_remove_p1 8 rfl) ?_
    refine x_iload_n 2 C rfl (dX8_remove_p1 9 rfl) ?_
    refine x_iadd C (dX8_remove_p1 10 rfl) ?_
    refine x_aload_n 0 C rfl (dX8_remove_p1 11 rfl) ?_
    refine gX8_6 (b := 209) C rfl (by decide) rfl tw_754 (dX8_remove_p1 12 rfl) ?_
    refine x_bipush (v := 49) C (by decide) (dX8_remove_p1 13 rfl) ?_
    refine x_iload_n 1 C rfl (dX8_remove_p1 14 rfl) ?_
    refine x_imul C (dX8_remove_p1 15 rfl) ?_
    refine x_bipush (v := 49) C (by decide) (dX8_remove_p1 16 rfl) ?_
    refine x_iadd C (dX8_remove_p1 17 rfl) ?_
    refine x_iload_n 2 C rfl (dX8_remove_p1 18 rfl) ?_
    refine x_iadd C (dX8_remove_p1 19 rfl) ?_
    obtain ⟨h8, hp⟩ := hp
    refine x_iald C rfl (by decide) h8 (dX8_remove_p1 20 rfl) ?_
    obtain ⟨h9, hp⟩ := hp
    refine x_iast C rfl (by decide) h9 (dX8_remove_p1 21 rfl) ?_
    refine x_nmS (fun s10 es10 => ?_)
    have hp := hp s10 es10
    refine x_aload_n 0 C rfl (dX8_remove_p1 22 rfl) ?_
    refine gX8_7 (b := 210) C rfl (by decide) rfl tw_755 (dX8_remove_p1 23 rfl) ?_
    refine x_bipush (v := 49) C (by decide) (dX8_remove_p1 24 rfl) ?_
    refine x_iload_n 1 C rfl (dX8_remove_p1 25 rfl) ?_
    refine x_imul C (dX8_remove_p1 26 rfl) ?_
    refine x_iload_n 2 C rfl (dX8_remove_p1 27 rfl) ?_
    refine x_iadd C (dX8_remove_p1 28 rfl) ?_
    refine x_aload_n 0 C rfl (dX8_remove_p1 29 rfl) ?_
    refine gX8_7 (b := 210) C rfl (by decide) rfl tw_755 (dX8_remove_p1 30 rfl) ?_
    refine x_bipush (v := 49) C (by decide) (dX8_remove_p1 31 rfl) ?_
    refine x_iload_n 1 C rfl (dX8_remove_p1 32 rfl) ?_
    refine x_imul C (dX8_remove_p1 33 rfl) ?_
    refine x_bipush (v := 49) C (by decide) (dX8_remove_p1 34 rfl) ?_
    refine x_iadd C (dX8_remove_p1 35 rfl) ?_
    refine x_iload_n 2 C rfl (dX8_remove_p1 36 rfl) ?_
    refine x_iadd C (dX8_remove_p1 37 rfl) ?_
    obtain ⟨h11, hp⟩ := hp
    refine x_iald C rfl (by decide) h11 (dX8_remove_p1 38 rfl) ?_
    obtain ⟨h12, hp⟩ := hp
    refine x_iast C rfl (by decide) h12 (dX8_remove_p1 39 rfl) ?_
    refine x_nmS (fun s13 es13 => ?_)
    have hp := hp s13 es13
    obtain ⟨v14, ev14⟩ : ∃ z : Int32, z = u3 + 1 := ⟨_, rfl⟩
    have hp := hp v14 ev14
    refine x_iinc (v := v14) (loc' := [(3, .int v14), (0, .ref (kad κ 204)), (2, .int u2)]) 2 C rfl (by rw [ev14]; rfl) (by decide) rfl (dX8_remove_p1 40 rfl) ?_
    refine x_goto (tgt := 105) C (dX8_remove_p1 41 rfl) (by decide) ?_
    refine x_loc (loc' := [(0, .ref (kad κ 204)), (2, .int u2), (3, .int v14)]) [1, 2, 0] rfl ?_
    exact hc105 v14 s13 hp
def F_X8_remove_47 (K : Int32 → St → Prop) (c23 : (Int32 × St) → Prop) (c47 : (Int32 × St) → Prop) (u2 : Int32) (u3 : Int32) (σ : St) : Prop := (7 ≤ u3 → (LpE (fun c s => F_X8_remove_105 K c23 c u2 s.1 s.2) (0, σ))) ∧ (¬ (7 ≤ u3) → P_X8_word u2 u3 σ (fun r16 s15 => P_X8_word (u2 + 1) u3 s15 (fun r18 s17 => vp_in r18 28 ∧ (vp_in r16 28 ∧ ∀ s21 : St, s21 = wI s17 207 (ix r16) (s17.1 207 (ix r18)) → P_X8_word u2 u3 s21 (fun r23 s22 => P_X8_word (u2 + 1) u3 s22 (fun r25 s24 => vp_in r25 28 ∧ (vp_in r23 28 ∧ ∀ s28 : St, s28 = wI s24 208 (ix r23) (s24.1 208 (ix r25)) → ∀ v29 : Int32, v29 = u3 + 1 → c47 (v29, s28))))))))
set_option maxHeartbeats 4000000 in
set_option maxRecDepth 100000 in
theorem F_X8_remove_47_w {κ : Kap} {K : Int32 → St → Prop} {c23 : (Int32 × St) → Prop} {c47 : (Int32 × St) → Prop} (C : Ok κ RX8 cX8_remove 4 2) (hret : RetI κ cX8_remove .int K) (u2 : Int32) (u3 : Int32)    (σ : St) (hc23 : ∀ (u2 : Int32) (σ : St), c23 (u2, σ) → GG κ 23 [(0, .ref (kad κ 204)), (2, .int u2)] [] σ) (hc47 : ∀ (u3 : Int32) (σ : St), c47 (u3, σ) → GG κ 47 [(0, .ref (kad κ 204)), (2, .int u2), (3, .int u3)] [] σ) (hp : F_X8_remove_47 K c23 c47 u2 u3 σ) : GG κ 47 [(0, .ref (kad κ 204)), (2, .int u2), (3, .int u3)] [] σ := by
  unfold F_X8_remove_47 at hp
  refine x_iload_n 2 C rfl (dX8_remove_p0 30 rfl) ?_
  refine x_bipush (v := 7) C (by decide) (dX8_remove_p0 31 rfl) ?_
  refine x_icmp_ge (tgt := 103) C (dX8_remove_p0 32 rfl) (by decide) (fun hc => ?_) (fun hc => ?_)
  · have hp := hp.1 hc
    refine x_iconst (v := 0) C (by decide) (dX8_remove_p0 63 rfl) ?_
    refine x_istore_n (loc' := [(3, .int 0), (0, .ref (kad κ 204)), (2, .int u2)]) C rfl (by decide) rfl (dX8_remove_p1 0 rfl) ?_
    refine x_loc (loc' := [(0, .ref (kad κ 204)), (2, .int u2), (3, .int 0)]) [1, 2, 0] rfl ?_
    exact LpE_GG (S := (Int32 × St)) (F := fun c s => F_X8_remove_105 K c23 c u2 s.1 s.2) (W := fun s => GG κ 105 [(0, .ref (kad κ 204)), (2, .int u2), (3, .int s.1)] [] s.2) (fun c s hcc hp => F_X8_remove_105_w C hret u2 s.1  s.2 hc23 (fun u3 σ h => hcc (u3, σ) h) hp) hp
  · have hp := hp.2 hc
    refine x_aload_n 0 C rfl (dX8_remove_p0 33 rfl) ?_
    refine gX8_4 (b := 207) C rfl (by decide) rfl tw_752 (dX8_remove_p0 34 rfl) ?_
    refine x_iload_n 1 C rfl (dX8_remove_p0 35 rfl) ?_
    refine x_iload_n 2 C rfl (dX8_remove_p0 36 rfl) ?_
    refine x_csI (As := [.int u2, .int u3]) (st := [.ref (kad κ 207)]) C LRX8_124 (m_X8_word (kL κ) (kad κ) (kD κ) (kca κ) C.ado u2 u3  σ _ hp) rfl (by decide) rfl (Nat.le_of_ble_eq_true rfl) (dX8_remove_p0 37 rfl) (fun r16 s15 hp => ?_)
    refine x_aload_n 0 C rfl (dX8_remove_p0 38 rfl) ?_
    refine gX8_4 (b := 207) C rfl (by decide) rfl tw_752 (dX8_remove_p0 39 rfl) ?_
    refine x_iload_n 1 C rfl (dX8_remove_p0 40 rfl) ?_
    refine x_iconst (v := 1) C (by decide) (dX8_remove_p0 41 rfl) ?_
    refine x_iadd C (dX8_remove_p0 42 rfl) ?_
    refine x_iload_n 2 C rfl (dX8_remove_p0 43 rfl) ?_
    refine x_csI (As := [.int (u2 + 1), .int u3]) (st := [.ref (kad κ 207), .int r16, .ref (kad κ 207)]) C LRX8_124 (m_X8_word (kL κ) (kad κ) (kD κ) (kca κ) C.ado (u2 + 1) u3  s15 _ hp) rfl (by decide) rfl (Nat.le_of_ble_eq_true rfl) (dX8_remove_p0 44 rfl) (fun r18 s17 hp => ?_)
    obtain ⟨h19, hp⟩ := hp
    refine x_iald C rfl (by decide) h19 (dX8_remove_p0 45 rfl) ?_
    obtain ⟨h20, hp⟩ := hp
    refine x_iast C rfl (by decide) h20 (dX8_remove_p0 46 rfl) ?_
    refine x_nmS (fun s21 es21 => ?_)
    have hp := hp s21 es21
    refine x_aload_n 0 C rfl (dX8_remove_p0 47 rfl) ?_
    refine gX8_5 (b := 208) C rfl (by decide) rfl tw_753 (dX8_remove_p0 48 rfl) ?_
    refine x_iload_n 1 C rfl (dX8_remove_p0 49 rfl) ?_
    refine x_iload_n 2 C rfl (dX8_remove_p0 50 rfl) ?_
    refine x_csI (As := [.int u2, .int u3]) (st := [.ref (kad κ 208)]) C LRX8_124 (m_X8_word (kL κ) (kad κ) (kD κ) (kca κ) C.ado u2 u3  s21 _ hp) rfl (by decide) rfl (Nat.le_of_ble_eq_true rfl) (dX8_remove_p0 51 rfl) (fun r23 s22 hp => ?_)
    refine x_aload_n 0 C rfl (dX8_remove_p0 52 rfl) ?_
    refine gX8_5 (b := 208) C rfl (by decide) rfl tw_753 (dX8_remove_p0 53 rfl) ?_
    refine x_iload_n 1 C rfl (dX8_remove_p0 54 rfl) ?_
    refine x_iconst (v := 1) C (by decide) (dX8_remove_p0 55 rfl) ?_
    refine x_iadd C (dX8_remove_p0 56 rfl) ?_
    refine x_iload_n 2 C rfl (dX8_remove_p0 57 rfl) ?_
    refine x_csI (As := [.int (u2 + 1), .int u3]) (st := [.ref (kad κ 208), .int r23, .ref (kad κ 208)]) C LRX8_124 (m_X8_word (kL κ) (kad κ) (kD κ) (kca κ) C.ado (u2 + 1) u3  s22 _ hp) rfl (by decide) rfl (Nat.le_of_ble_eq_true rfl) (dX8_remove_p0 58 rfl) (fun r25 s24 hp => ?_)
    obtain ⟨h26, hp⟩ := hp
    refine x_iald C rfl (by decide) h26 (dX8_remove_p0 59 rfl) ?_
    obtain ⟨h27, hp⟩ := hp
    refine x_iast C rfl (by decide) h27 (dX8_remove_p0 60 rfl) ?_
    refine x_nmS (fun s28 es28 => ?_)
    have hp := hp s28 es28
    obtain ⟨v29, ev29⟩ : ∃ z : Int32, z = u3 + 1 := ⟨_, rfl⟩
    have hp := hp v29 ev29
    refine x_iinc (v := v29) (loc' := [(3, .int v29), (0, .ref (kad κ 204)), (2, .int u2)]) 2 C rfl (by rw [ev29]; rfl) (by decide) rfl (dX8_remove_p0 61 rfl) ?_
    refine x_goto (tgt := 47) C (dX8_remove_p0 62 rfl) (by decide) ?_
    refine x_loc (loc' := [(0, .ref (kad κ 204)), (2, .int u2), (3, .int v29)]) [1, 2, 0] rfl ?_
    exact hc47 v29 s28 hp
def F_X8_remove_23 (K : Int32 → St → Prop) (c23 : (Int32 × St) → Prop) (u2 : Int32) (σ : St) : Prop := ((σ.1 204 2) ≤ u2 → (K (σ.1 204 2) σ)) ∧ (¬ ((σ.1 204 2) ≤ u2) → (vp_in (u2 + 1) 4 ∧ (vp_in u2 4 ∧ ∀ s6 : St, s6 = wI σ 206 (ix u2) (σ.1 206 (ix (u2 + 1))) → (LpE (fun c s => F_X8_remove_47 K c23 c u2 s.1 s.2) (0, s6)))))
set_option maxHeartbeats 4000000 in
set_option maxRecDepth 100000 in
theorem F_X8_remove_23_w {κ : Kap} {K : Int32 → St → Prop} {c23 : (Int32 × St) → Prop} (C : Ok κ RX8 cX8_remove 4 2) (hret : RetI κ cX8_remove .int K) (u2 : Int32)   (σ : St) (hc23 : ∀ (u2 : Int32) (σ : St), c23 (u2, σ) → GG κ 23 [(0, .ref (kad κ 204)), (2, .int u2)] [] σ) (hp : F_X8_remove_23 K c23 u2 σ) : GG κ 23 [(0, .ref (kad κ 204)), (2, .int u2)] [] σ := by
  unfold F_X8_remove_23 at hp
  refine x_iload_n 1 C rfl (dX8_remove_p0 14 rfl) ?_
  refine x_aload_n 0 C rfl (dX8_remove_p0 15 rfl) ?_
  refine gX8_2 C rfl (by decide) tw_750 (dX8_remove_p0 16 rfl) ?_
  refine x_icmp_ge (tgt := 173) C (dX8_remove_p0 17 rfl) (by decide) (fun hc => ?_) (fun hc => ?_)
  · have hp := hp.1 hc
    refine x_aload_n 0 C rfl (dX8_remove_p1 44 rfl) ?_
    refine gX8_2 C rfl (by decide) tw_750 (dX8_remove_p1 45 rfl) ?_
    exact hret _ _ _ _ (dX8_remove_p1 46 rfl) (nar_i _) hp
  · have hp := hp.2 hc
    refine x_aload_n 0 C rfl (dX8_remove_p0 18 rfl) ?_
    refine gX8_3 (b := 206) C rfl (by decide) rfl tw_751 (dX8_remove_p0 19 rfl) ?_
    refine x_iload_n 1 C rfl (dX8_remove_p0 20 rfl) ?_
    refine x_aload_n 0 C rfl (dX8_remove_p0 21 rfl) ?_
    refine gX8_3 (b := 206) C rfl (by decide) rfl tw_751 (dX8_remove_p0 22 rfl) ?_
    refine x_iload_n 1 C rfl (dX8_remove_p0 23 rfl) ?_
    refine x_iconst (v := 1) C (by decide) (dX8_remove_p0 24 rfl) ?_
    refine x_iadd C (dX8_remove_p0 25 rfl) ?_
    obtain ⟨h4, hp⟩ := hp
    refine x_iald C rfl (by decide) h4 (dX8_remove_p0 26 rfl) ?_
    obtain ⟨h5, hp⟩ := hp
    refine x_iast C rfl (by decide) h5 (dX8_remove_p0 27 rfl) ?_
    refine x_nmS (fun s6 es6 => ?_)
    have hp := hp s6 es6
    refine x_iconst (v := 0) C (by decide) (dX8_remove_p0 28 rfl) ?_
    refine x_istore_n (loc' := [(3, .int 0), (0, .ref (kad κ 204)), (2, .int u2)]) C rfl (by decide) rfl (dX8_remove_p0 29 rfl) ?_
    refine x_loc (loc' := [(0, .ref (kad κ 204)), (2, .int u2), (3, .int 0)]) [1, 2, 0] rfl ?_
    exact LpE_GG (S := (Int32 × St)) (F := fun c s => F_X8_remove_47 K c23 c u2 s.1 s.2) (W := fun s => GG κ 47 [(0, .ref (kad κ 204)), (2, .int u2), (3, .int s.1)] [] s.2) (fun c s hcc hp => F_X8_remove_47_w C hret u2 s.1  s.2 hc23 (fun u3 σ h => hcc (u3, σ) h) hp) hp
def P_X8_remove (p1 : Int32) (σ : St) (K : Int32 → St → Prop) : Prop := P_X8_isSentence p1 σ (fun r2 s1 => (r2 = 0 → (K (-1000001) s1)) ∧ (¬ (r2 = 0) → (∀ s3 : St, s3 = wI s1 204 2 ((s1.1 204 2) - 1) → (LpE (fun c s => F_X8_remove_23 K  c s.1 s.2) (p1, s3)))))
set_option maxHeartbeats 4000000 in
set_option maxRecDepth 100000 in
theorem m_X8_remove (l : Launch) (ad : Nat → Nat) (D : va_G) (ca : Nat → ClassId) (had : adOk ad) (p1 : Int32)  (σ : St) (K : Int32 → St → Prop) (hp : P_X8_remove p1 σ K) : CtI l ad D ca yX8_remove cX8_remove 4 .int 2 [.ref (ad 204), .int p1] σ K := CtI_of (av := fun ad => [.ref (ad 204), .int p1]) (plainFor_of_name (by decide)) had (Nat.le_of_ble_eq_true rfl) (fun κ C hret => by
  have C : Ok κ RX8 cX8_remove 4 2 := C
  show GG κ 0 [(0, .ref (kad κ 204)), (1, .int p1)] [] σ
  unfold P_X8_remove at hp
  refine x_aload_n 0 C rfl (dX8_remove_p0 0 rfl) ?_
  refine x_iload_n 1 C rfl (dX8_remove_p0 1 rfl) ?_
  refine x_cvI (As := [.int p1]) (st := []) C LRX8_98 (ci := 8) rfl rfl (by decide) (by decide) (m_X8_isSentence (kL κ) (kad κ) (kD κ) (kca κ) C.ado p1  σ _ hp) rfl (by decide) rfl (Nat.le_of_ble_eq_true rfl) (dX8_remove_p0 2 rfl) (fun r2 s1 hp => ?_)
  refine x_if_ne (tgt := 11) C (dX8_remove_p0 3 rfl) (by decide) (fun hc => ?_) (fun hc => ?_)
  · have hp := hp.2 hc
    refine x_aload_n 0 C rfl (dX8_remove_p0 6 rfl) ?_
    refine x_dup C rfl (dX8_remove_p0 7 rfl) ?_
    refine gX8_2 C rfl (by decide) tw_750 (dX8_remove_p0 8 rfl) ?_
    refine x_iconst (v := 1) C (by decide) (dX8_remove_p0 9 rfl) ?_
    refine x_isub C (dX8_remove_p0 10 rfl) ?_
    refine qX8_2 C rfl (by decide) tw_750 (dX8_remove_p0 11 rfl) ?_
    refine x_nmS (fun s3 es3 => ?_)
    have hp := hp s3 es3
    refine x_iload_n 1 C rfl (dX8_remove_p0 12 rfl) ?_
    refine x_istore_n (loc' := [(2, .int p1), (0, .ref (kad κ 204)), (1, .int p1)]) C rfl (by decide) rfl (dX8_remove_p0 13 rfl) ?_
    refine x_loc (loc' := [(0, .ref (kad κ 204)), (2, .int p1)]) [1, 0] rfl ?_
    exact LpE_GG (S := (Int32 × St)) (F := fun c s => F_X8_remove_23 K  c s.1 s.2) (W := fun s => GG κ 23 [(0, .ref (kad κ 204)), (2, .int s.1)] [] s.2) (fun c s hcc hp => F_X8_remove_23_w C hret s.1  s.2  (fun u2 σ h => hcc (u2, σ) h) hp) hp
  · have hp := hp.1 hc
    refine x_ldc C tw_910 (dX8_remove_p0 4 rfl) ?_
    exact hret _ _ _ _ (dX8_remove_p0 5 rfl) (nar_i _) hp)
