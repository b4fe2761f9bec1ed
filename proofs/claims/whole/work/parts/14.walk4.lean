def P_X7_rankedHead (p1 : Int32) (p2 : Int32) (p3 : Int32) (σ : St) (K : Int32 → St → Prop) : Prop := P_X7_find p1 σ (fun r3 s1 => (r3 = none → (K (-1000001) s1)) ∧ (∀ b2 : Nat, r3 = some b2 → sOk b2 ∧ P_X0_hasWord b2 p3 s1 (fun r5 s4 => (r5 = 0 → (K (-1000001) s4)) ∧ (¬ (r5 = 0) → ((p2 < 0 → (K (-1000002) s4)) ∧ (¬ (p2 < 0) → ((p2 < 6 → (P_X7_rankTrees b2 (p2 + 1) s4 (fun s6 => ((s6.1 126 9) ≤ p2 → (K (-1000004) s6)) ∧ (¬ ((s6.1 126 9) ≤ p2) → P_X4_headAt p2 p3 s6 (fun r8 s7 => K r8 s7))))) ∧ (¬ (p2 < 6) → (K (-1000002) s4)))))))))
set_option maxHeartbeats 4000000 in
set_option maxRecDepth 100000 in
theorem m_X7_rankedHead (l : Launch) (ad : Nat → Nat) (D : va_G) (ca : Nat → ClassId) (had : adOk ad) (p1 : Int32) (p2 : Int32) (p3 : Int32)  (σ : St) (K : Int32 → St → Prop) (hp : P_X7_rankedHead p1 p2 p3 σ K) : CtI l ad D ca yX7_rankedHead cX7_rankedHead 5 .int 13 [.ref (ad 0), .int p1, .int p2, .int p3] σ K := CtI_of (av := fun ad => [.ref (ad 0), .int p1, .int p2, .int p3]) (plainFor_of_name (by decide)) had (Nat.le_of_ble_eq_true rfl) (fun κ C hret => by
  have C : Ok κ RX7 cX7_rankedHead 5 13 := C
  show GG κ 0 [(0, .ref (kad κ 0)), (1, .int p1), (2, .int p2), (3, .int p3)] [] σ
  unfold P_X7_rankedHead at hp
  refine x_aload_n 0 C rfl (dX7_rankedHead_p0 0 rfl) ?_
  refine x_iload_n 1 C rfl (dX7_rankedHead_p0 1 rfl) ?_
  refine x_cvQ (As := [.int p1]) (st := []) C LRX7_101 (ci := 7) rfl rfl (by decide) (by decide) (m_X7_find (kL κ) (kad κ) (kD κ) (kca κ) C.ado p1  σ _ hp) rfl (by decide) rfl (Nat.le_of_ble_eq_true rfl) (dX7_rankedHead_p0 2 rfl) (fun s1 hp => ?_) (fun b2 s1 hp => ?_)
  · have hp := hp.1 rfl
    refine x_astoreN (loc' := [(4, .null), (0, .ref (kad κ 0)), (1, .int p1), (2, .int p2), (3, .int p3)]) C (by decide) rfl (dX7_rankedHead_p0 3 rfl) ?_
    refine x_aloadN 0 C rfl (dX7_rankedHead_p0 4 rfl) ?_
    refine x_ifnullN (tgt := 21) C (dX7_rankedHead_p0 5 rfl) (by decide) ?_
    refine x_ldc C tw_326 (dX7_rankedHead_p0 10 rfl) ?_
    exact hret _ _ _ _ (dX7_rankedHead_p0 11 rfl) (nar_i _) hp
  · obtain ⟨hb2, hp⟩ := hp.2 b2 rfl
    refine x_astore (loc' := [(4, .ref (kad κ b2)), (0, .ref (kad κ 0)), (1, .int p1), (2, .int p2), (3, .int p3)]) C (by decide) rfl (dX7_rankedHead_p0 3 rfl) ?_
    refine x_aload 0 C rfl (dX7_rankedHead_p0 4 rfl) ?_
    refine x_ifnull C (dX7_rankedHead_p0 5 rfl) ?_
    refine x_aload 0 C rfl (dX7_rankedHead_p0 6 rfl) ?_
    refine x_iload_n 4 C rfl (dX7_rankedHead_p0 7 rfl) ?_
    refine x_cvI (As := [.int p3]) (st := []) C LRX7_112 (ci := 0) rfl (s_kd hb2) (by decide) (s_lt hb2) (m_X0_hasWord (kL κ) (kad κ) (kD κ) (kca κ) C.ado b2 p3 hb2 s1 _ hp) rfl (by decide) rfl (Nat.le_of_ble_eq_true rfl) (dX7_rankedHead_p0 8 rfl) (fun r5 s4 hp => ?_)
    refine x_if_ne (tgt := 24) C (dX7_rankedHead_p0 9 rfl) (by decide) (fun hc => ?_) (fun hc => ?_)
    · have hp := hp.2 hc
      refine x_iload_n 3 C rfl (dX7_rankedHead_p0 12 rfl) ?_
      refine x_if_lt (tgt := 34) C (dX7_rankedHead_p0 13 rfl) (by decide) (fun hc => ?_) (fun hc => ?_)
      · have hp := hp.1 hc
        refine x_ldc C tw_269 (dX7_rankedHead_p0 17 rfl) ?_
        exact hret _ _ _ _ (dX7_rankedHead_p0 18 rfl) (nar_i _) hp
      · have hp := hp.2 hc
        refine x_iload_n 3 C rfl (dX7_rankedHead_p0 14 rfl) ?_
        refine x_bipush (v := 6) C (by decide) (dX7_rankedHead_p0 15 rfl) ?_
        refine x_icmp_lt (tgt := 37) C (dX7_rankedHead_p0 16 rfl) (by decide) (fun hc => ?_) (fun hc => ?_)
        · have hp := hp.1 hc
          refine x_aload_n 1 C rfl (dX7_rankedHead_p0 19 rfl) ?_
          refine x_aload 0 C rfl (dX7_rankedHead_p0 20 rfl) ?_
          refine x_iload_n 3 C rfl (dX7_rankedHead_p0 21 rfl) ?_
          refine x_iconst (v := 1) C (by decide) (dX7_rankedHead_p0 22 rfl) ?_
          refine x_iadd C (dX7_rankedHead_p0 23 rfl) ?_
          refine x_cvV (As := [.ref (kad κ b2), .int (p2 + 1)]) (st := []) C LRX7_129 (ci := 7) rfl rfl (by decide) (by decide) (m_X7_rankTrees (kL κ) (kad κ) (kD κ) (kca κ) C.ado b2 (p2 + 1) hb2 s4 _ hp) rfl (by decide) rfl (Nat.le_of_ble_eq_true rfl) (dX7_rankedHead_p0 24 rfl) (fun s6 hp => ?_)
          refine x_iload_n 3 C rfl (dX7_rankedHead_p0 25 rfl) ?_
          refine x_aload_n 1 C rfl (dX7_rankedHead_p0 26 rfl) ?_
          refine gX7_7 (b := 126) C rfl (by decide) rfl tw_241 (dX7_rankedHead_p0 27 rfl) ?_
          refine gX4_9 C rfl (by decide) tw_133 (dX7_rankedHead_p0 28 rfl) ?_
          refine x_icmp_ge (tgt := 69) C (dX7_rankedHead_p0 29 rfl) (by decide) (fun hc => ?_) (fun hc => ?_)
          · have hp := hp.1 hc
            refine x_ldc C tw_299 (dX7_rankedHead_p0 36 rfl) ?_
            exact hret _ _ _ _ (dX7_rankedHead_p0 37 rfl) (nar_i _) hp
          · have hp := hp.2 hc
            refine x_aload_n 1 C rfl (dX7_rankedHead_p0 30 rfl) ?_
            refine gX7_7 (b := 126) C rfl (by decide) rfl tw_241 (dX7_rankedHead_p0 31 rfl) ?_
            refine x_iload_n 3 C rfl (dX7_rankedHead_p0 32 rfl) ?_
            refine x_iload_n 4 C rfl (dX7_rankedHead_p0 33 rfl) ?_
            refine x_cvI (As := [.int p2, .int p3]) (st := []) C LRX7_140 (ci := 4) rfl rfl (by decide) (by decide) (m_X4_headAt (kL κ) (kad κ) (kD κ) (kca κ) C.ado p2 p3  s6 _ hp) rfl (by decide) rfl (Nat.le_of_ble_eq_true rfl) (dX7_rankedHead_p0 34 rfl) (fun r8 s7 hp => ?_)
            refine x_goto (tgt := 71) C (dX7_rankedHead_p0 35 rfl) (by decide) ?_
            exact hret _ _ _ _ (dX7_rankedHead_p0 37 rfl) (nar_i _) hp
        · have hp := hp.2 hc
          refine x_ldc C tw_269 (dX7_rankedHead_p0 17 rfl) ?_
          exact hret _ _ _ _ (dX7_rankedHead_p0 18 rfl) (nar_i _) hp
    · have hp := hp.1 hc
      refine x_ldc C tw_326 (dX7_rankedHead_p0 10 rfl) ?_
      exact hret _ _ _ _ (dX7_rankedHead_p0 11 rfl) (nar_i _) hp)
def P_X7_rankedScore (p1 : Int32) (p2 : Int32) (σ : St) (K : Int32 → St → Prop) : Prop := P_X7_find p1 σ (fun r3 s1 => (r3 = none → (K (-1000001) s1)) ∧ (∀ b2 : Nat, r3 = some b2 → sOk b2 ∧ ((p2 < 0 → (K (-1000002) s1)) ∧ (¬ (p2 < 0) → ((p2 < 6 → (P_X7_rankTrees b2 (p2 + 1) s1 (fun s4 => ((s4.1 126 9) ≤ p2 → (K (-1000004) s4)) ∧ (¬ ((s4.1 126 9) ≤ p2) → P_X4_scoreAt p2 s4 (fun r6 s5 => K r6 s5))))) ∧ (¬ (p2 < 6) → (K (-1000002) s1)))))))
set_option maxHeartbeats 4000000 in
set_option maxRecDepth 100000 in
theorem m_X7_rankedScore (l : Launch) (ad : Nat → Nat) (D : va_G) (ca : Nat → ClassId) (had : adOk ad) (p1 : Int32) (p2 : Int32)  (σ : St) (K : Int32 → St → Prop) (hp : P_X7_rankedScore p1 p2 σ K) : CtI l ad D ca yX7_rankedScore cX7_rankedScore 4 .int 13 [.ref (ad 0), .int p1, .int p2] σ K := CtI_of (av := fun ad => [.ref (ad 0), .int p1, .int p2]) (plainFor_of_name (by decide)) had (Nat.le_of_ble_eq_true rfl) (fun κ C hret => by
  have C : Ok κ RX7 cX7_rankedScore 4 13 := C
  show GG κ 0 [(0, .ref (kad κ 0)), (1, .int p1), (2, .int p2)] [] σ
  unfold P_X7_rankedScore at hp
  refine x_aload_n 0 C rfl (dX7_rankedScore_p0 0 rfl) ?_
  refine x_iload_n 1 C rfl (dX7_rankedScore_p0 1 rfl) ?_
  refine x_cvQ (As := [.int p1]) (st := []) C LRX7_101 (ci := 7) rfl rfl (by decide) (by decide) (m_X7_find (kL κ) (kad κ) (kD κ) (kca κ) C.ado p1  σ _ hp) rfl (by decide) rfl (Nat.le_of_ble_eq_true rfl) (dX7_rankedScore_p0 2 rfl) (fun s1 hp => ?_) (fun b2 s1 hp => ?_)
  · have hp := hp.1 rfl
    refine x_astore_nN (loc' := [(3, .null), (0, .ref (kad κ 0)), (1, .int p1), (2, .int p2)]) C rfl (by decide) rfl (dX7_rankedScore_p0 3 rfl) ?_
    refine x_aload_nN 0 C rfl (dX7_rankedScore_p0 4 rfl) ?_
    refine x_ifnonnullN C (dX7_rankedScore_p0 5 rfl) ?_
    refine x_ldc C tw_326 (dX7_rankedScore_p0 6 rfl) ?_
    exact hret _ _ _ _ (dX7_rankedScore_p0 7 rfl) (nar_i _) hp
  · obtain ⟨hb2, hp⟩ := hp.2 b2 rfl
    refine x_astore_n (loc' := [(3, .ref (kad κ b2)), (0, .ref (kad κ 0)), (1, .int p1), (2, .int p2)]) C rfl (by decide) rfl (dX7_rankedScore_p0 3 rfl) ?_
    refine x_aload_n 0 C rfl (dX7_rankedScore_p0 4 rfl) ?_
    refine x_ifnonnull (tgt := 13) C (dX7_rankedScore_p0 5 rfl) (by decide) ?_
    refine x_iload_n 3 C rfl (dX7_rankedScore_p0 8 rfl) ?_
    refine x_if_lt (tgt := 23) C (dX7_rankedScore_p0 9 rfl) (by decide) (fun hc => ?_) (fun hc => ?_)
    · have hp := hp.1 hc
      refine x_ldc C tw_269 (dX7_rankedScore_p0 13 rfl) ?_
      exact hret _ _ _ _ (dX7_rankedScore_p0 14 rfl) (nar_i _) hp
    · have hp := hp.2 hc
      refine x_iload_n 3 C rfl (dX7_rankedScore_p0 10 rfl) ?_
      refine x_bipush (v := 6) C (by decide) (dX7_rankedScore_p0 11 rfl) ?_
      refine x_icmp_lt (tgt := 26) C (dX7_rankedScore_p0 12 rfl) (by decide) (fun hc => ?_) (fun hc => ?_)
      · have hp := hp.1 hc
        refine x_aload_n 1 C rfl (dX7_rankedScore_p0 15 rfl) ?_
        refine x_aload_n 0 C rfl (dX7_rankedScore_p0 16 rfl) ?_
        refine x_iload_n 3 C rfl (dX7_rankedScore_p0 17 rfl) ?_
        refine x_iconst (v := 1) C (by decide) (dX7_rankedScore_p0 18 rfl) ?_
        refine x_iadd C (dX7_rankedScore_p0 19 rfl) ?_
        refine x_cvV (As := [.ref (kad κ b2), .int (p2 + 1)]) (st := []) C LRX7_129 (ci := 7) rfl rfl (by decide) (by decide) (m_X7_rankTrees (kL κ) (kad κ) (kD κ) (kca κ) C.ado b2 (p2 + 1) hb2 s1 _ hp) rfl (by decide) rfl (Nat.le_of_ble_eq_true rfl) (dX7_rankedScore_p0 20 rfl) (fun s4 hp => ?_)
        refine x_iload_n 3 C rfl (dX7_rankedScore_p0 21 rfl) ?_
        refine x_aload_n 1 C rfl (dX7_rankedScore_p0 22 rfl) ?_
        refine gX7_7 (b := 126) C rfl (by decide) rfl tw_241 (dX7_rankedScore_p0 23 rfl) ?_
        refine gX4_9 C rfl (by decide) tw_133 (dX7_rankedScore_p0 24 rfl) ?_
        refine x_icmp_ge (tgt := 56) C (dX7_rankedScore_p0 25 rfl) (by decide) (fun hc => ?_) (fun hc => ?_)
        · have hp := hp.1 hc
          refine x_ldc C tw_299 (dX7_rankedScore_p0 31 rfl) ?_
          exact hret _ _ _ _ (dX7_rankedScore_p0 32 rfl) (nar_i _) hp
        · have hp := hp.2 hc
          refine x_aload_n 1 C rfl (dX7_rankedScore_p0 26 rfl) ?_
          refine gX7_7 (b := 126) C rfl (by decide) rfl tw_241 (dX7_rankedScore_p0 27 rfl) ?_
          refine x_iload_n 3 C rfl (dX7_rankedScore_p0 28 rfl) ?_
          refine x_cvI (As := [.int p2]) (st := []) C LRX7_180 (ci := 4) rfl rfl (by decide) (by decide) (m_X4_scoreAt (kL κ) (kad κ) (kD κ) (kca κ) C.ado p2  s4 _ hp) rfl (by decide) rfl (Nat.le_of_ble_eq_true rfl) (dX7_rankedScore_p0 29 rfl) (fun r6 s5 hp => ?_)
          refine x_goto (tgt := 58) C (dX7_rankedScore_p0 30 rfl) (by decide) ?_
          exact hret _ _ _ _ (dX7_rankedScore_p0 32 rfl) (nar_i _) hp
      · have hp := hp.2 hc
        refine x_ldc C tw_269 (dX7_rankedScore_p0 13 rfl) ?_
        exact hret _ _ _ _ (dX7_rankedScore_p0 14 rfl) (nar_i _) hp)
def F_X7_read_36 (K : Int32 → St → Prop) (c36 : (Int32 × St) → Prop) (u1 : Int32) (σ : St) : Prop := ((σ.1 1 1) ≤ u1 → (K (σ.1 0 2) σ)) ∧ (¬ ((σ.1 1 1) ≤ u1) → ((4 ≤ (σ.1 0 2) → (K (σ.1 0 2) σ)) ∧ (¬ (4 ≤ (σ.1 0 2)) → vp_in u1 100 ∧ (∀ v6 : Int32, v6 = (σ.1 2 (ix u1)) → ((v6 = 59 → (∀ s16 : St, s16 = wI σ 0 2 ((σ.1 0 2) + 1) → ∀ v17 : Int32, v17 = u1 + 1 → c36 (v17, s16))) ∧ (¬ (v6 = 59) → ((u1 ≤ 0 → ∀ v7 : Int32, v7 = u1 + 1 → c36 (v7, σ)) ∧ (¬ (u1 ≤ 0) → P_X2_isDigit v6 σ (fun r9 s8 => (r9 = 0 → ∀ v10 : Int32, v10 = u1 + 1 → c36 (v10, s8)) ∧ (¬ (r9 = 0) → (vp_in (s8.1 0 2) 4 ∧ sOk (s8.2.2 (ix (s8.1 0 2))) ∧ (vp_in (u1 - 1) 100 ∧ (P_X0_addWord (s8.2.2 (ix (s8.1 0 2))) ((s8.1 2 (ix (u1 - 1))) - 65) (v6 - 48) s8 (fun s14 => ∀ v15 : Int32, v15 = u1 + 1 → c36 (v15, s14)))))))))))))))
set_option maxHeartbeats 4000000 in
set_option maxRecDepth 100000 in
theorem F_X7_read_36_w {κ : Kap} {K : Int32 → St → Prop} {c36 : (Int32 × St) → Prop} (C : Ok κ RX7 cX7_read 3 3) (hret : RetI κ cX7_read .int K) (u1 : Int32)   (σ : St) (hc36 : ∀ (u1 : Int32) (σ : St), c36 (u1, σ) → GG κ 36 [(0, .ref (kad κ 0)), (1, .int u1)] [] σ) (hp : F_X7_read_36 K c36 u1 σ) : GG κ 36 [(0, .ref (kad κ 0)), (1, .int u1)] [] σ := by
  unfold F_X7_read_36 at hp
  refine x_iload_n 1 C rfl (dX7_read_p0 19 rfl) ?_
  refine x_aload_n 0 C rfl (dX7_read_p0 20 rfl) ?_
  refine gX7_0 (b := 1) C rfl (by decide) rfl tw_234 (dX7_read_p0 21 rfl) ?_
  refine gX2_1 C rfl (by decide) tw_30 (dX7_read_p0 22 rfl) ?_
  refine x_icmp_ge (tgt := 131) C (dX7_read_p0 23 rfl) (by decide) (fun hc => ?_) (fun hc => ?_)
  · have hp := hp.1 hc
    refine x_aload_n 0 C rfl (dX7_read_p1 5 rfl) ?_
    refine gX7_2 C rfl (by decide) tw_236 (dX7_read_p1 6 rfl) ?_
    exact hret _ _ _ _ (dX7_read_p1 7 rfl) (nar_i _) hp
  · have hp := hp.2 hc
    refine x_aload_n 0 C rfl (dX7_read_p0 24 rfl) ?_
    refine gX7_2 C rfl (by decide) tw_236 (dX7_read_p0 25 rfl) ?_
    refine x_iconst (v := 4) C (by decide) (dX7_read_p0 26 rfl) ?_
    refine x_icmp_ge (tgt := 131) C (dX7_read_p0 27 rfl) (by decide) (fun hc => ?_) (fun hc => ?_)
    · have hp := hp.1 hc
      refine x_aload_n 0 C rfl (dX7_read_p1 5 rfl) ?_
      refine gX7_2 C rfl (by decide) tw_236 (dX7_read_p1 6 rfl) ?_
      exact hret _ _ _ _ (dX7_read_p1 7 rfl) (nar_i _) hp
    · have hp := hp.2 hc
      refine x_aload_n 0 C rfl (dX7_read_p0 28 rfl) ?_
      refine gX7_0 (b := 1) C rfl (by decide) rfl tw_234 (dX7_read_p0 29 rfl) ?_
      refine gX2_0 (b := 2) C rfl (by decide) rfl tw_28 (dX7_read_p0 30 rfl) ?_
      refine x_iload_n 1 C rfl (dX7_read_p0 31 rfl) ?_
      obtain ⟨h5, hp⟩ := hp
      refine x_iald C rfl (by decide) h5 (dX7_read_p0 32 rfl) ?_
      refine x_topI (fun v6 ev6 => ?_)
      have hp := hp v6 ev6
      refine x_istore_n (loc' := [(2, .int v6), (0, .ref (kad κ 0)), (1, .int u1)]) C rfl (by decide) rfl (dX7_read_p0 33 rfl) ?_
      refine x_iload_n 0 C rfl (dX7_read_p0 34 rfl) ?_
      refine x_bipush (v := 59) C (by decide) (dX7_read_p0 35 rfl) ?_
      refine x_icmp_ne (tgt := 84) C (dX7_read_p0 36 rfl) (by decide) (fun hc => ?_) (fun hc => ?_)
      · have hp := hp.2 hc
        refine x_iload_n 2 C rfl (dX7_read_p0 44 rfl) ?_
        refine x_if_le (tgt := 125) C (dX7_read_p0 45 rfl) (by decide) (fun hc => ?_) (fun hc => ?_)
        · have hp := hp.1 hc
          obtain ⟨v7, ev7⟩ : ∃ z : Int32, z = u1 + 1 := ⟨_, rfl⟩
          have hp := hp v7 ev7
          refine x_iinc (v := v7) (loc' := [(1, .int v7), (2, .int v6), (0, .ref (kad κ 0))]) 2 C rfl (by rw [ev7]; rfl) (by decide) rfl (dX7_read_p1 3 rfl) ?_
          refine x_goto (tgt := 36) C (dX7_read_p1 4 rfl) (by decide) ?_
          refine x_loc (loc' := [(0, .ref (kad κ 0)), (1, .int v7)]) [2, 0] rfl ?_
          exact hc36 v7 σ hp
        · have hp := hp.2 hc
          refine x_iload_n 0 C rfl (dX7_read_p0 46 rfl) ?_
          refine x_csI (As := [.int v6]) (st := []) C LRX7_94 (m_X2_isDigit (kL κ) (kad κ) (kD κ) (kca κ) C.ado v6  σ _ hp) rfl (by decide) rfl (Nat.le_of_ble_eq_true rfl) (dX7_read_p0 47 rfl) (fun r9 s8 hp => ?_)
          refine x_if_eq (tgt := 125) C (dX7_read_p0 48 rfl) (by decide) (fun hc => ?_) (fun hc => ?_)
          · have hp := hp.1 hc
            obtain ⟨v10, ev10⟩ : ∃ z : Int32, z = u1 + 1 := ⟨_, rfl⟩
            have hp := hp v10 ev10
            refine x_iinc (v := v10) (loc' := [(1, .int v10), (2, .int v6), (0, .ref (kad κ 0))]) 2 C rfl (by rw [ev10]; rfl) (by decide) rfl (dX7_read_p1 3 rfl) ?_
            refine x_goto (tgt := 36) C (dX7_read_p1 4 rfl) (by decide) ?_
            refine x_loc (loc' := [(0, .ref (kad κ 0)), (1, .int v10)]) [2, 0] rfl ?_
            exact hc36 v10 s8 hp
          · have hp := hp.2 hc
            refine x_aload_n 1 C rfl (dX7_read_p0 49 rfl) ?_
            refine gX7_1 (b := 4) C rfl (by decide) rfl tw_235 (dX7_read_p0 50 rfl) ?_
            refine x_aload_n 1 C rfl (dX7_read_p0 51 rfl) ?_
            refine gX7_2 C rfl (by decide) tw_236 (dX7_read_p0 52 rfl) ?_
            obtain ⟨h11, hp⟩ := hp
            obtain ⟨h12, hp⟩ := hp
            refine x_aald (c := 15) (b := s8.2.2 (ix (s8.1 0 2))) C rfl (by decide) rfl rfl (by decide) h11 rfl (dX7_read_p0 53 rfl) ?_
            refine x_aload_n 1 C rfl (dX7_read_p0 54 rfl) ?_
            refine gX7_0 (b := 1) C rfl (by decide) rfl tw_234 (dX7_read_p0 55 rfl) ?_
            refine gX2_0 (b := 2) C rfl (by decide) rfl tw_28 (dX7_read_p0 56 rfl) ?_
            refine x_iload_n 2 C rfl (dX7_read_p0 57 rfl) ?_
            refine x_iconst (v := 1) C (by decide) (dX7_read_p0 58 rfl) ?_
            refine x_isub C (dX7_read_p0 59 rfl) ?_
            obtain ⟨h13, hp⟩ := hp
            refine x_iald C rfl (by decide) h13 (dX7_read_p0 60 rfl) ?_
            refine x_bipush (v := 65) C (by decide) (dX7_read_p0 61 rfl) ?_
            refine x_isub C (dX7_read_p0 62 rfl) ?_
            refine x_iload_n 0 C rfl (dX7_read_p0 63 rfl) ?_
            refine x_bipush (v := 48) C (by decide) (dX7_read_p1 0 rfl) ?_
            refine x_isub C (dX7_read_p1 1 rfl) ?_
            refine x_cvV (As := [.int ((s8.1 2 (ix (u1 - 1))) - 65), .int (v6 - 48)]) (st := []) C LRX7_97 (ci := 0) rfl (s_kd h12) (by decide) (s_lt h12) (m_X0_addWord (kL κ) (kad κ) (kD κ) (kca κ) C.ado (s8.2.2 (ix (s8.1 0 2))) ((s8.1 2 (ix (u1 - 1))) - 65) (v6 - 48) h12 s8 _ hp) rfl (by decide) rfl (Nat.le_of_ble_eq_true rfl) (dX7_read_p1 2 rfl) (fun s14 hp => ?_)
            obtain ⟨v15, ev15⟩ : ∃ z : Int32, z = u1 + 1 := ⟨_, rfl⟩
            have hp := hp v15 ev15
            refine x_iinc (v := v15) (loc' := [(1, .int v15), (2, .int v6), (0, .ref (kad κ 0))]) 2 C rfl (by rw [ev15]; rfl) (by decide) rfl (dX7_read_p1 3 rfl) ?_
            refine x_goto (tgt := 36) C (dX7_read_p1 4 rfl) (by decide) ?_
            refine x_loc (loc' := [(0, .ref (kad κ 0)), (1, .int v15)]) [2, 0] rfl ?_
            exact hc36 v15 s14 hp
      · have hp := hp.1 hc
        refine x_aload_n 1 C rfl (dX7_read_p0 37 rfl) ?_
        refine x_dup C rfl (dX7_read_p0 38 rfl) ?_
        refine gX7_2 C rfl (by decide) tw_236 (dX7_read_p0 39 rfl) ?_
        refine x_iconst (v := 1) C (by decide) (dX7_read_p0 40 rfl) ?_
        refine x_iadd C (dX7_read_p0 41 rfl) ?_
        refine qX7_2 C rfl (by decide) tw_236 (dX7_read_p0 42 rfl) ?_
        refine x_nmS (fun s16 es16 => ?_)
        have hp := hp s16 es16
        refine x_goto (tgt := 125) C (dX7_read_p0 43 rfl) (by decide) ?_
        obtain ⟨v17, ev17⟩ : ∃ z : Int32, z = u1 + 1 := ⟨_, rfl⟩
        have hp := hp v17 ev17
        refine x_iinc (v := v17) (loc' := [(1, .int v17), (2, .int v6), (0, .ref (kad κ 0))]) 2 C rfl (by rw [ev17]; rfl) (by decide) rfl (dX7_read_p1 3 rfl) ?_
        refine x_goto (tgt := 36) C (dX7_read_p1 4 rfl) (by decide) ?_
        refine x_loc (loc' := [(0, .ref (kad κ 0)), (1, .int v17)]) [2, 0] rfl ?_
        exact hc36 v17 s16 hp
def P_X7_read  (σ : St) (K : Int32 → St → Prop) : Prop := P_X2_findFault  σ (fun r2 s1 => (r2 = (-1000004) → P_X2_countSentences  s1 (fun r4 s3 => (((s1.1 0 2) + r4) ≤ 4 → (LpE (fun c s => F_X7_read_36 K  c s.1 s.2) (0, s3))) ∧ (¬ (((s1.1 0 2) + r4) ≤ 4) → (K (-1000003) s3)))) ∧ (¬ (r2 = (-1000004)) → (K (-1000005) s1)))
set_option maxHeartbeats 4000000 in
set_option maxRecDepth 100000 in
theorem m_X7_read (l : Launch) (ad : Nat → Nat) (D : va_G) (ca : Nat → ClassId) (had : adOk ad)   (σ : St) (K : Int32 → St → Prop) (hp : P_X7_read  σ K) : CtI l ad D ca yX7_read cX7_read 3 .int 3 [.ref (ad 0)] σ K := CtI_of (av := fun ad => [.ref (ad 0)]) (plainFor_of_name (by decide)) had (Nat.le_of_ble_eq_true rfl) (fun κ C hret => by
  have C : Ok κ RX7 cX7_read 3 3 := C
  show GG κ 0 [(0, .ref (kad κ 0))] [] σ
  unfold P_X7_read at hp
  refine x_aload_n 0 C rfl (dX7_read_p0 0 rfl) ?_
  refine gX7_0 (b := 1) C rfl (by decide) rfl tw_234 (dX7_read_p0 1 rfl) ?_
  refine x_cvI (As := []) (st := []) C LRX7_81 (ci := 2) rfl rfl (by decide) (by decide) (m_X2_findFault (kL κ) (kad κ) (kD κ) (kca κ) C.ado   σ _ hp) rfl (by decide) rfl (Nat.le_of_ble_eq_true rfl) (dX7_read_p0 2 rfl) (fun r2 s1 hp => ?_)
  refine x_ldc C tw_299 (dX7_read_p0 3 rfl) ?_
  refine x_icmp_eq (tgt := 15) C (dX7_read_p0 4 rfl) (by decide) (fun hc => ?_) (fun hc => ?_)
  · have hp := hp.1 hc
    refine x_aload_n 0 C rfl (dX7_read_p0 7 rfl) ?_
    refine gX7_2 C rfl (by decide) tw_236 (dX7_read_p0 8 rfl) ?_
    refine x_aload_n 0 C rfl (dX7_read_p0 9 rfl) ?_
    refine gX7_0 (b := 1) C rfl (by decide) rfl tw_234 (dX7_read_p0 10 rfl) ?_
    refine x_cvI (As := []) (st := [.int (s1.1 0 2)]) C LRX7_87 (ci := 2) rfl rfl (by decide) (by decide) (m_X2_countSentences (kL κ) (kad κ) (kD κ) (kca κ) C.ado   s1 _ hp) rfl (by decide) rfl (Nat.le_of_ble_eq_true rfl) (dX7_read_p0 11 rfl) (fun r4 s3 hp => ?_)
    refine x_iadd C (dX7_read_p0 12 rfl) ?_
    refine x_iconst (v := 4) C (by decide) (dX7_read_p0 13 rfl) ?_
    refine x_icmp_le (tgt := 34) C (dX7_read_p0 14 rfl) (by decide) (fun hc => ?_) (fun hc => ?_)
    · have hp := hp.1 hc
      refine x_iconst (v := 0) C (by decide) (dX7_read_p0 17 rfl) ?_
      refine x_istore_n (loc' := [(1, .int 0), (0, .ref (kad κ 0))]) C rfl (by decide) rfl (dX7_read_p0 18 rfl) ?_
      refine x_loc (loc' := [(0, .ref (kad κ 0)), (1, .int 0)]) [1, 0] rfl ?_
      exact LpE_GG (S := (Int32 × St)) (F := fun c s => F_X7_read_36 K  c s.1 s.2) (W := fun s => GG κ 36 [(0, .ref (kad κ 0)), (1, .int s.1)] [] s.2) (fun c s hcc hp => F_X7_read_36_w C hret s.1  s.2  (fun u1 σ h => hcc (u1, σ) h) hp) hp
    · have hp := hp.2 hc
      refine x_ldc C tw_274 (dX7_read_p0 15 rfl) ?_
      exact hret _ _ _ _ (dX7_read_p0 16 rfl) (nar_i _) hp
  · have hp := hp.2 hc
    refine x_ldc C tw_308 (dX7_read_p0 5 rfl) ?_
    exact hret _ _ _ _ (dX7_read_p0 6 rfl) (nar_i _) hp)
def P_X7_regret (p1 : Int32) (p2 : Int32) (p3 : Int32) (σ : St) (K : Int32 → St → Prop) : Prop := P_X7_find p1 σ (fun r3 s1 => (r3 = none → (K (-1000001) s1)) ∧ (∀ b2 : Nat, r3 = some b2 → sOk b2 ∧ P_X0_hasArc b2 p2 p3 s1 (fun r5 s4 => (r5 = 0 → (K (-1000001) s4)) ∧ (¬ (r5 = 0) → P_X7_rankTrees b2 1 s4 (fun s6 => ((s6.1 126 9) = 0 → (K (-1000004) s6)) ∧ (¬ ((s6.1 126 9) = 0) → P_X4_scoreAt 0 s6 (fun r8 s7 => P_X4_keepOnly p2 p3 s7 (fun s9 => P_X4_seek 1 s9 (fun s10 => ((s10.1 126 9) = 0 → (K (-1000004) s10)) ∧ (¬ ((s10.1 126 9) = 0) → P_X4_scoreAt 0 s10 (fun r12 s11 => K (r8 - r12) s11)))))))))))
set_option maxHeartbeats 4000000 in
set_option maxRecDepth 100000 in
theorem m_X7_regret (l : Launch) (ad : Nat → Nat) (D : va_G) (ca : Nat → ClassId) (had : adOk ad) (p1 : Int32) (p2 : Int32) (p3 : Int32)  (σ : St) (K : Int32 → St → Prop) (hp : P_X7_regret p1 p2 p3 σ K) : CtI l ad D ca yX7_regret cX7_regret 6 .int 13 [.ref (ad 0), .int p1, .int p2, .int p3] σ K := CtI_of (av := fun ad => [.ref (ad 0), .int p1, .int p2, .int p3]) (plainFor_of_name (by decide)) had (Nat.le_of_ble_eq_true rfl) (fun κ C hret => by
  have C : Ok κ RX7 cX7_regret 6 13 := C
  show GG κ 0 [(0, .ref (kad κ 0)), (1, .int p1), (2, .int p2), (3, .int p3)] [] σ
  unfold P_X7_regret at hp
  refine x_aload_n 0 C rfl (dX7_regret_p0 0 rfl) ?_
  refine x_iload_n 1 C rfl (dX7_regret_p0 1 rfl) ?_
  refine x_cvQ (As := [.int p1]) (st := []) C LRX7_101 (ci := 7) rfl rfl (by decide) (by decide) (m_X7_find (kL κ) (kad κ) (kD κ) (kca κ) C.ado p1  σ _ hp) rfl (by decide) rfl (Nat.le_of_ble_eq_true rfl) (dX7_regret_p0 2 rfl) (fun s1 hp => ?_) (fun b2 s1 hp => ?_)
  · have hp := hp.1 rfl
    refine x_astoreN (loc' := [(4, .null), (0, .ref (kad κ 0)), (1, .int p1), (2, .int p2), (3, .int p3)]) C (by decide) rfl (dX7_regret_p0 3 rfl) ?_
    refine x_aloadN 0 C rfl (dX7_regret_p0 4 rfl) ?_
    refine x_ifnullN (tgt := 22) C (dX7_regret_p0 5 rfl) (by decide) ?_
    refine x_ldc C tw_326 (dX7_regret_p0 11 rfl) ?_
    exact hret _ _ _ _ (dX7_regret_p0 12 rfl) (nar_i _) hp
  · obtain ⟨hb2, hp⟩ := hp.2 b2 rfl
    refine x_astore (loc' := [(4, .ref (kad κ b2)), (0, .ref (kad κ 0)), (1, .int p1), (2, .int p2), (3, .int p3)]) C (by decide) rfl (dX7_regret_p0 3 rfl) ?_
    refine x_aload 0 C rfl (dX7_regret_p0 4 rfl) ?_
    refine x_ifnull C (dX7_regret_p0 5 rfl) ?_
    refine x_aload 0 C rfl (dX7_regret_p0 6 rfl) ?_
    refine x_iload_n 3 C rfl (dX7_regret_p0 7 rfl) ?_
    refine x_iload_n 4 C rfl (dX7_regret_p0 8 rfl) ?_
    refine x_cvI (As := [.int p2, .int p3]) (st := []) C LRX7_121 (ci := 0) rfl (s_kd hb2) (by decide) (s_lt hb2) (m_X0_hasArc (kL κ) (kad κ) (kD κ) (kca κ) C.ado b2 p2 p3 hb2 s1 _ hp) rfl (by decide) rfl (Nat.le_of_ble_eq_true rfl) (dX7_regret_p0 9 rfl) (fun r5 s4 hp => ?_)
    refine x_if_ne (tgt := 25) C (dX7_regret_p0 10 rfl) (by decide) (fun hc => ?_) (fun hc => ?_)
    · have hp := hp.2 hc
      refine x_aload_n 1 C rfl (dX7_regret_p0 13 rfl) ?_
      refine x_aload 0 C rfl (dX7_regret_p0 14 rfl) ?_
      refine x_iconst (v := 1) C (by decide) (dX7_regret_p0 15 rfl) ?_
      refine x_cvV (As := [.ref (kad κ b2), .int 1]) (st := []) C LRX7_129 (ci := 7) rfl rfl (by decide) (by decide) (m_X7_rankTrees (kL κ) (kad κ) (kD κ) (kca κ) C.ado b2 1 hb2 s4 _ hp) rfl (by decide) rfl (Nat.le_of_ble_eq_true rfl) (dX7_regret_p0 16 rfl) (fun s6 hp => ?_)
      refine x_aload_n 1 C rfl (dX7_regret_p0 17 rfl) ?_
      refine gX7_7 (b := 126) C rfl (by decide) rfl tw_241 (dX7_regret_p0 18 rfl) ?_
      refine gX4_9 C rfl (by decide) tw_133 (dX7_regret_p0 19 rfl) ?_
      refine x_if_ne (tgt := 45) C (dX7_regret_p0 20 rfl) (by decide) (fun hc => ?_) (fun hc => ?_)
      · have hp := hp.2 hc
        refine x_aload_n 1 C rfl (dX7_regret_p0 23 rfl) ?_
        refine gX7_7 (b := 126) C rfl (by decide) rfl tw_241 (dX7_regret_p0 24 rfl) ?_
        refine x_iconst (v := 0) C (by decide) (dX7_regret_p0 25 rfl) ?_
        refine x_cvI (As := [.int 0]) (st := []) C LRX7_180 (ci := 4) rfl rfl (by decide) (by decide) (m_X4_scoreAt (kL κ) (kad κ) (kD κ) (kca κ) C.ado 0  s6 _ hp) rfl (by decide) rfl (Nat.le_of_ble_eq_true rfl) (dX7_regret_p0 26 rfl) (fun r8 s7 hp => ?_)
        refine x_istore (loc' := [(5, .int r8), (4, .ref (kad κ b2)), (0, .ref (kad κ 0)), (1, .int p1), (2, .int p2), (3, .int p3)]) C (by decide) rfl (dX7_regret_p0 27 rfl) ?_
        refine x_aload_n 2 C rfl (dX7_regret_p0 28 rfl) ?_
        refine gX7_7 (b := 126) C rfl (by decide) rfl tw_241 (dX7_regret_p0 29 rfl) ?_
        refine x_iload_n 4 C rfl (dX7_regret_p0 30 rfl) ?_
        refine x_iload_n 5 C rfl (dX7_regret_p0 31 rfl) ?_
        refine x_cvV (As := [.int p2, .int p3]) (st := []) C LRX7_184 (ci := 4) rfl rfl (by decide) (by decide) (m_X4_keepOnly (kL κ) (kad κ) (kD κ) (kca κ) C.ado p2 p3  s7 _ hp) rfl (by decide) rfl (Nat.le_of_ble_eq_true rfl) (dX7_regret_p0 32 rfl) (fun s9 hp => ?_)
        refine x_aload_n 2 C rfl (dX7_regret_p0 33 rfl) ?_
        refine gX7_7 (b := 126) C rfl (by decide) rfl tw_241 (dX7_regret_p0 34 rfl) ?_
        refine x_iconst (v := 1) C (by decide) (dX7_regret_p0 35 rfl) ?_
        refine x_cvV (As := [.int 1]) (st := []) C LRX7_187 (ci := 4) rfl rfl (by decide) (by decide) (m_X4_seek (kL κ) (kad κ) (kD κ) (kca κ) C.ado 1  s9 _ hp) rfl (by decide) rfl (Nat.le_of_ble_eq_true rfl) (dX7_regret_p0 36 rfl) (fun s10 hp => ?_)
        refine x_aload_n 2 C rfl (dX7_regret_p0 37 rfl) ?_
        refine gX7_7 (b := 126) C rfl (by decide) rfl tw_241 (dX7_regret_p0 38 rfl) ?_
        refine gX4_9 C rfl (by decide) tw_133 (dX7_regret_p0 39 rfl) ?_
        refine x_if_ne (tgt := 87) C (dX7_regret_p0 40 rfl) (by decide) (fun hc => ?_) (fun hc => ?_)
        · have hp := hp.2 hc
          refine x_iload 0 C rfl (dX7_regret_p0 43 rfl) ?_
          refine x_aload_n 2 C rfl (dX7_regret_p0 44 rfl) ?_
          refine gX7_7 (b := 126) C rfl (by decide) rfl tw_241 (dX7_regret_p0 45 rfl) ?_
          refine x_iconst (v := 0) C (by decide) (dX7_regret_p0 46 rfl) ?_
          refine x_cvI (As := [.int 0]) (st := [.int r8]) C LRX7_180 (ci := 4) rfl rfl (by decide) (by decide) (m_X4_scoreAt (kL κ) (kad κ) (kD κ) (kca κ) C.ado 0  s10 _ hp) rfl (by decide) rfl (Nat.le_of_ble_eq_true rfl) (dX7_regret_p0 47 rfl) (fun r12 s11 hp => ?_)
          refine x_isub C (dX7_regret_p0 48 rfl) ?_
          exact hret _ _ _ _ (dX7_regret_p0 49 rfl) (nar_i _) hp
        · have hp := hp.1 hc
          refine x_ldc C tw_299 (dX7_regret_p0 41 rfl) ?_
          refine x_goto (tgt := 98) C (dX7_regret_p0 42 rfl) (by decide) ?_
          exact hret _ _ _ _ (dX7_regret_p0 49 rfl) (nar_i _) hp
      · have hp := hp.1 hc
        refine x_ldc C tw_299 (dX7_regret_p0 21 rfl) ?_
        exact hret _ _ _ _ (dX7_regret_p0 22 rfl) (nar_i _) hp
    · have hp := hp.1 hc
      refine x_ldc C tw_326 (dX7_regret_p0 11 rfl) ?_
      exact hret _ _ _ _ (dX7_regret_p0 12 rfl) (nar_i _) hp)
def F_X7_remove_25 (K : Int32 → St → Prop) (c25 : (Int32 × St) → Prop) (u2 : Nat) (u3 : Int32) (σ : St) : Prop := ((σ.1 0 2) ≤ u3 → P_X0_blank u2 σ (fun s5 => vp_in (s5.1 0 2) 4 ∧ ∀ s7 : St, s7 = wS s5 (ix (s5.1 0 2)) u2 → (K (s7.1 0 2) s7))) ∧ (¬ ((σ.1 0 2) ≤ u3) → (vp_in (u3 + 1) 4 ∧ sOk (σ.2.2 (ix (u3 + 1))) ∧ (vp_in u3 4 ∧ ∀ s11 : St, s11 = wS σ (ix u3) (σ.2.2 (ix (u3 + 1))) → ∀ v12 : Int32, v12 = u3 + 1 → c25 (v12, s11))))
set_option maxHeartbeats 4000000 in
set_option maxRecDepth 100000 in
theorem F_X7_remove_25_w {κ : Kap} {K : Int32 → St → Prop} {c25 : (Int32 × St) → Prop} (C : Ok κ RX7 cX7_remove 4 1) (hret : RetI κ cX7_remove .int K) (u2 : Nat) (u3 : Int32)  (hu2 : sOk u2)  (σ : St) (hc25 : ∀ (u3 : Int32) (σ : St), c25 (u3, σ) → GG κ 25 [(0, .ref (kad κ 0)), (2, .ref (kad κ u2)), (3, .int u3)] [] σ) (hp : F_X7_remove_25 K c25 u2 u3 σ) : GG κ 25 [(0, .ref (kad κ 0)), (2, .ref (kad κ u2)), (3, .int u3)] [] σ := by
  unfold F_X7_remove_25 at hp
  refine x_iload_n 2 C rfl (dX7_remove_p0 16 rfl) ?_
  refine x_aload_n 0 C rfl (dX7_remove_p0 17 rfl) ?_
  refine gX7_2 C rfl (by decide) tw_236 (dX7_remove_p0 18 rfl) ?_
  refine x_icmp_ge (tgt := 53) C (dX7_remove_p0 19 rfl) (by decide) (fun hc => ?_) (fun hc => ?_)
  · have hp := hp.1 hc
    refine x_aload_n 1 C rfl (dX7_remove_p0 32 rfl) ?_
    refine x_cvV (As := []) (st := []) C LRX7_106 (ci := 0) rfl (s_kd hu2) (by decide) (s_lt hu2) (m_X0_blank (kL κ) (kad κ) (kD κ) (kca κ) C.ado u2 hu2 σ _ hp) rfl (by decide) rfl (Nat.le_of_ble_eq_true rfl) (dX7_remove_p0 33 rfl) (fun s5 hp => ?_)
    refine x_aload_n 0 C rfl (dX7_remove_p0 34 rfl) ?_
    refine gX7_1 (b := 4) C rfl (by decide) rfl tw_235 (dX7_remove_p0 35 rfl) ?_
    refine x_aload_n 0 C rfl (dX7_remove_p0 36 rfl) ?_
    refine gX7_2 C rfl (by decide) tw_236 (dX7_remove_p0 37 rfl) ?_
    refine x_aload_n 1 C rfl (dX7_remove_p0 38 rfl) ?_
    obtain ⟨h6, hp⟩ := hp
    refine x_sast C (s_kd hu2) (s_lt hu2) h6 (dX7_remove_p0 39 rfl) ?_
    refine x_nmS (fun s7 es7 => ?_)
    have hp := hp s7 es7
    refine x_aload_n 0 C rfl (dX7_remove_p0 40 rfl) ?_
    refine gX7_2 C rfl (by decide) tw_236 (dX7_remove_p0 41 rfl) ?_
    exact hret _ _ _ _ (dX7_remove_p0 42 rfl) (nar_i _) hp
  · have hp := hp.2 hc
    refine x_aload_n 0 C rfl (dX7_remove_p0 20 rfl) ?_
    refine gX7_1 (b := 4) C rfl (by decide) rfl tw_235 (dX7_remove_p0 21 rfl) ?_
    refine x_iload_n 2 C rfl (dX7_remove_p0 22 rfl) ?_
    refine x_aload_n 0 C rfl (dX7_remove_p0 23 rfl) ?_
    refine gX7_1 (b := 4) C rfl (by decide) rfl tw_235 (dX7_remove_p0 24 rfl) ?_
    refine x_iload_n 2 C rfl (dX7_remove_p0 25 rfl) ?_
    refine x_iconst (v := 1) C (by decide) (dX7_remove_p0 26 rfl) ?_
    refine x_iadd C (dX7_remove_p0 27 rfl) ?_
    obtain ⟨h8, hp⟩ := hp
    obtain ⟨h9, hp⟩ := hp
    refine x_aald (c := 15) (b := σ.2.2 (ix (u3 + 1))) C rfl (by decide) rfl rfl (by decide) h8 rfl (dX7_remove_p0 28 rfl) ?_
    obtain ⟨h10, hp⟩ := hp
    refine x_sast C (s_kd h9) (s_lt h9) h10 (dX7_remove_p0 29 rfl) ?_
    refine x_nmS (fun s11 es11 => ?_)
    have hp := hp s11 es11
    obtain ⟨v12, ev12⟩ : ∃ z : Int32, z = u3 + 1 := ⟨_, rfl⟩
    have hp := hp v12 ev12
    refine x_iinc (v := v12) (loc' := [(3, .int v12), (0, .ref (kad κ 0)), (2, .ref (kad κ u2))]) 2 C rfl (by rw [ev12]; rfl) (by decide) rfl (dX7_remove_p0 30 rfl) ?_
    refine x_goto (tgt := 25) C (dX7_remove_p0 31 rfl) (by decide) ?_
    refine x_loc (loc' := [(0, .ref (kad κ 0)), (2, .ref (kad κ u2)), (3, .int v12)]) [1, 2, 0] rfl ?_
    exact hc25 v12 s11 hp
def P_X7_remove (p1 : Int32) (σ : St) (K : Int32 → St → Prop) : Prop := P_X7_find p1 σ (fun r3 s1 => (r3 = none → (K (-1000001) s1)) ∧ (∀ b2 : Nat, r3 = some b2 → sOk b2 ∧ (∀ s4 : St, s4 = wI s1 0 2 ((s1.1 0 2) - 1) → (LpE (fun c s => F_X7_remove_25 K  c b2 s.1 s.2) (p1, s4)))))
set_option maxHeartbeats 4000000 in
set_option maxRecDepth 100000 in
theorem m_X7_remove (l : Launch) (ad : Nat → Nat) (D : va_G) (ca : Nat → ClassId) (had : adOk ad) (p1 : Int32)  (σ : St) (K : Int32 → St → Prop) (hp : P_X7_remove p1 σ K) : CtI l ad D ca yX7_remove cX7_remove 4 .int 1 [.ref (ad 0), .int p1] σ K := CtI_of (av := fun ad => [.ref (ad 0), .int p1]) (plainFor_of_name (by decide)) had (Nat.le_of_ble_eq_true rfl) (fun κ C hret => by
  have C : Ok κ RX7 cX7_remove 4 1 := C
  show GG κ 0 [(0, .ref (kad κ 0)), (1, .int p1)] [] σ
  unfold P_X7_remove at hp
  refine x_aload_n 0 C rfl (dX7_remove_p0 0 rfl) ?_
  refine x_iload_n 1 C rfl (dX7_remove_p0 1 rfl) ?_
  refine x_cvQ (As := [.int p1]) (st := []) C LRX7_101 (ci := 7) rfl rfl (by decide) (by decide) (m_X7_find (kL κ) (kad κ) (kD κ) (kca κ) C.ado p1  σ _ hp) rfl (by decide) rfl (Nat.le_of_ble_eq_true rfl) (dX7_remove_p0 2 rfl) (fun s1 hp => ?_) (fun b2 s1 hp => ?_)
  · have hp := hp.1 rfl
    refine x_astore_nN (loc' := [(2, .null), (0, .ref (kad κ 0)), (1, .int p1)]) C rfl (by decide) rfl (dX7_remove_p0 3 rfl) ?_
    refine x_aload_nN 0 C rfl (dX7_remove_p0 4 rfl) ?_
    refine x_ifnonnullN C (dX7_remove_p0 5 rfl) ?_
    refine x_ldc C tw_326 (dX7_remove_p0 6 rfl) ?_
    exact hret _ _ _ _ (dX7_remove_p0 7 rfl) (nar_i _) hp
  · obtain ⟨hb2, hp⟩ := hp.2 b2 rfl
    refine x_astore_n (loc' := [(2, .ref (kad κ b2)), (0, .ref (kad κ 0)), (1, .int p1)]) C rfl (by decide) rfl (dX7_remove_p0 3 rfl) ?_
    refine x_aload_n 0 C rfl (dX7_remove_p0 4 rfl) ?_
    refine x_ifnonnull (tgt := 13) C (dX7_remove_p0 5 rfl) (by decide) ?_
    refine x_aload_n 1 C rfl (dX7_remove_p0 8 rfl) ?_
    refine x_dup C rfl (dX7_remove_p0 9 rfl) ?_
    refine gX7_2 C rfl (by decide) tw_236 (dX7_remove_p0 10 rfl) ?_
    refine x_iconst (v := 1) C (by decide) (dX7_remove_p0 11 rfl) ?_
    refine x_isub C (dX7_remove_p0 12 rfl) ?_
    refine qX7_2 C rfl (by decide) tw_236 (dX7_remove_p0 13 rfl) ?_
    refine x_nmS (fun s4 es4 => ?_)
    have hp := hp s4 es4
    refine x_iload_n 2 C rfl (dX7_remove_p0 14 rfl) ?_
    refine x_istore_n (loc' := [(3, .int p1), (2, .ref (kad κ b2)), (0, .ref (kad κ 0)), (1, .int p1)]) C rfl (by decide) rfl (dX7_remove_p0 15 rfl) ?_
    refine x_loc (loc' := [(0, .ref (kad κ 0)), (2, .ref (kad κ b2)), (3, .int p1)]) [2, 1, 0] rfl ?_
    exact LpE_GG (S := (Int32 × St)) (F := fun c s => F_X7_remove_25 K  c b2 s.1 s.2) (W := fun s => GG κ 25 [(0, .ref (kad κ 0)), (2, .ref (kad κ b2)), (3, .int s.1)] [] s.2) (fun c s hcc hp => F_X7_remove_25_w C hret b2 s.1 hb2 s.2  (fun u3 σ h => hcc (u3, σ) h) hp) hp)
def P_X7_restore (p1 : Int32) (σ : St) (K : Int32 → St → Prop) : Prop := (p1 < 0 → (K (-1000001) σ)) ∧ (¬ (p1 < 0) → ((p1 < 2 → vp_in p1 2 ∧ (((σ.1 124 (ix p1)) = 0 → (K (-1000004) σ)) ∧ (¬ ((σ.1 124 (ix p1)) = 0) → vp_in p1 2 ∧ (P_X6_copyFrom 81 (96 + 14 * ix p1) σ (fun s3 => P_X6_countNonZero 81 s3 (fun r5 s4 => K r5 s4)))))) ∧ (¬ (p1 < 2) → (K (-1000001) σ))))
set_option maxHeartbeats 4000000 in
set_option maxRecDepth 100000 in
theorem m_X7_restore (l : Launch) (ad : Nat → Nat) (D : va_G) (ca : Nat → ClassId) (had : adOk ad) (p1 : Int32)  (σ : St) (K : Int32 → St → Prop) (hp : P_X7_restore p1 σ K) : CtI l ad D ca yX7_restore cX7_restore 2 .int 2 [.ref (ad 0), .int p1] σ K := CtI_of (av := fun ad => [.ref (ad 0), .int p1]) (plainFor_of_name (by decide)) had (Nat.le_of_ble_eq_true rfl) (fun κ C hret => by
  have C : Ok κ RX7 cX7_restore 2 2 := C
  show GG κ 0 [(0, .ref (kad κ 0)), (1, .int p1)] [] σ
  unfold P_X7_restore at hp
  refine x_iload_n 1 C rfl (dX7_restore_p0 0 rfl) ?_
  refine x_if_lt (tgt := 9) C (dX7_restore_p0 1 rfl) (by decide) (fun hc => ?_) (fun hc => ?_)
  · have hp := hp.1 hc
    refine x_ldc C tw_326 (dX7_restore_p0 5 rfl) ?_
    exact hret _ _ _ _ (dX7_restore_p0 6 rfl) (nar_i _) hp
  · have hp := hp.2 hc
    refine x_iload_n 1 C rfl (dX7_restore_p0 2 rfl) ?_
    refine x_iconst (v := 2) C (by decide) (dX7_restore_p0 3 rfl) ?_
    refine x_icmp_lt (tgt := 12) C (dX7_restore_p0 4 rfl) (by decide) (fun hc => ?_) (fun hc => ?_)
    · have hp := hp.1 hc
      refine x_aload_n 0 C rfl (dX7_restore_p0 7 rfl) ?_
      refine gX7_5 (b := 124) C rfl (by decide) rfl tw_239 (dX7_restore_p0 8 rfl) ?_
      refine x_iload_n 1 C rfl (dX7_restore_p0 9 rfl) ?_
      obtain ⟨h1, hp⟩ := hp
      refine x_zald C rfl (by decide) h1 (dX7_restore_p0 10 rfl) ?_
      refine x_if_ne (tgt := 24) C (dX7_restore_p0 11 rfl) (by decide) (fun hc => ?_) (fun hc => ?_)
      · have hp := hp.2 hc
        refine x_aload_n 0 C rfl (dX7_restore_p0 14 rfl) ?_
        refine gX7_3 (b := 81) C rfl (by decide) rfl tw_237 (dX7_restore_p0 15 rfl) ?_
        refine x_aload_n 0 C rfl (dX7_restore_p0 16 rfl) ?_
        refine gX7_4 (b := 95) C rfl (by decide) rfl tw_238 (dX7_restore_p0 17 rfl) ?_
        refine x_iload_n 1 C rfl (dX7_restore_p0 18 rfl) ?_
        obtain ⟨h2, hp⟩ := hp
        refine x_aald (c := 16) (b := 96 + 14 * ix p1) C rfl (by decide) rfl rfl (by decide) h2 (slot_mr h2) (dX7_restore_p0 19 rfl) ?_
        refine x_cvV (As := [.ref (kad κ (96 + 14 * ix p1))]) (st := []) C LRX7_243 (ci := 6) rfl (w_kd (Or.inl rfl)) (by decide) (w_lt (Or.inl rfl)) (m_X6_copyFrom (kL κ) (kad κ) (kD κ) (kca κ) C.ado 81 (96 + 14 * ix p1) (Or.inl rfl) (w_slot h2) σ _ hp) rfl (by decide) rfl (Nat.le_of_ble_eq_true rfl) (dX7_restore_p0 20 rfl) (fun s3 hp => ?_)
        refine x_aload_n 0 C rfl (dX7_restore_p0 21 rfl) ?_
        refine gX7_3 (b := 81) C rfl (by decide) rfl tw_237 (dX7_restore_p0 22 rfl) ?_
        refine x_cvI (As := []) (st := []) C LRX7_247 (ci := 6) rfl (w_kd (Or.inl rfl)) (by decide) (w_lt (Or.inl rfl)) (m_X6_countNonZero (kL κ) (kad κ) (kD κ) (kca κ) C.ado 81 (Or.inl rfl) s3 _ hp) rfl (by decide) rfl (Nat.le_of_ble_eq_true rfl) (dX7_restore_p0 23 rfl) (fun r5 s4 hp => ?_)
        exact hret _ _ _ _ (dX7_restore_p0 24 rfl) (nar_i _) hp
      · have hp := hp.1 hc
        refine x_ldc C tw_299 (dX7_restore_p0 12 rfl) ?_
        exact hret _ _ _ _ (dX7_restore_p0 13 rfl) (nar_i _) hp
    · have hp := hp.2 hc
      refine x_ldc C tw_326 (dX7_restore_p0 5 rfl) ?_
      exact hret _ _ _ _ (dX7_restore_p0 6 rfl) (nar_i _) hp)
def P_X7_riskHead (p1 : Int32) (p2 : Int32) (σ : St) (K : Int32 → St → Prop) : Prop := P_X7_find p1 σ (fun r3 s1 => (r3 = none → (K (-1000001) s1)) ∧ (∀ b2 : Nat, r3 = some b2 → sOk b2 ∧ P_X0_hasWord b2 p2 s1 (fun r5 s4 => (r5 = 0 → (K (-1000001) s4)) ∧ (¬ (r5 = 0) → P_X7_sumWeights b2 s4 (fun r7 s6 => (0 < r7 → P_X5_spread  s6 (fun s8 => P_X7_offerArcs b2 1 s8 (fun s9 => P_X4_seek 1 s9 (fun s10 => ((s10.1 126 9) = 0 → (K (-1000004) s10)) ∧ (¬ ((s10.1 126 9) = 0) → P_X4_headAt 0 p2 s10 (fun r12 s11 => K r12 s11)))))) ∧ (¬ (0 < r7) → (K (-1000004) s6)))))))
set_option maxHeartbeats 4000000 in
set_option maxRecDepth 100000 in
theorem m_X7_riskHead (l : Launch) (ad : Nat → Nat) (D : va_G) (ca : Nat → ClassId) (had : adOk ad) (p1 : Int32) (p2 : Int32)  (σ : St) (K : Int32 → St → Prop) (hp : P_X7_riskHead p1 p2 σ K) : CtI l ad D ca yX7_riskHead cX7_riskHead 4 .int 12 [.ref (ad 0), .int p1, .int p2] σ K := CtI_of (av := fun ad => [.ref (ad 0), .int p1, .int p2]) (plainFor_of_name (by decide)) had (Nat.le_of_ble_eq_true rfl) (fun κ C hret => by
  have C : Ok κ RX7 cX7_riskHead 4 12 := C
  show GG κ 0 [(0, .ref (kad κ 0)), (1, .int p1), (2, .int p2)] [] σ
  unfold P_X7_riskHead at hp
  refine x_aload_n 0 C rfl (dX7_riskHead_p0 0 rfl) ?_
  refine x_iload_n 1 C rfl (dX7_riskHead_p0 1 rfl) ?_
  refine x_cvQ (As := [.int p1]) (st := []) C LRX7_101 (ci := 7) rfl rfl (by decide) (by decide) (m_X7_find (kL κ) (kad κ) (kD κ) (kca κ) C.ado p1  σ _ hp) rfl (by decide) rfl (Nat.le_of_ble_eq_true rfl) (dX7_riskHead_p0 2 rfl) (fun s1 hp => ?_) (fun b2 s1 hp => ?_)
  · have hp := hp.1 rfl
    refine x_astore_nN (loc' := [(3, .null), (0, .ref (kad κ 0)), (1, .int p1), (2, .int p2)]) C rfl (by decide) rfl (dX7_riskHead_p0 3 rfl) ?_
    refine x_aload_nN 0 C rfl (dX7_riskHead_p0 4 rfl) ?_
    refine x_ifnullN (tgt := 18) C (dX7_riskHead_p0 5 rfl) (by decide) ?_
    refine x_ldc C tw_326 (dX7_riskHead_p0 10 rfl) ?_
    exact hret _ _ _ _ (dX7_riskHead_p0 11 rfl) (nar_i _) hp
  · obtain ⟨hb2, hp⟩ := hp.2 b2 rfl
    refine x_astore_n (loc' := [(3, .ref (kad κ b2)), (0, .ref (kad κ 0)), (1, .int p1), (2, .int p2)]) C rfl (by decide) rfl (dX7_riskHead_p0 3 rfl) ?_
    refine x_aload_n 0 C rfl (dX7_riskHead_p0 4 rfl) ?_
    refine x_ifnull C (dX7_riskHead_p0 5 rfl) ?_
    refine x_aload_n 0 C rfl (dX7_riskHead_p0 6 rfl) ?_
    refine x_iload_n 3 C rfl (dX7_riskHead_p0 7 rfl) ?_
    refine x_cvI (As := [.int p2]) (st := []) C LRX7_112 (ci := 0) rfl (s_kd hb2) (by decide) (s_lt hb2) (m_X0_hasWord (kL κ) (kad κ) (kD κ) (kca κ) C.ado b2 p2 hb2 s1 _ hp) rfl (by decide) rfl (Nat.le_of_ble_eq_true rfl) (dX7_riskHead_p0 8 rfl) (fun r5 s4 hp => ?_)
    refine x_if_ne (tgt := 21) C (dX7_riskHead_p0 9 rfl) (by decide) (fun hc => ?_) (fun hc => ?_)
    · have hp := hp.2 hc
      refine x_aload_n 1 C rfl (dX7_riskHead_p0 12 rfl) ?_
      refine x_aload_n 0 C rfl (dX7_riskHead_p0 13 rfl) ?_
      refine x_cvL (As := [.ref (kad κ b2)]) (st := []) C LRX7_199 (ci := 7) rfl rfl (by decide) (by decide) (m_X7_sumWeights (kL κ) (kad κ) (kD κ) (kca κ) C.ado b2 hb2 s4 _ hp) rfl (by decide) rfl (Nat.le_of_ble_eq_true rfl) (dX7_riskHead_p0 14 rfl) (fun r7 s6 hp => ?_)
      refine x_lconst (v := 0) C (by decide) (dX7_riskHead_p0 15 rfl) ?_
      refine x_lcmp C (dX7_riskHead_p0 16 rfl) ?_
      refine x_if_gt (tgt := 34) C (dX7_riskHead_p0 17 rfl) (by decide) (fun hc => ?_) (fun hc => ?_)
      · have hp := hp.1 (lgc_gt.mp hc)
        refine x_aload_n 1 C rfl (dX7_riskHead_p0 20 rfl) ?_
        refine gX7_8 (b := 147) C rfl (by decide) rfl tw_242 (dX7_riskHead_p0 21 rfl) ?_
        refine x_cvV (As := []) (st := []) C LRX7_205 (ci := 5) rfl rfl (by decide) (by decide) (m_X5_spread (kL κ) (kad κ) (kD κ) (kca κ) C.ado   s6 _ hp) rfl (by decide) rfl (Nat.le_of_ble_eq_true rfl) (dX7_riskHead_p0 22 rfl) (fun s8 hp => ?_)
        refine x_aload_n 1 C rfl (dX7_riskHead_p0 23 rfl) ?_
        refine x_aload_n 0 C rfl (dX7_riskHead_p0 24 rfl) ?_
        refine x_iconst (v := 1) C (by decide) (dX7_riskHead_p0 25 rfl) ?_
        refine x_cvV (As := [.ref (kad κ b2), .int 1]) (st := []) C LRX7_216 (ci := 7) rfl rfl (by decide) (by decide) (m_X7_offerArcs (kL κ) (kad κ) (kD κ) (kca κ) C.ado b2 1 hb2 s8 _ hp) rfl (by decide) rfl (Nat.le_of_ble_eq_true rfl) (dX7_riskHead_p0 26 rfl) (fun s9 hp => ?_)
        refine x_aload_n 1 C rfl (dX7_riskHead_p0 27 rfl) ?_
        refine gX7_7 (b := 126) C rfl (by decide) rfl tw_241 (dX7_riskHead_p0 28 rfl) ?_
        refine x_iconst (v := 1) C (by decide) (dX7_riskHead_p0 29 rfl) ?_
        refine x_cvV (As := [.int 1]) (st := []) C LRX7_187 (ci := 4) rfl rfl (by decide) (by decide) (m_X4_seek (kL κ) (kad κ) (kD κ) (kca κ) C.ado 1  s9 _ hp) rfl (by decide) rfl (Nat.le_of_ble_eq_true rfl) (dX7_riskHead_p0 30 rfl) (fun s10 hp => ?_)
        refine x_aload_n 1 C rfl (dX7_riskHead_p0 31 rfl) ?_
        refine gX7_7 (b := 126) C rfl (by decide) rfl tw_241 (dX7_riskHead_p0 32 rfl) ?_
        refine gX4_9 C rfl (by decide) tw_133 (dX7_riskHead_p0 33 rfl) ?_
        refine x_if_ne (tgt := 70) C (dX7_riskHead_p0 34 rfl) (by decide) (fun hc => ?_) (fun hc => ?_)
        · have hp := hp.2 hc
          refine x_aload_n 1 C rfl (dX7_riskHead_p0 37 rfl) ?_
          refine gX7_7 (b := 126) C rfl (by decide) rfl tw_241 (dX7_riskHead_p0 38 rfl) ?_
          refine x_iconst (v := 0) C (by decide) (dX7_riskHead_p0 39 rfl) ?_
          refine x_iload_n 3 C rfl (dX7_riskHead_p0 40 rfl) ?_
          refine x_cvI (As := [.int 0, .int p2]) (st := []) C LRX7_140 (ci := 4) rfl rfl (by decide) (by decide) (m_X4_headAt (kL κ) (kad κ) (kD κ) (kca κ) C.ado 0 p2  s10 _ hp) rfl (by decide) rfl (Nat.le_of_ble_eq_true rfl) (dX7_riskHead_p0 41 rfl) (fun r12 s11 hp => ?_)
          exact hret _ _ _ _ (dX7_riskHead_p0 42 rfl) (nar_i _) hp
        · have hp := hp.1 hc
          refine x_ldc C tw_299 (dX7_riskHead_p0 35 rfl) ?_
          refine x_goto (tgt := 79) C (dX7_riskHead_p0 36 rfl) (by decide) ?_
          exact hret _ _ _ _ (dX7_riskHead_p0 42 rfl) (nar_i _) hp
      · have hp := hp.2 (fun q => hc (lgc_gt.mpr q))
        refine x_ldc C tw_299 (dX7_riskHead_p0 18 rfl) ?_
        exact hret _ _ _ _ (dX7_riskHead_p0 19 rfl) (nar_i _) hp
    · have hp := hp.1 hc
      refine x_ldc C tw_326 (dX7_riskHead_p0 10 rfl) ?_
      exact hret _ _ _ _ (dX7_riskHead_p0 11 rfl) (nar_i _) hp)
def P_X7_save (p1 : Int32) (σ : St) (K : Int32 → St → Prop) : Prop := (p1 < 0 → (K (-1000001) σ)) ∧ (¬ (p1 < 0) → ((p1 < 2 → vp_in p1 2 ∧ (P_X6_copyFrom (96 + 14 * ix p1) 81 σ (fun s2 => vp_in p1 2 ∧ ∀ s4 : St, s4 = wI s2 124 (ix p1) 1 → P_X6_countNonZero 81 s4 (fun r6 s5 => K r6 s5)))) ∧ (¬ (p1 < 2) → (K (-1000001) σ))))
set_option maxHeartbeats 4000000 in
set_option maxRecDepth 100000 in
theorem m_X7_save (l : Launch) (ad : Nat → Nat) (D : va_G) (ca : Nat → ClassId) (had : adOk ad) (p1 : Int32)  (σ : St) (K : Int32 → St → Prop) (hp : P_X7_save p1 σ K) : CtI l ad D ca yX7_save cX7_save 2 .int 2 [.ref (ad 0), .int p1] σ K := CtI_of (av := fun ad => [.ref (ad 0), .int p1]) (plainFor_of_name (by decide)) had (Nat.le_of_ble_eq_true rfl) (fun κ C hret => by
  have C : Ok κ RX7 cX7_save 2 2 := C
  show GG κ 0 [(0, .ref (kad κ 0)), (1, .int p1)] [] σ
  unfold P_X7_save at hp
  refine x_iload_n 1 C rfl (dX7_save_p0 0 rfl) ?_
  refine x_if_lt (tgt := 9) C (dX7_save_p0 1 rfl) (by decide) (fun hc => ?_) (fun hc => ?_)
  · have hp := hp.1 hc
    refine x_ldc C tw_326 (dX7_save_p0 5 rfl) ?_
    exact hret _ _ _ _ (dX7_save_p0 6 rfl) (nar_i _) hp
  · have hp := hp.2 hc
    refine x_iload_n 1 C rfl (dX7_save_p0 2 rfl) ?_
    refine x_iconst (v := 2) C (by decide) (dX7_save_p0 3 rfl) ?_
    refine x_icmp_lt (tgt := 12) C (dX7_save_p0 4 rfl) (by decide) (fun hc => ?_) (fun hc => ?_)
    · have hp := hp.1 hc
      refine x_aload_n 0 C rfl (dX7_save_p0 7 rfl) ?_
      refine gX7_4 (b := 95) C rfl (by decide) rfl tw_238 (dX7_save_p0 8 rfl) ?_
      refine x_iload_n 1 C rfl (dX7_save_p0 9 rfl) ?_
      obtain ⟨h1, hp⟩ := hp
      refine x_aald (c := 16) (b := 96 + 14 * ix p1) C rfl (by decide) rfl rfl (by decide) h1 (slot_mr h1) (dX7_save_p0 10 rfl) ?_
      refine x_aload_n 0 C rfl (dX7_save_p0 11 rfl) ?_
      refine gX7_3 (b := 81) C rfl (by decide) rfl tw_237 (dX7_save_p0 12 rfl) ?_
      refine x_cvV (As := [.ref (kad κ 81)]) (st := []) C LRX7_243 (ci := 6) rfl (w_kd (w_slot h1)) (by decide) (w_lt (w_slot h1)) (m_X6_copyFrom (kL κ) (kad κ) (kD κ) (kca κ) C.ado (96 + 14 * ix p1) 81 (w_slot h1) (Or.inl rfl) σ _ hp) rfl (by decide) rfl (Nat.le_of_ble_eq_true rfl) (dX7_save_p0 13 rfl) (fun s2 hp => ?_)
      refine x_aload_n 0 C rfl (dX7_save_p0 14 rfl) ?_
      refine gX7_5 (b := 124) C rfl (by decide) rfl tw_239 (dX7_save_p0 15 rfl) ?_
      refine x_iload_n 1 C rfl (dX7_save_p0 16 rfl) ?_
      refine x_iconst (v := 1) C (by decide) (dX7_save_p0 17 rfl) ?_
      obtain ⟨h3, hp⟩ := hp
      refine x_zast C rfl (by decide) h3 isB1 (dX7_save_p0 18 rfl) ?_
      refine x_nmS (fun s4 es4 => ?_)
      have hp := hp s4 es4
      refine x_aload_n 0 C rfl (dX7_save_p0 19 rfl) ?_
      refine gX7_3 (b := 81) C rfl (by decide) rfl tw_237 (dX7_save_p0 20 rfl) ?_
      refine x_cvI (As := []) (st := []) C LRX7_247 (ci := 6) rfl (w_kd (Or.inl rfl)) (by decide) (w_lt (Or.inl rfl)) (m_X6_countNonZero (kL κ) (kad κ) (kD κ) (kca κ) C.ado 81 (Or.inl rfl) s4 _ hp) rfl (by decide) rfl (Nat.le_of_ble_eq_true rfl) (dX7_save_p0 21 rfl) (fun r6 s5 hp => ?_)
      exact hret _ _ _ _ (dX7_save_p0 22 rfl) (nar_i _) hp
    · have hp := hp.2 hc
      refine x_ldc C tw_326 (dX7_save_p0 5 rfl) ?_
      exact hret _ _ _ _ (dX7_save_p0 6 rfl) (nar_i _) hp)
def P_X7_score (p1 : Int32) (p2 : Int32) (p3 : Int32) (σ : St) (K : Int32 → St → Prop) : Prop := P_X7_find p1 σ (fun r3 s1 => (r3 = none → (K (-1000001) s1)) ∧ (∀ b2 : Nat, r3 = some b2 → sOk b2 ∧ P_X0_hasArc b2 p2 p3 s1 (fun r5 s4 => (r5 = 0 → (K (-1000001) s4)) ∧ (¬ (r5 = 0) → P_X7_arcScore b2 p2 p3 s4 (fun r7 s6 => K r7 s6)))))
set_option maxHeartbeats 4000000 in
set_option maxRecDepth 100000 in
theorem m_X7_score (l : Launch) (ad : Nat → Nat) (D : va_G) (ca : Nat → ClassId) (had : adOk ad) (p1 : Int32) (p2 : Int32) (p3 : Int32)  (σ : St) (K : Int32 → St → Prop) (hp : P_X7_score p1 p2 p3 σ K) : CtI l ad D ca yX7_score cX7_score 5 .int 3 [.ref (ad 0), .int p1, .int p2, .int p3] σ K := CtI_of (av := fun ad => [.ref (ad 0), .int p1, .int p2, .int p3]) (plainFor_of_name (by decide)) had (Nat.le_of_ble_eq_true rfl) (fun κ C hret => by
  have C : Ok κ RX7 cX7_score 5 3 := C
  show GG κ 0 [(0, .ref (kad κ 0)), (1, .int p1), (2, .int p2), (3, .int p3)] [] σ
  unfold P_X7_score at hp
  refine x_aload_n 0 C rfl (dX7_score_p0 0 rfl) ?_
  refine x_iload_n 1 C rfl (dX7_score_p0 1 rfl) ?_
  refine x_cvQ (As := [.int p1]) (st := []) C LRX7_101 (ci := 7) rfl rfl (by decide) (by decide) (m_X7_find (kL κ) (kad κ) (kD κ) (kca κ) C.ado p1  σ _ hp) rfl (by decide) rfl (Nat.le_of_ble_eq_true rfl) (dX7_score_p0 2 rfl) (fun s1 hp => ?_) (fun b2 s1 hp => ?_)
  · have hp := hp.1 rfl
    refine x_astoreN (loc' := [(4, .null), (0, .ref (kad κ 0)), (1, .int p1), (2, .int p2), (3, .int p3)]) C (by decide) rfl (dX7_score_p0 3 rfl) ?_
    refine x_aloadN 0 C rfl (dX7_score_p0 4 rfl) ?_
    refine x_ifnullN (tgt := 22) C (dX7_score_p0 5 rfl) (by decide) ?_
    refine x_ldc C tw_326 (dX7_score_p0 11 rfl) ?_
    refine x_goto (tgt := 35) C (dX7_score_p0 12 rfl) (by decide) ?_
    exact hret _ _ _ _ (dX7_score_p0 18 rfl) (nar_i _) hp
  · obtain ⟨hb2, hp⟩ := hp.2 b2 rfl
    refine x_astore (loc' := [(4, .ref (kad κ b2)), (0, .ref (kad κ 0)), (1, .int p1), (2, .int p2), (3, .int p3)]) C (by decide) rfl (dX7_score_p0 3 rfl) ?_
    refine x_aload 0 C rfl (dX7_score_p0 4 rfl) ?_
    refine x_ifnull C (dX7_score_p0 5 rfl) ?_
    refine x_aload 0 C rfl (dX7_score_p0 6 rfl) ?_
    refine x_iload_n 3 C rfl (dX7_score_p0 7 rfl) ?_
    refine x_iload_n 4 C rfl (dX7_score_p0 8 rfl) ?_
    refine x_cvI (As := [.int p2, .int p3]) (st := []) C LRX7_121 (ci := 0) rfl (s_kd hb2) (by decide) (s_lt hb2) (m_X0_hasArc (kL κ) (kad κ) (kD κ) (kca κ) C.ado b2 p2 p3 hb2 s1 _ hp) rfl (by decide) rfl (Nat.le_of_ble_eq_true rfl) (dX7_score_p0 9 rfl) (fun r5 s4 hp => ?_)
    refine x_if_ne (tgt := 27) C (dX7_score_p0 10 rfl) (by decide) (fun hc => ?_) (fun hc => ?_)
    · have hp := hp.2 hc
      refine x_aload_n 1 C rfl (dX7_score_p0 13 rfl) ?_
      refine x_aload 0 C rfl (dX7_score_p0 14 rfl) ?_
      refine x_iload_n 3 C rfl (dX7_score_p0 15 rfl) ?_
      refine x_iload_n 4 C rfl (dX7_score_p0 16 rfl) ?_
      refine x_cvI (As := [.ref (kad κ b2), .int p2, .int p3]) (st := []) C LRX7_176 (ci := 7) rfl rfl (by decide) (by decide) (m_X7_arcScore (kL κ) (kad κ) (kD κ) (kca κ) C.ado b2 p2 p3 hb2 s4 _ hp) rfl (by decide) rfl (Nat.le_of_ble_eq_true rfl) (dX7_score_p0 17 rfl) (fun r7 s6 hp => ?_)
      exact hret _ _ _ _ (dX7_score_p0 18 rfl) (nar_i _) hp
    · have hp := hp.1 hc
      refine x_ldc C tw_326 (dX7_score_p0 11 rfl) ?_
      refine x_goto (tgt := 35) C (dX7_score_p0 12 rfl) (by decide) ?_
      exact hret _ _ _ _ (dX7_score_p0 18 rfl) (nar_i _) hp)
def P_X7_sentences  (σ : St) (K : Int32 → St → Prop) : Prop := K (σ.1 0 2) σ
set_option maxHeartbeats 4000000 in
set_option maxRecDepth 100000 in
theorem m_X7_sentences (l : Launch) (ad : Nat → Nat) (D : va_G) (ca : Nat → ClassId) (had : adOk ad)   (σ : St) (K : Int32 → St → Prop) (hp : P_X7_sentences  σ K) : CtI l ad D ca yX7_sentences cX7_sentences 1 .int 0 [.ref (ad 0)] σ K := CtI_of (av := fun ad => [.ref (ad 0)]) (plainFor_of_name (by decide)) had (Nat.le_of_ble_eq_true rfl) (fun κ C hret => by
  have C : Ok κ RX7 cX7_sentences 1 0 := C
  show GG κ 0 [(0, .ref (kad κ 0))] [] σ
  unfold P_X7_sentences at hp
  refine x_aload_n 0 C rfl (dX7_sentences_p0 0 rfl) ?_
  refine gX7_2 C rfl (by decide) tw_236 (dX7_sentences_p0 1 rfl) ?_
  exact hret _ _ _ _ (dX7_sentences_p0 2 rfl) (nar_i _) hp)
def P_X7_setBias (p1 : Int32) (p2 : Int32) (p3 : Int32) (p4 : Int32) (σ : St) (K : Int32 → St → Prop) : Prop := P_X7_find p1 σ (fun r3 s1 => (r3 = none → (K (-1000001) s1)) ∧ (∀ b2 : Nat, r3 = some b2 → sOk b2 ∧ P_X0_hasArc b2 p2 p3 s1 (fun r5 s4 => (r5 = 0 → (K (-1000001) s4)) ∧ (¬ (r5 = 0) → P_X7_isWithin p4 99 s4 (fun r7 s6 => (r7 = 0 → (K (-1000002) s6)) ∧ (¬ (r7 = 0) → vp_in p2 7 ∧ vp_in p3 7 ∧ (∀ v10 : Int32, v10 = (s6.1 ((b2 + 3) + 1 + ix p2) (ix p3)) → vp_in p2 7 ∧ (vp_in p3 7 ∧ ∀ s13 : St, s13 = wI s6 ((b2 + 3) + 1 + ix p2) (ix p3) p4 → (K v10 s13)))))))))
set_option maxHeartbeats 4000000 in
set_option maxRecDepth 100000 in
theorem m_X7_setBias (l : Launch) (ad : Nat → Nat) (D : va_G) (ca : Nat → ClassId) (had : adOk ad) (p1 : Int32) (p2 : Int32) (p3 : Int32) (p4 : Int32)  (σ : St) (K : Int32 → St → Prop) (hp : P_X7_setBias p1 p2 p3 p4 σ K) : CtI l ad D ca yX7_setBias cX7_setBias 7 .int 2 [.ref (ad 0), .int p1, .int p2, .int p3, .int p4] σ K := CtI_of (av := fun ad => [.ref (ad 0), .int p1, .int p2, .int p3, .int p4]) (plainFor_of_name (by decide)) had (Nat.le_of_ble_eq_true rfl) (fun κ C hret => by
  have C : Ok κ RX7 cX7_setBias 7 2 := C
  show GG κ 0 [(0, .ref (kad κ 0)), (1, .int p1), (2, .int p2), (3, .int p3), (4, .int p4)] [] σ
  unfold P_X7_setBias at hp
  refine x_aload_n 0 C rfl (dX7_setBias_p0 0 rfl) ?_
  refine x_iload_n 1 C rfl (dX7_setBias_p0 1 rfl) ?_
  refine x_cvQ (As := [.int p1]) (st := []) C LRX7_101 (ci := 7) rfl rfl (by decide) (by decide) (m_X7_find (kL κ) (kad κ) (kD κ) (kca κ) C.ado p1  σ _ hp) rfl (by decide) rfl (Nat.le_of_ble_eq_true rfl) (dX7_setBias_p0 2 rfl) (fun s1 hp => ?_) (fun b2 s1 hp => ?_)
  · have hp := hp.1 rfl
    refine x_astoreN (loc' := [(5, .null), (0, .ref (kad κ 0)), (1, .int p1), (2, .int p2), (3, .int p3), (4, .int p4)]) C (by decide) rfl (dX7_setBias_p0 3 rfl) ?_
    refine x_aloadN 0 C rfl (dX7_setBias_p0 4 rfl) ?_
    refine x_ifnullN (tgt := 22) C (dX7_setBias_p0 5 rfl) (by decide) ?_
    refine x_ldc C tw_326 (dX7_setBias_p0 11 rfl) ?_
    exact hret _ _ _ _ (dX7_setBias_p0 12 rfl) (nar_i _) hp
  · obtain ⟨hb2, hp⟩ := hp.2 b2 rfl
    refine x_astore (loc' := [(5, .ref (kad κ b2)), (0, .ref (kad κ 0)), (1, .int p1), (2, .int p2), (3, .int p3), (4, .int p4)]) C (by decide) rfl (dX7_setBias_p0 3 rfl) ?_
    refine x_aload 0 C rfl (dX7_setBias_p0 4 rfl) ?_
    refine x_ifnull C (dX7_setBias_p0 5 rfl) ?_
    refine x_aload 0 C rfl (dX7_setBias_p0 6 rfl) ?_
    refine x_iload_n 3 C rfl (dX7_setBias_p0 7 rfl) ?_
    refine x_iload_n 4 C rfl (dX7_setBias_p0 8 rfl) ?_
    refine x_cvI (As := [.int p2, .int p3]) (st := []) C LRX7_121 (ci := 0) rfl (s_kd hb2) (by decide) (s_lt hb2) (m_X0_hasArc (kL κ) (kad κ) (kD κ) (kca κ) C.ado b2 p2 p3 hb2 s1 _ hp) rfl (by decide) rfl (Nat.le_of_ble_eq_true rfl) (dX7_setBias_p0 9 rfl) (fun r5 s4 hp => ?_)
    refine x_if_ne (tgt := 25) C (dX7_setBias_p0 10 rfl) (by decide) (fun hc => ?_) (fun hc => ?_)
    · have hp := hp.2 hc
      refine x_iload 5 C rfl (dX7_setBias_p0 13 rfl) ?_
      refine x_bipush (v := 99) C (by decide) (dX7_setBias_p0 14 rfl) ?_
      refine x_csI (As := [.int p4, .int 99]) (st := []) C LRX7_147 (m_X7_isWithin (kL κ) (kad κ) (kD κ) (kca κ) C.ado p4 99  s4 _ hp) rfl (by decide) rfl (Nat.le_of_ble_eq_true rfl) (dX7_setBias_p0 15 rfl) (fun r7 s6 hp => ?_)
      refine x_if_ne (tgt := 38) C (dX7_setBias_p0 16 rfl) (by decide) (fun hc => ?_) (fun hc => ?_)
      · have hp := hp.2 hc
        refine x_aload 0 C rfl (dX7_setBias_p0 19 rfl) ?_
        refine gX0_3 (b := b2 + 3) C (s_kd hb2) (s_lt hb2) (s_m3 hb2) tw_59 (dX7_setBias_p0 20 rfl) ?_
        refine x_iload_n 3 C rfl (dX7_setBias_p0 21 rfl) ?_
        obtain ⟨h8, hp⟩ := hp
        refine x_aald (c := 13) (b := (b2 + 3) + 1 + ix p2) C (s_kd3 hb2) (by decide) rfl rfl (s_lt3 hb2) (vp_ln (s_ln3 hb2) h8) (row_mr13 (s_kd3 hb2) (s_lt3 hb2) (vp_ln (s_ln3 hb2) h8)) (dX7_setBias_p0 22 rfl) ?_
        refine x_iload_n 4 C rfl (dX7_setBias_p0 23 rfl) ?_
        obtain ⟨h9, hp⟩ := hp
        refine x_iald C (row_kd13 (s_kd3 hb2) (s_lt3 hb2) (vp_ln (s_ln3 hb2) h8)) (row_lt13 (s_kd3 hb2) (s_lt3 hb2) (vp_ln (s_ln3 hb2) h8)) (vp_ln ((row_ln13 (s_kd3 hb2) (s_lt3 hb2) (vp_ln (s_ln3 hb2) h8)).trans (s_iln3 hb2)) h9) (dX7_setBias_p0 24 rfl) ?_
        refine x_topI (fun v10 ev10 => ?_)
        have hp := hp v10 ev10
        refine x_istore (loc' := [(6, .int v10), (5, .ref (kad κ b2)), (0, .ref (kad κ 0)), (1, .int p1), (2, .int p2), (3, .int p3), (4, .int p4)]) C (by decide) rfl (dX7_setBias_p0 25 rfl) ?_
        refine x_aload 1 C rfl (dX7_setBias_p0 26 rfl) ?_
        refine gX0_3 (b := b2 + 3) C (s_kd hb2) (s_lt hb2) (s_m3 hb2) tw_59 (dX7_setBias_p0 27 rfl) ?_
        refine x_iload_n 4 C rfl (dX7_setBias_p0 28 rfl) ?_
        obtain ⟨h11, hp⟩ := hp
        refine x_aald (c := 13) (b := (b2 + 3) + 1 + ix p2) C (s_kd3 hb2) (by decide) rfl rfl (s_lt3 hb2) (vp_ln (s_ln3 hb2) h11) (row_mr13 (s_kd3 hb2) (s_lt3 hb2) (vp_ln (s_ln3 hb2) h11)) (dX7_setBias_p0 29 rfl) ?_
        refine x_iload_n 5 C rfl (dX7_setBias_p0 30 rfl) ?_
        refine x_iload 6 C rfl (dX7_setBias_p0 31 rfl) ?_
        obtain ⟨h12, hp⟩ := hp
        refine x_iast C (row_kd13 (s_kd3 hb2) (s_lt3 hb2) (vp_ln (s_ln3 hb2) h11)) (row_lt13 (s_kd3 hb2) (s_lt3 hb2) (vp_ln (s_ln3 hb2) h11)) (vp_ln ((row_ln13 (s_kd3 hb2) (s_lt3 hb2) (vp_ln (s_ln3 hb2) h11)).trans (s_iln3 hb2)) h12) (dX7_setBias_p0 32 rfl) ?_
        refine x_nmS (fun s13 es13 => ?_)
        have hp := hp s13 es13
        refine x_iload 0 C rfl (dX7_setBias_p0 33 rfl) ?_
        exact hret _ _ _ _ (dX7_setBias_p0 34 rfl) (nar_i _) hp
      · have hp := hp.1 hc
        refine x_ldc C tw_269 (dX7_setBias_p0 17 rfl) ?_
        exact hret _ _ _ _ (dX7_setBias_p0 18 rfl) (nar_i _) hp
    · have hp := hp.1 hc
      refine x_ldc C tw_326 (dX7_setBias_p0 11 rfl) ?_
      exact hret _ _ _ _ (dX7_setBias_p0 12 rfl) (nar_i _) hp)
def P_X7_setDistanceWeight (p1 : Int32) (p2 : Int32) (p3 : Int32) (σ : St) (K : Int32 → St → Prop) : Prop := P_X7_isDistance p1 p2 σ (fun r2 s1 => (r2 = 0 → (K (-1000001) s1)) ∧ (¬ (r2 = 0) → P_X7_isWithin p3 99 s1 (fun r4 s3 => (r4 = 0 → (K (-1000002) s3)) ∧ (¬ (r4 = 0) → vp_in p1 2 ∧ vp_in p2 7 ∧ (∀ v7 : Int32, v7 = (s3.1 ((81 + 11) + 1 + ix p1) (ix p2)) → vp_in p1 2 ∧ (vp_in p2 7 ∧ ∀ s10 : St, s10 = wI s3 ((81 + 11) + 1 + ix p1) (ix p2) p3 → (K v7 s10)))))))
set_option maxHeartbeats 4000000 in
set_option maxRecDepth 100000 in
theorem m_X7_setDistanceWeight (l : Launch) (ad : Nat → Nat) (D : va_G) (ca : Nat → ClassId) (had : adOk ad) (p1 : Int32) (p2 : Int32) (p3 : Int32)  (σ : St) (K : Int32 → St → Prop) (hp : P_X7_setDistanceWeight p1 p2 p3 σ K) : CtI l ad D ca yX7_setDistanceWeight cX7_setDistanceWeight 5 .int 1 [.ref (ad 0), .int p1, .int p2, .int p3] σ K := CtI_of (av := fun ad => [.ref (ad 0), .int p1, .int p2, .int p3]) (plainFor_of_name (by decide)) had (Nat.le_of_ble_eq_true rfl) (fun κ C hret => by
  have C : Ok κ RX7 cX7_setDistanceWeight 5 1 := C
  show GG κ 0 [(0, .ref (kad κ 0)), (1, .int p1), (2, .int p2), (3, .int p3)] [] σ
  unfold P_X7_setDistanceWeight at hp
  refine x_iload_n 1 C rfl (dX7_setDistanceWeight_p0 0 rfl) ?_
  refine x_iload_n 2 C rfl (dX7_setDistanceWeight_p0 1 rfl) ?_
  refine x_csI (As := [.int p1, .int p2]) (st := []) C LRX7_154 (m_X7_isDistance (kL κ) (kad κ) (kD κ) (kca κ) C.ado p1 p2  σ _ hp) rfl (by decide) rfl (Nat.le_of_ble_eq_true rfl) (dX7_setDistanceWeight_p0 2 rfl) (fun r2 s1 hp => ?_)
  refine x_if_ne (tgt := 11) C (dX7_setDistanceWeight_p0 3 rfl) (by decide) (fun hc => ?_) (fun hc => ?_)
  · have hp := hp.2 hc
    refine x_iload_n 3 C rfl (dX7_setDistanceWeight_p0 6 rfl) ?_
    refine x_bipush (v := 99) C (by decide) (dX7_setDistanceWeight_p0 7 rfl) ?_
    refine x_csI (As := [.int p3, .int 99]) (st := []) C LRX7_147 (m_X7_isWithin (kL κ) (kad κ) (kD κ) (kca κ) C.ado p3 99  s1 _ hp) rfl (by decide) rfl (Nat.le_of_ble_eq_true rfl) (dX7_setDistanceWeight_p0 8 rfl) (fun r4 s3 hp => ?_)
    refine x_if_ne (tgt := 23) C (dX7_setDistanceWeight_p0 9 rfl) (by decide) (fun hc => ?_) (fun hc => ?_)
    · have hp := hp.2 hc
      refine x_aload_n 0 C rfl (dX7_setDistanceWeight_p0 12 rfl) ?_
      refine gX7_3 (b := 81) C rfl (by decide) rfl tw_237 (dX7_setDistanceWeight_p0 13 rfl) ?_
      refine gX6_1 (b := 81 + 11) C (w_kd (Or.inl rfl)) (w_lt (Or.inl rfl)) (w_m1 (Or.inl rfl)) tw_83 (dX7_setDistanceWeight_p0 14 rfl) ?_
      refine x_iload_n 1 C rfl (dX7_setDistanceWeight_p0 15 rfl) ?_
      obtain ⟨h5, hp⟩ := hp
      refine x_aald (c := 13) (b := (81 + 11) + 1 + ix p1) C (w_kd1 (Or.inl rfl)) (by decide) rfl rfl (w_lt1 (Or.inl rfl)) (vp_ln (w_ln1 (Or.inl rfl)) h5) (row_mr13 (w_kd1 (Or.inl rfl)) (w_lt1 (Or.inl rfl)) (vp_ln (w_ln1 (Or.inl rfl)) h5)) (dX7_setDistanceWeight_p0 16 rfl) ?_
      refine x_iload_n 2 C rfl (dX7_setDistanceWeight_p0 17 rfl) ?_
      obtain ⟨h6, hp⟩ := hp
      refine x_iald C (row_kd13 (w_kd1 (Or.inl rfl)) (w_lt1 (Or.inl rfl)) (vp_ln (w_ln1 (Or.inl rfl)) h5)) (row_lt13 (w_kd1 (Or.inl rfl)) (w_lt1 (Or.inl rfl)) (vp_ln (w_ln1 (Or.inl rfl)) h5)) (vp_ln ((row_ln13 (w_kd1 (Or.inl rfl)) (w_lt1 (Or.inl rfl)) (vp_ln (w_ln1 (Or.inl rfl)) h5)).trans (w_iln1 (Or.inl rfl))) h6) (dX7_setDistanceWeight_p0 18 rfl) ?_
      refine x_topI (fun v7 ev7 => ?_)
      have hp := hp v7 ev7
      refine x_istore (loc' := [(4, .int v7), (0, .ref (kad κ 0)), (1, .int p1), (2, .int p2), (3, .int p3)]) C (by decide) rfl (dX7_setDistanceWeight_p0 19 rfl) ?_
      refine x_aload_n 1 C rfl (dX7_setDistanceWeight_p0 20 rfl) ?_
      refine gX7_3 (b := 81) C rfl (by decide) rfl tw_237 (dX7_setDistanceWeight_p0 21 rfl) ?_
      refine gX6_1 (b := 81 + 11) C (w_kd (Or.inl rfl)) (w_lt (Or.inl rfl)) (w_m1 (Or.inl rfl)) tw_83 (dX7_setDistanceWeight_p0 22 rfl) ?_
      refine x_iload_n 2 C rfl (dX7_setDistanceWeight_p0 23 rfl) ?_
      obtain ⟨h8, hp⟩ := hp
      refine x_aald (c := 13) (b := (81 + 11) + 1 + ix p1) C (w_kd1 (Or.inl rfl)) (by decide) rfl rfl (w_lt1 (Or.inl rfl)) (vp_ln (w_ln1 (Or.inl rfl)) h8) (row_mr13 (w_kd1 (Or.inl rfl)) (w_lt1 (Or.inl rfl)) (vp_ln (w_ln1 (Or.inl rfl)) h8)) (dX7_setDistanceWeight_p0 24 rfl) ?_
      refine x_iload_n 3 C rfl (dX7_setDistanceWeight_p0 25 rfl) ?_
      refine x_iload_n 4 C rfl (dX7_setDistanceWeight_p0 26 rfl) ?_
      obtain ⟨h9, hp⟩ := hp
      refine x_iast C (row_kd13 (w_kd1 (Or.inl rfl)) (w_lt1 (Or.inl rfl)) (vp_ln (w_ln1 (Or.inl rfl)) h8)) (row_lt13 (w_kd1 (Or.inl rfl)) (w_lt1 (Or.inl rfl)) (vp_ln (w_ln1 (Or.inl rfl)) h8)) (vp_ln ((row_ln13 (w_kd1 (Or.inl rfl)) (w_lt1 (Or.inl rfl)) (vp_ln (w_ln1 (Or.inl rfl)) h8)).trans (w_iln1 (Or.inl rfl))) h9) (dX7_setDistanceWeight_p0 27 rfl) ?_
      refine x_nmS (fun s10 es10 => ?_)
      have hp := hp s10 es10
      refine x_iload 0 C rfl (dX7_setDistanceWeight_p0 28 rfl) ?_
      exact hret _ _ _ _ (dX7_setDistanceWeight_p0 29 rfl) (nar_i _) hp
    · have hp := hp.1 hc
      refine x_ldc C tw_269 (dX7_setDistanceWeight_p0 10 rfl) ?_
      exact hret _ _ _ _ (dX7_setDistanceWeight_p0 11 rfl) (nar_i _) hp
  · have hp := hp.1 hc
    refine x_ldc C tw_326 (dX7_setDistanceWeight_p0 4 rfl) ?_
    exact hret _ _ _ _ (dX7_setDistanceWeight_p0 5 rfl) (nar_i _) hp)
def P_X7_setProjective (p1 : Int32) (σ : St) (K : Int32 → St → Prop) : Prop := ((σ.1 125 1) = 0 → isB p1 ∧ ∀ s2 : St, s2 = wI σ 125 1 p1 → (K 0 s2)) ∧ (¬ ((σ.1 125 1) = 0) → isB p1 ∧ ∀ s4 : St, s4 = wI σ 125 1 p1 → (K 1 s4))
set_option maxHeartbeats 4000000 in
set_option maxRecDepth 100000 in
theorem m_X7_setProjective (l : Launch) (ad : Nat → Nat) (D : va_G) (ca : Nat → ClassId) (had : adOk ad) (p1 : Int32)  (σ : St) (K : Int32 → St → Prop) (hp : P_X7_setProjective p1 σ K) : CtI l ad D ca yX7_setProjective cX7_setProjective 3 .int 0 [.ref (ad 0), .int p1] σ K := CtI_of (av := fun ad => [.ref (ad 0), .int p1]) (plainFor_of_name (by decide)) had (Nat.le_of_ble_eq_true rfl) (fun κ C hret => by
  have C : Ok κ RX7 cX7_setProjective 3 0 := C
  show GG κ 0 [(0, .ref (kad κ 0)), (1, .int p1)] [] σ
  unfold P_X7_setProjective at hp
  refine x_aload_n 0 C rfl (dX7_setProjective_p0 0 rfl) ?_
  refine gX7_6 (b := 125) C rfl (by decide) rfl tw_240 (dX7_setProjective_p0 1 rfl) ?_
  refine gX1_1 C rfl (by decide) tw_103 (dX7_setProjective_p0 2 rfl) ?_
  refine x_if_eq (tgt := 14) C (dX7_setProjective_p0 3 rfl) (by decide) (fun hc => ?_) (fun hc => ?_)
  · have hp := hp.1 hc
    refine x_iconst (v := 0) C (by decide) (dX7_setProjective_p0 6 rfl) ?_
    refine x_istore_n (loc' := [(2, .int 0), (0, .ref (kad κ 0)), (1, .int p1)]) C rfl (by decide) rfl (dX7_setProjective_p0 7 rfl) ?_
    refine x_aload_n 1 C rfl (dX7_setProjective_p0 8 rfl) ?_
    refine gX7_6 (b := 125) C rfl (by decide) rfl tw_240 (dX7_setProjective_p0 9 rfl) ?_
    refine x_iload_n 2 C rfl (dX7_setProjective_p0 10 rfl) ?_
    obtain ⟨h1, hp⟩ := hp
    refine qX1_1 C rfl (by decide) h1 tw_103 (dX7_setProjective_p0 11 rfl) ?_
    refine x_nmS (fun s2 es2 => ?_)
    have hp := hp s2 es2
    refine x_iload_n 0 C rfl (dX7_setProjective_p0 12 rfl) ?_
    exact hret _ _ _ _ (dX7_setProjective_p0 13 rfl) (nar_i _) hp
  · have hp := hp.2 hc
    refine x_iconst (v := 1) C (by decide) (dX7_setProjective_p0 4 rfl) ?_
    refine x_goto (tgt := 15) C (dX7_setProjective_p0 5 rfl) (by decide) ?_
    refine x_istore_n (loc' := [(2, .int 1), (0, .ref (kad κ 0)), (1, .int p1)]) C rfl (by decide) rfl (dX7_setProjective_p0 7 rfl) ?_
    refine x_aload_n 1 C rfl (dX7_setProjective_p0 8 rfl) ?_
    refine gX7_6 (b := 125) C rfl (by decide) rfl tw_240 (dX7_setProjective_p0 9 rfl) ?_
    refine x_iload_n 2 C rfl (dX7_setProjective_p0 10 rfl) ?_
    obtain ⟨h3, hp⟩ := hp
    refine qX1_1 C rfl (by decide) h3 tw_103 (dX7_setProjective_p0 11 rfl) ?_
    refine x_nmS (fun s4 es4 => ?_)
    have hp := hp s4 es4
    refine x_iload_n 0 C rfl (dX7_setProjective_p0 12 rfl) ?_
    exact hret _ _ _ _ (dX7_setProjective_p0 13 rfl) (nar_i _) hp)
def P_X7_setShift (p1 : Int32) (σ : St) (K : Int32 → St → Prop) : Prop := P_X7_isWithin p1 100 σ (fun r2 s1 => (r2 = 0 → (K (-1000002) s1)) ∧ (¬ (r2 = 0) → (∀ v3 : Int32, v3 = (s1.1 125 2) → ∀ s4 : St, s4 = wI s1 125 2 p1 → (K v3 s4))))
set_option maxHeartbeats 4000000 in
set_option maxRecDepth 100000 in
theorem m_X7_setShift (l : Launch) (ad : Nat → Nat) (D : va_G) (ca : Nat → ClassId) (had : adOk ad) (p1 : Int32)  (σ : St) (K : Int32 → St → Prop) (hp : P_X7_setShift p1 σ K) : CtI l ad D ca yX7_setShift cX7_setShift 3 .int 1 [.ref (ad 0), .int p1] σ K := CtI_of (av := fun ad => [.ref (ad 0), .int p1]) (plainFor_of_name (by decide)) had (Nat.le_of_ble_eq_true rfl) (fun κ C hret => by
  have C : Ok κ RX7 cX7_setShift 3 1 := C
  show GG κ 0 [(0, .ref (kad κ 0)), (1, .int p1)] [] σ
  unfold P_X7_setShift at hp
  refine x_iload_n 1 C rfl (dX7_setShift_p0 0 rfl) ?_
  refine x_bipush (v := 100) C (by decide) (dX7_setShift_p0 1 rfl) ?_
  refine x_csI (As := [.int p1, .int 100]) (st := []) C LRX7_147 (m_X7_isWithin (kL κ) (kad κ) (kD κ) (kca κ) C.ado p1 100  σ _ hp) rfl (by decide) rfl (Nat.le_of_ble_eq_true rfl) (dX7_setShift_p0 2 rfl) (fun r2 s1 hp => ?_)
  refine x_if_ne (tgt := 12) C (dX7_setShift_p0 3 rfl) (by decide) (fun hc => ?_) (fun hc => ?_)
  · have hp := hp.2 hc
    refine x_aload_n 0 C rfl (dX7_setShift_p0 6 rfl) ?_
    refine gX7_6 (b := 125) C rfl (by decide) rfl tw_240 (dX7_setShift_p0 7 rfl) ?_
    refine gX1_2 C rfl (by decide) tw_105 (dX7_setShift_p0 8 rfl) ?_
    refine x_topI (fun v3 ev3 => ?_)
    have hp := hp v3 ev3
    refine x_istore_n (loc' := [(2, .int v3), (0, .ref (kad κ 0)), (1, .int p1)]) C rfl (by decide) rfl (dX7_setShift_p0 9 rfl) ?_
    refine x_aload_n 1 C rfl (dX7_setShift_p0 10 rfl) ?_
    refine gX7_6 (b := 125) C rfl (by decide) rfl tw_240 (dX7_setShift_p0 11 rfl) ?_
    refine x_iload_n 2 C rfl (dX7_setShift_p0 12 rfl) ?_
    refine qX1_2 C rfl (by decide) tw_105 (dX7_setShift_p0 13 rfl) ?_
    refine x_nmS (fun s4 es4 => ?_)
    have hp := hp s4 es4
    refine x_iload_n 0 C rfl (dX7_setShift_p0 14 rfl) ?_
    exact hret _ _ _ _ (dX7_setShift_p0 15 rfl) (nar_i _) hp
  · have hp := hp.1 hc
    refine x_ldc C tw_269 (dX7_setShift_p0 4 rfl) ?_
    exact hret _ _ _ _ (dX7_setShift_p0 5 rfl) (nar_i _) hp)
def P_X7_setSingleRoot (p1 : Int32) (σ : St) (K : Int32 → St → Prop) : Prop := ((σ.1 125 0) = 0 → isB p1 ∧ ∀ s2 : St, s2 = wI σ 125 0 p1 → (K 0 s2)) ∧ (¬ ((σ.1 125 0) = 0) → isB p1 ∧ ∀ s4 : St, s4 = wI σ 125 0 p1 → (K 1 s4))
set_option maxHeartbeats 4000000 in
set_option maxRecDepth 100000 in
theorem m_X7_setSingleRoot (l : Launch) (ad : Nat → Nat) (D : va_G) (ca : Nat → ClassId) (had : adOk ad) (p1 : Int32)  (σ : St) (K : Int32 → St → Prop) (hp : P_X7_setSingleRoot p1 σ K) : CtI l ad D ca yX7_setSingleRoot cX7_setSingleRoot 3 .int 0 [.ref (ad 0), .int p1] σ K := CtI_of (av := fun ad => [.ref (ad 0), .int p1]) (plainFor_of_name (by decide)) had (Nat.le_of_ble_eq_true rfl) (fun κ C hret => by
  have C : Ok κ RX7 cX7_setSingleRoot 3 0 := C
  show GG κ 0 [(0, .ref (kad κ 0)), (1, .int p1)] [] σ
  unfold P_X7_setSingleRoot at hp
  refine x_aload_n 0 C rfl (dX7_setSingleRoot_p0 0 rfl) ?_
  refine gX7_6 (b := 125) C rfl (by decide) rfl tw_240 (dX7_setSingleRoot_p0 1 rfl) ?_
  refine gX1_0 C rfl (by decide) tw_99 (dX7_setSingleRoot_p0 2 rfl) ?_
  refine x_if_eq (tgt := 14) C (dX7_setSingleRoot_p0 3 rfl) (by decide) (fun hc => ?_) (fun hc => ?_)
  · have hp := hp.1 hc
    refine x_iconst (v := 0) C (by decide) (dX7_setSingleRoot_p0 6 rfl) ?_
    refine x_istore_n (loc' := [(2, .int 0), (0, .ref (kad κ 0)), (1, .int p1)]) C rfl (by decide) rfl (dX7_setSingleRoot_p0 7 rfl) ?_
    refine x_aload_n 1 C rfl (dX7_setSingleRoot_p0 8 rfl) ?_
    refine gX7_6 (b := 125) C rfl (by decide) rfl tw_240 (dX7_setSingleRoot_p0 9 rfl) ?_
    refine x_iload_n 2 C rfl (dX7_setSingleRoot_p0 10 rfl) ?_
    obtain ⟨h1, hp⟩ := hp
    refine qX1_0 C rfl (by decide) h1 tw_99 (dX7_setSingleRoot_p0 11 rfl) ?_
    refine x_nmS (fun s2 es2 => ?_)
    have hp := hp s2 es2
    refine x_iload_n 0 C rfl (dX7_setSingleRoot_p0 12 rfl) ?_
    exact hret _ _ _ _ (dX7_setSingleRoot_p0 13 rfl) (nar_i _) hp
  · have hp := hp.2 hc
    refine x_iconst (v := 1) C (by decide) (dX7_setSingleRoot_p0 4 rfl) ?_
    refine x_goto (tgt := 15) C (dX7_setSingleRoot_p0 5 rfl) (by decide) ?_
    refine x_istore_n (loc' := [(2, .int 1), (0, .ref (kad κ 0)), (1, .int p1)]) C rfl (by decide) rfl (dX7_setSingleRoot_p0 7 rfl) ?_
    refine x_aload_n 1 C rfl (dX7_setSingleRoot_p0 8 rfl) ?_
    refine gX7_6 (b := 125) C rfl (by decide) rfl tw_240 (dX7_setSingleRoot_p0 9 rfl) ?_
    refine x_iload_n 2 C rfl (dX7_setSingleRoot_p0 10 rfl) ?_
    obtain ⟨h3, hp⟩ := hp
    refine qX1_0 C rfl (by decide) h3 tw_99 (dX7_setSingleRoot_p0 11 rfl) ?_
    refine x_nmS (fun s4 es4 => ?_)
    have hp := hp s4 es4
    refine x_iload_n 0 C rfl (dX7_setSingleRoot_p0 12 rfl) ?_
    exact hret _ _ _ _ (dX7_setSingleRoot_p0 13 rfl) (nar_i _) hp)
def P_X7_setTagWeight (p1 : Int32) (p2 : Int32) (p3 : Int32) (σ : St) (K : Int32 → St → Prop) : Prop := P_X7_isTagPair p1 p2 σ (fun r2 s1 => (r2 = 0 → (K (-1000001) s1)) ∧ (¬ (r2 = 0) → P_X7_isWithin p3 99 s1 (fun r4 s3 => (r4 = 0 → (K (-1000002) s3)) ∧ (¬ (r4 = 0) → vp_in p1 9 ∧ vp_in p2 8 ∧ (∀ v7 : Int32, v7 = (s3.1 ((81 + 1) + 1 + ix p1) (ix p2)) → vp_in p1 9 ∧ (vp_in p2 8 ∧ ∀ s10 : St, s10 = wI s3 ((81 + 1) + 1 + ix p1) (ix p2) p3 → (K v7 s10)))))))
set_option maxHeartbeats 4000000 in
set_option maxRecDepth 100000 in
theorem m_X7_setTagWeight (l : Launch) (ad : Nat → Nat) (D : va_G) (ca : Nat → ClassId) (had : adOk ad) (p1 : Int32) (p2 : Int32) (p3 : Int32)  (σ : St) (K : Int32 → St → Prop) (hp : P_X7_setTagWeight p1 p2 p3 σ K) : CtI l ad D ca yX7_setTagWeight cX7_setTagWeight 5 .int 1 [.ref (ad 0), .int p1, .int p2, .int p3] σ K := CtI_of (av := fun ad => [.ref (ad 0), .int p1, .int p2, .int p3]) (plainFor_of_name (by decide)) had (Nat.le_of_ble_eq_true rfl) (fun κ C hret => by
  have C : Ok κ RX7 cX7_setTagWeight 5 1 := C
  show GG κ 0 [(0, .ref (kad κ 0)), (1, .int p1), (2, .int p2), (3, .int p3)] [] σ
  unfold P_X7_setTagWeight at hp
  refine x_iload_n 1 C rfl (dX7_setTagWeight_p0 0 rfl) ?_
  refine x_iload_n 2 C rfl (dX7_setTagWeight_p0 1 rfl) ?_
  refine x_csI (As := [.int p1, .int p2]) (st := []) C LRX7_144 (m_X7_isTagPair (kL κ) (kad κ) (kD κ) (kca κ) C.ado p1 p2  σ _ hp) rfl (by decide) rfl (Nat.le_of_ble_eq_true rfl) (dX7_setTagWeight_p0 2 rfl) (fun r2 s1 hp => ?_)
  refine x_if_ne (tgt := 11) C (dX7_setTagWeight_p0 3 rfl) (by decide) (fun hc => ?_) (fun hc => ?_)
  · have hp := hp.2 hc
    refine x_iload_n 3 C rfl (dX7_setTagWeight_p0 6 rfl) ?_
    refine x_bipush (v := 99) C (by decide) (dX7_setTagWeight_p0 7 rfl) ?_
    refine x_csI (As := [.int p3, .int 99]) (st := []) C LRX7_147 (m_X7_isWithin (kL κ) (kad κ) (kD κ) (kca κ) C.ado p3 99  s1 _ hp) rfl (by decide) rfl (Nat.le_of_ble_eq_true rfl) (dX7_setTagWeight_p0 8 rfl) (fun r4 s3 hp => ?_)
    refine x_if_ne (tgt := 23) C (dX7_setTagWeight_p0 9 rfl) (by decide) (fun hc => ?_) (fun hc => ?_)
    · have hp := hp.2 hc
      refine x_aload_n 0 C rfl (dX7_setTagWeight_p0 12 rfl) ?_
      refine gX7_3 (b := 81) C rfl (by decide) rfl tw_237 (dX7_setTagWeight_p0 13 rfl) ?_
      refine gX6_0 (b := 81 + 1) C (w_kd (Or.inl rfl)) (w_lt (Or.inl rfl)) (w_m0 (Or.inl rfl)) tw_81 (dX7_setTagWeight_p0 14 rfl) ?_
      refine x_iload_n 1 C rfl (dX7_setTagWeight_p0 15 rfl) ?_
      obtain ⟨h5, hp⟩ := hp
      refine x_aald (c := 13) (b := (81 + 1) + 1 + ix p1) C (w_kd0 (Or.inl rfl)) (by decide) rfl rfl (w_lt0 (Or.inl rfl)) (vp_ln (w_ln0 (Or.inl rfl)) h5) (row_mr13 (w_kd0 (Or.inl rfl)) (w_lt0 (Or.inl rfl)) (vp_ln (w_ln0 (Or.inl rfl)) h5)) (dX7_setTagWeight_p0 16 rfl) ?_
      refine x_iload_n 2 C rfl (dX7_setTagWeight_p0 17 rfl) ?_
      obtain ⟨h6, hp⟩ := hp
      refine x_iald C (row_kd13 (w_kd0 (Or.inl rfl)) (w_lt0 (Or.inl rfl)) (vp_ln (w_ln0 (Or.inl rfl)) h5)) (row_lt13 (w_kd0 (Or.inl rfl)) (w_lt0 (Or.inl rfl)) (vp_ln (w_ln0 (Or.inl rfl)) h5)) (vp_ln ((row_ln13 (w_kd0 (Or.inl rfl)) (w_lt0 (Or.inl rfl)) (vp_ln (w_ln0 (Or.inl rfl)) h5)).trans (w_iln0 (Or.inl rfl))) h6) (dX7_setTagWeight_p0 18 rfl) ?_
      refine x_topI (fun v7 ev7 => ?_)
      have hp := hp v7 ev7
      refine x_istore (loc' := [(4, .int v7), (0, .ref (kad κ 0)), (1, .int p1), (2, .int p2), (3, .int p3)]) C (by decide) rfl (dX7_setTagWeight_p0 19 rfl) ?_
      refine x_aload_n 1 C rfl (dX7_setTagWeight_p0 20 rfl) ?_
      refine gX7_3 (b := 81) C rfl (by decide) rfl tw_237 (dX7_setTagWeight_p0 21 rfl) ?_
      refine gX6_0 (b := 81 + 1) C (w_kd (Or.inl rfl)) (w_lt (Or.inl rfl)) (w_m0 (Or.inl rfl)) tw_81 (dX7_setTagWeight_p0 22 rfl) ?_
      refine x_iload_n 2 C rfl (dX7_setTagWeight_p0 23 rfl) ?_
      obtain ⟨h8, hp⟩ := hp
      refine x_aald (c := 13) (b := (81 + 1) + 1 + ix p1) C (w_kd0 (Or.inl rfl)) (by decide) rfl rfl (w_lt0 (Or.inl rfl)) (vp_ln (w_ln0 (Or.inl rfl)) h8) (row_mr13 (w_kd0 (Or.inl rfl)) (w_lt0 (Or.inl rfl)) (vp_ln (w_ln0 (Or.inl rfl)) h8)) (dX7_setTagWeight_p0 24 rfl) ?_
      refine x_iload_n 3 C rfl (dX7_setTagWeight_p0 25 rfl) ?_
      refine x_iload_n 4 C rfl (dX7_setTagWeight_p0 26 rfl) ?_
      obtain ⟨h9, hp⟩ := hp
      refine x_iast C (row_kd13 (w_kd0 (Or.inl rfl)) (w_lt0 (Or.inl rfl)) (vp_ln (w_ln0 (Or.inl rfl)) h8)) (row_lt13 (w_kd0 (Or.inl rfl)) (w_lt0 (Or.inl rfl)) (vp_ln (w_ln0 (Or.inl rfl)) h8)) (vp_ln ((row_ln13 (w_kd0 (Or.inl rfl)) (w_lt0 (Or.inl rfl)) (vp_ln (w_ln0 (Or.inl rfl)) h8)).trans (w_iln0 (Or.inl rfl))) h9) (dX7_setTagWeight_p0 27 rfl) ?_
      refine x_nmS (fun s10 es10 => ?_)
      have hp := hp s10 es10
      refine x_iload 0 C rfl (dX7_setTagWeight_p0 28 rfl) ?_
      exact hret _ _ _ _ (dX7_setTagWeight_p0 29 rfl) (nar_i _) hp
    · have hp := hp.1 hc
      refine x_ldc C tw_269 (dX7_setTagWeight_p0 10 rfl) ?_
      exact hret _ _ _ _ (dX7_setTagWeight_p0 11 rfl) (nar_i _) hp
  · have hp := hp.1 hc
    refine x_ldc C tw_326 (dX7_setTagWeight_p0 4 rfl) ?_
    exact hret _ _ _ _ (dX7_setTagWeight_p0 5 rfl) (nar_i _) hp)
def P_X7_tag (p1 : Int32) (p2 : Int32) (σ : St) (K : Int32 → St → Prop) : Prop := P_X7_find p1 σ (fun r3 s1 => (r3 = none → (K (-1000001) s1)) ∧ (∀ b2 : Nat, r3 = some b2 → sOk b2 ∧ P_X0_hasWord b2 p2 s1 (fun r5 s4 => (r5 = 0 → (K (-1000001) s4)) ∧ (¬ (r5 = 0) → vp_in p2 7 ∧ (K (s4.1 (b2 + 1) (ix p2)) s4)))))
set_option maxHeartbeats 4000000 in
set_option maxRecDepth 100000 in
theorem m_X7_tag (l : Launch) (ad : Nat → Nat) (D : va_G) (ca : Nat → ClassId) (had : adOk ad) (p1 : Int32) (p2 : Int32)  (σ : St) (K : Int32 → St → Prop) (hp : P_X7_tag p1 p2 σ K) : CtI l ad D ca yX7_tag cX7_tag 4 .int 1 [.ref (ad 0), .int p1, .int p2] σ K := CtI_of (av := fun ad => [.ref (ad 0), .int p1, .int p2]) (plainFor_of_name (by decide)) had (Nat.le_of_ble_eq_true rfl) (fun κ C hret => by
  have C : Ok κ RX7 cX7_tag 4 1 := C
  show GG κ 0 [(0, .ref (kad κ 0)), (1, .int p1), (2, .int p2)] [] σ
  unfold P_X7_tag at hp
  refine x_aload_n 0 C rfl (dX7_tag_p0 0 rfl) ?_
  refine x_iload_n 1 C rfl (dX7_tag_p0 1 rfl) ?_
  refine x_cvQ (As := [.int p1]) (st := []) C LRX7_101 (ci := 7) rfl rfl (by decide) (by decide) (m_X7_find (kL κ) (kad κ) (kD κ) (kca κ) C.ado p1  σ _ hp) rfl (by decide) rfl (Nat.le_of_ble_eq_true rfl) (dX7_tag_p0 2 rfl) (fun s1 hp => ?_) (fun b2 s1 hp => ?_)
  · have hp := hp.1 rfl
    refine x_astore_nN (loc' := [(3, .null), (0, .ref (kad κ 0)), (1, .int p1), (2, .int p2)]) C rfl (by decide) rfl (dX7_tag_p0 3 rfl) ?_
    refine x_aload_nN 0 C rfl (dX7_tag_p0 4 rfl) ?_
    refine x_ifnullN (tgt := 18) C (dX7_tag_p0 5 rfl) (by decide) ?_
    refine x_ldc C tw_326 (dX7_tag_p0 10 rfl) ?_
    refine x_goto (tgt := 29) C (dX7_tag_p0 11 rfl) (by decide) ?_
    exact hret _ _ _ _ (dX7_tag_p0 16 rfl) (nar_i _) hp
  · obtain ⟨hb2, hp⟩ := hp.2 b2 rfl
    refine x_astore_n (loc' := [(3, .ref (kad κ b2)), (0, .ref (kad κ 0)), (1, .int p1), (2, .int p2)]) C rfl (by decide) rfl (dX7_tag_p0 3 rfl) ?_
    refine x_aload_n 0 C rfl (dX7_tag_p0 4 rfl) ?_
    refine x_ifnull C (dX7_tag_p0 5 rfl) ?_
    refine x_aload_n 0 C rfl (dX7_tag_p0 6 rfl) ?_
    refine x_iload_n 3 C rfl (dX7_tag_p0 7 rfl) ?_
    refine x_cvI (As := [.int p2]) (st := []) C LRX7_112 (ci := 0) rfl (s_kd hb2) (by decide) (s_lt hb2) (m_X0_hasWord (kL κ) (kad κ) (kD κ) (kca κ) C.ado b2 p2 hb2 s1 _ hp) rfl (by decide) rfl (Nat.le_of_ble_eq_true rfl) (dX7_tag_p0 8 rfl) (fun r5 s4 hp => ?_)
    refine x_if_ne (tgt := 23) C (dX7_tag_p0 9 rfl) (by decide) (fun hc => ?_) (fun hc => ?_)
    · have hp := hp.2 hc
      refine x_aload_n 0 C rfl (dX7_tag_p0 12 rfl) ?_
      refine gX0_1 (b := b2 + 1) C (s_kd hb2) (s_lt hb2) (s_m1 hb2) tw_54 (dX7_tag_p0 13 rfl) ?_
      refine x_iload_n 3 C rfl (dX7_tag_p0 14 rfl) ?_
      obtain ⟨h6, hp⟩ := hp
      refine x_iald C (s_kd1 hb2) (s_lt1 hb2) (vp_ln (s_ln1 hb2) h6) (dX7_tag_p0 15 rfl) ?_
      exact hret _ _ _ _ (dX7_tag_p0 16 rfl) (nar_i _) hp
    · have hp := hp.1 hc
      refine x_ldc C tw_326 (dX7_tag_p0 10 rfl) ?_
      refine x_goto (tgt := 29) C (dX7_tag_p0 11 rfl) (by decide) ?_
      exact hret _ _ _ _ (dX7_tag_p0 16 rfl) (nar_i _) hp)
def P_X7_tagWeight (p1 : Int32) (p2 : Int32) (σ : St) (K : Int32 → St → Prop) : Prop := P_X7_isTagPair p1 p2 σ (fun r2 s1 => (r2 = 0 → (K (-1000001) s1)) ∧ (¬ (r2 = 0) → vp_in p1 9 ∧ vp_in p2 8 ∧ (K (s1.1 ((81 + 1) + 1 + ix p1) (ix p2)) s1)))
set_option maxHeartbeats 4000000 in
set_option maxRecDepth 100000 in
theorem m_X7_tagWeight (l : Launch) (ad : Nat → Nat) (D : va_G) (ca : Nat → ClassId) (had : adOk ad) (p1 : Int32) (p2 : Int32)  (σ : St) (K : Int32 → St → Prop) (hp : P_X7_tagWeight p1 p2 σ K) : CtI l ad D ca yX7_tagWeight cX7_tagWeight 3 .int 1 [.ref (ad 0), .int p1, .int p2] σ K := CtI_of (av := fun ad => [.ref (ad 0), .int p1, .int p2]) (plainFor_of_name (by decide)) had (Nat.le_of_ble_eq_true rfl) (fun κ C hret => by
  have C : Ok κ RX7 cX7_tagWeight 3 1 := C
  show GG κ 0 [(0, .ref (kad κ 0)), (1, .int p1), (2, .int p2)] [] σ
  unfold P_X7_tagWeight at hp
  refine x_iload_n 1 C rfl (dX7_tagWeight_p0 0 rfl) ?_
  refine x_iload_n 2 C rfl (dX7_tagWeight_p0 1 rfl) ?_
  refine x_csI (As := [.int p1, .int p2]) (st := []) C LRX7_144 (m_X7_isTagPair (kL κ) (kad κ) (kD κ) (kca κ) C.ado p1 p2  σ _ hp) rfl (by decide) rfl (Nat.le_of_ble_eq_true rfl) (dX7_tagWeight_p0 2 rfl) (fun r2 s1 hp => ?_)
  refine x_if_eq (tgt := 22) C (dX7_tagWeight_p0 3 rfl) (by decide) (fun hc => ?_) (fun hc => ?_)
  · have hp := hp.1 hc
    refine x_ldc C tw_326 (dX7_tagWeight_p0 12 rfl) ?_
    exact hret _ _ _ _ (dX7_tagWeight_p0 13 rfl) (nar_i _) hp
  · have hp := hp.2 hc
    refine x_aload_n 0 C rfl (dX7_tagWeight_p0 4 rfl) ?_
    refine gX7_3 (b := 81) C rfl (by decide) rfl tw_237 (dX7_tagWeight_p0 5 rfl) ?_
    refine gX6_0 (b := 81 + 1) C (w_kd (Or.inl rfl)) (w_lt (Or.inl rfl)) (w_m0 (Or.inl rfl)) tw_81 (dX7_tagWeight_p0 6 rfl) ?_
    refine x_iload_n 1 C rfl (dX7_tagWeight_p0 7 rfl) ?_
    obtain ⟨h3, hp⟩ := hp
    refine x_aald (c := 13) (b := (81 + 1) + 1 + ix p1) C (w_kd0 (Or.inl rfl)) (by decide) rfl rfl (w_lt0 (Or.inl rfl)) (vp_ln (w_ln0 (Or.inl rfl)) h3) (row_mr13 (w_kd0 (Or.inl rfl)) (w_lt0 (Or.inl rfl)) (vp_ln (w_ln0 (Or.inl rfl)) h3)) (dX7_tagWeight_p0 8 rfl) ?_
    refine x_iload_n 2 C rfl (dX7_tagWeight_p0 9 rfl) ?_
    obtain ⟨h4, hp⟩ := hp
    refine x_iald C (row_kd13 (w_kd0 (Or.inl rfl)) (w_lt0 (Or.inl rfl)) (vp_ln (w_ln0 (Or.inl rfl)) h3)) (row_lt13 (w_kd0 (Or.inl rfl)) (w_lt0 (Or.inl rfl)) (vp_ln (w_ln0 (Or.inl rfl)) h3)) (vp_ln ((row_ln13 (w_kd0 (Or.inl rfl)) (w_lt0 (Or.inl rfl)) (vp_ln (w_ln0 (Or.inl rfl)) h3)).trans (w_iln0 (Or.inl rfl))) h4) (dX7_tagWeight_p0 10 rfl) ?_
    refine x_goto (tgt := 24) C (dX7_tagWeight_p0 11 rfl) (by decide) ?_
    exact hret _ _ _ _ (dX7_tagWeight_p0 13 rfl) (nar_i _) hp)
def P_X7_train (p1 : Int32) (σ : St) (K : Int32 → St → Prop) : Prop := P_X7_find p1 σ (fun r3 s1 => (r3 = none → (K (-1000001) s1)) ∧ (∀ b2 : Nat, r3 = some b2 → sOk b2 ∧ P_X7_learn b2 s1 (fun r5 s4 => K r5 s4)))
set_option maxHeartbeats 4000000 in
set_option maxRecDepth 100000 in
theorem m_X7_train (l : Launch) (ad : Nat → Nat) (D : va_G) (ca : Nat → ClassId) (had : adOk ad) (p1 : Int32)  (σ : St) (K : Int32 → St → Prop) (hp : P_X7_train p1 σ K) : CtI l ad D ca yX7_train cX7_train 3 .int 14 [.ref (ad 0), .int p1] σ K := CtI_of (av := fun ad => [.ref (ad 0), .int p1]) (plainFor_of_name (by decide)) had (Nat.le_of_ble_eq_true rfl) (fun κ C hret => by
  have C : Ok κ RX7 cX7_train 3 14 := C
  show GG κ 0 [(0, .ref (kad κ 0)), (1, .int p1)] [] σ
  unfold P_X7_train at hp
  refine x_aload_n 0 C rfl (dX7_train_p0 0 rfl) ?_
  refine x_iload_n 1 C rfl (dX7_train_p0 1 rfl) ?_
  refine x_cvQ (As := [.int p1]) (st := []) C LRX7_101 (ci := 7) rfl rfl (by decide) (by decide) (m_X7_find (kL κ) (kad κ) (kD κ) (kca κ) C.ado p1  σ _ hp) rfl (by decide) rfl (Nat.le_of_ble_eq_true rfl) (dX7_train_p0 2 rfl) (fun s1 hp => ?_) (fun b2 s1 hp => ?_)
  · have hp := hp.1 rfl
    refine x_astore_nN (loc' := [(2, .null), (0, .ref (kad κ 0)), (1, .int p1)]) C rfl (by decide) rfl (dX7_train_p0 3 rfl) ?_
    refine x_aload_nN 0 C rfl (dX7_train_p0 4 rfl) ?_
    refine x_ifnonnullN C (dX7_train_p0 5 rfl) ?_
    refine x_ldc C tw_326 (dX7_train_p0 6 rfl) ?_
    refine x_goto (tgt := 20) C (dX7_train_p0 7 rfl) (by decide) ?_
    exact hret _ _ _ _ (dX7_train_p0 11 rfl) (nar_i _) hp
  · obtain ⟨hb2, hp⟩ := hp.2 b2 rfl
    refine x_astore_n (loc' := [(2, .ref (kad κ b2)), (0, .ref (kad κ 0)), (1, .int p1)]) C rfl (by decide) rfl (dX7_train_p0 3 rfl) ?_
    refine x_aload_n 0 C rfl (dX7_train_p0 4 rfl) ?_
    refine x_ifnonnull (tgt := 15) C (dX7_train_p0 5 rfl) (by decide) ?_
    refine x_aload_n 1 C rfl (dX7_train_p0 8 rfl) ?_
    refine x_aload_n 0 C rfl (dX7_train_p0 9 rfl) ?_
    refine x_cvI (As := [.ref (kad κ b2)]) (st := []) C LRX7_240 (ci := 7) rfl rfl (by decide) (by decide) (m_X7_learn (kL κ) (kad κ) (kD κ) (kca κ) C.ado b2 hb2 s1 _ hp) rfl (by decide) rfl (Nat.le_of_ble_eq_true rfl) (dX7_train_p0 10 rfl) (fun r5 s4 hp => ?_)
    exact hret _ _ _ _ (dX7_train_p0 11 rfl) (nar_i _) hp)
def F_X7_trainAll_26 (K : Int32 → St → Prop) (c16 : (Int32 × St) → Prop) (c26 : (Int32 × Int32 × St) → Prop) (u1 : Int32) (u2 : Int32) (u3 : Int32) (u4 : Int32) (σ : St) : Prop := ((σ.1 0 2) ≤ u4 → ((u3 = 0 → (K u2 σ)) ∧ (¬ (u3 = 0) → ∀ v1 : Int32, v1 = u2 + 1 → c16 (v1, σ)))) ∧ (¬ ((σ.1 0 2) ≤ u4) → (vp_in u4 4 ∧ sOk (σ.2.2 (ix u4)) ∧ (P_X7_learn (σ.2.2 (ix u4)) σ (fun r5 s4 => (r5 ≤ 0 → ∀ v6 : Int32, v6 = u4 + 1 → c26 (u3, v6, s4)) ∧ (¬ (r5 ≤ 0) → ∀ v7 : Int32, v7 = u4 + 1 → c26 (1, v7, s4))))))
set_option maxHeartbeats 4000000 in
set_option maxRecDepth 100000 in
theorem F_X7_trainAll_26_w {κ : Kap} {K : Int32 → St → Prop} {c16 : (Int32 × St) → Prop} {c26 : (Int32 × Int32 × St) → Prop} (C : Ok κ RX7 cX7_trainAll 5 14) (hret : RetI κ cX7_trainAll .int K) (u1 : Int32) (u2 : Int32) (u3 : Int32) (u4 : Int32)      (σ : St) (hc16 : ∀ (u2 : Int32) (σ : St), c16 (u2, σ) → GG κ 16 [(0, .ref (kad κ 0)), (1, .int u1), (2, .int u2)] [] σ) (hc26 : ∀ (u3 : Int32) (u4 : Int32) (σ : St), c26 (u3, u4, σ) → GG κ 26 [(0, .ref (kad κ 0)), (1, .int u1), (2, .int u2), (3, .int u3), (4, .int u4)] [] σ) (hp : F_X7_trainAll_26 K c16 c26 u1 u2 u3 u4 σ) : GG κ 26 [(0, .ref (kad κ 0)), (1, .int u1), (2, .int u2), (3, .int u3), (4, .int u4)] [] σ := by
  unfold F_X7_trainAll_26 at hp
  refine x_iload 4 C rfl (dX7_trainAll_p0 17 rfl) ?_
  refine x_aload_n 0 C rfl (dX7_trainAll_p0 18 rfl) ?_
  refine gX7_2 C rfl (by decide) tw_236 (dX7_trainAll_p0 19 rfl) ?_
  refine x_icmp_ge (tgt := 57) C (dX7_trainAll_p0 20 rfl) (by decide) (fun hc => ?_) (fun hc => ?_)
  · have hp := hp.1 hc
    refine x_iload_n 3 C rfl (dX7_trainAll_p0 32 rfl) ?_
    refine x_if_ne (tgt := 63) C (dX7_trainAll_p0 33 rfl) (by decide) (fun hc => ?_) (fun hc => ?_)
    · have hp := hp.2 hc
      obtain ⟨v1, ev1⟩ : ∃ z : Int32, z = u2 + 1 := ⟨_, rfl⟩
      have hp := hp v1 ev1
      refine x_iinc (v := v1) (loc' := [(2, .int v1), (0, .ref (kad κ 0)), (1, .int u1), (3, .int u3), (4, .int u4)]) 2 C rfl (by rw [ev1]; rfl) (by decide) rfl (dX7_trainAll_p0 36 rfl) ?_
      refine x_goto (tgt := 16) C (dX7_trainAll_p0 37 rfl) (by decide) ?_
      refine x_loc (loc' := [(0, .ref (kad κ 0)), (1, .int u1), (2, .int v1)]) [1, 2, 0] rfl ?_
      exact hc16 v1 σ hp
    · have hp := hp.1 hc
      refine x_iload_n 2 C rfl (dX7_trainAll_p0 34 rfl) ?_
      exact hret _ _ _ _ (dX7_trainAll_p0 35 rfl) (nar_i _) hp
  · have hp := hp.2 hc
    refine x_aload_n 0 C rfl (dX7_trainAll_p0 21 rfl) ?_
    refine x_aload_n 0 C rfl (dX7_trainAll_p0 22 rfl) ?_
    refine gX7_1 (b := 4) C rfl (by decide) rfl tw_235 (dX7_trainAll_p0 23 rfl) ?_
    refine x_iload 4 C rfl (dX7_trainAll_p0 24 rfl) ?_
    obtain ⟨h2, hp⟩ := hp
    obtain ⟨h3, hp⟩ := hp
    refine x_aald (c := 15) (b := σ.2.2 (ix u4)) C rfl (by decide) rfl rfl (by decide) h2 rfl (dX7_trainAll_p0 25 rfl) ?_
    refine x_cvI (As := [.ref (kad κ (σ.2.2 (ix u4)))]) (st := []) C LRX7_240 (ci := 7) rfl rfl (by decide) (by decide) (m_X7_learn (kL κ) (kad κ) (kD κ) (kca κ) C.ado (σ.2.2 (ix u4)) h3 σ _ hp) rfl (by decide) rfl (Nat.le_of_ble_eq_true rfl) (dX7_trainAll_p0 26 rfl) (fun r5 s4 hp => ?_)
    refine x_if_le (tgt := 51) C (dX7_trainAll_p0 27 rfl) (by decide) (fun hc => ?_) (fun hc => ?_)
    · have hp := hp.1 hc
      obtain ⟨v6, ev6⟩ : ∃ z : Int32, z = u4 + 1 := ⟨_, rfl⟩
      have hp := hp v6 ev6
      refine x_iinc (v := v6) (loc' := [(4, .int v6), (0, .ref (kad κ 0)), (1, .int u1), (2, .int u2), (3, .int u3)]) 4 C rfl (by rw [ev6]; rfl) (by decide) rfl (dX7_trainAll_p0 30 rfl) ?_
      refine x_goto (tgt := 26) C (dX7_trainAll_p0 31 rfl) (by decide) ?_
      refine x_loc (loc' := [(0, .ref (kad κ 0)), (1, .int u1), (2, .int u2), (3, .int u3), (4, .int v6)]) [1, 2, 3, 4, 0] rfl ?_
      exact hc26 u3 v6 s4 hp
    · have hp := hp.2 hc
      refine x_iconst (v := 1) C (by decide) (dX7_trainAll_p0 28 rfl) ?_
      refine x_istore_n (loc' := [(3, .int 1), (0, .ref (kad κ 0)), (1, .int u1), (2, .int u2), (4, .int u4)]) C rfl (by decide) rfl (dX7_trainAll_p0 29 rfl) ?_
      obtain ⟨v7, ev7⟩ : ∃ z : Int32, z = u4 + 1 := ⟨_, rfl⟩
      have hp := hp v7 ev7
      refine x_iinc (v := v7) (loc' := [(4, .int v7), (3, .int 1), (0, .ref (kad κ 0)), (1, .int u1), (2, .int u2)]) 4 C rfl (by rw [ev7]; rfl) (by decide) rfl (dX7_trainAll_p0 30 rfl) ?_
      refine x_goto (tgt := 26) C (dX7_trainAll_p0 31 rfl) (by decide) ?_
      refine x_loc (loc' := [(0, .ref (kad κ 0)), (1, .int u1), (2, .int u2), (3, .int 1), (4, .int v7)]) [2, 3, 4, 1, 0] rfl ?_
      exact hc26 1 v7 s4 hp
def F_X7_trainAll_16 (K : Int32 → St → Prop) (c16 : (Int32 × St) → Prop) (u1 : Int32) (u2 : Int32) (σ : St) : Prop := (u1 ≤ u2 → (K (-1000004) σ)) ∧ (¬ (u1 ≤ u2) → (LpE (fun c s => F_X7_trainAll_26 K c16 c u1 u2 s.1 s.2.1 s.2.2) (0, 0, σ)))
set_option maxHeartbeats 4000000 in
set_option maxRecDepth 100000 in
theorem F_X7_trainAll_16_w {κ : Kap} {K : Int32 → St → Prop} {c16 : (Int32 × St) → Prop} (C : Ok κ RX7 cX7_trainAll 5 14) (hret : RetI κ cX7_trainAll .int K) (u1 : Int32) (u2 : Int32)    (σ : St) (hc16 : ∀ (u2 : Int32) (σ : St), c16 (u2, σ) → GG κ 16 [(0, .ref (kad κ 0)), (1, .int u1), (2, .int u2)] [] σ) (hp : F_X7_trainAll_16 K c16 u1 u2 σ) : GG κ 16 [(0, .ref (kad κ 0)), (1, .int u1), (2, .int u2)] [] σ := by
  unfold F_X7_trainAll_16 at hp
  refine x_iload_n 2 C rfl (dX7_trainAll_p0 10 rfl) ?_
  refine x_iload_n 1 C rfl (dX7_trainAll_p0 11 rfl) ?_
  refine x_icmp_ge (tgt := 69) C (dX7_trainAll_p0 12 rfl) (by decide) (fun hc => ?_) (fun hc => ?_)
  · have hp := hp.1 hc
    refine x_ldc C tw_299 (dX7_trainAll_p0 38 rfl) ?_
    exact hret _ _ _ _ (dX7_trainAll_p0 39 rfl) (nar_i _) hp
  · have hp := hp.2 hc
    refine x_iconst (v := 0) C (by decide) (dX7_trainAll_p0 13 rfl) ?_
    refine x_istore_n (loc' := [(3, .int 0), (0, .ref (kad κ 0)), (1, .int u1), (2, .int u2)]) C rfl (by decide) rfl (dX7_trainAll_p0 14 rfl) ?_
    refine x_iconst (v := 0) C (by decide) (dX7_trainAll_p0 15 rfl) ?_
    refine x_istore (loc' := [(4, .int 0), (3, .int 0), (0, .ref (kad κ 0)), (1, .int u1), (2, .int u2)]) C (by decide) rfl (dX7_trainAll_p0 16 rfl) ?_
    refine x_loc (loc' := [(0, .ref (kad κ 0)), (1, .int u1), (2, .int u2), (3, .int 0), (4, .int 0)]) [2, 3, 4, 1, 0] rfl ?_
    exact LpE_GG (S := (Int32 × Int32 × St)) (F := fun c s => F_X7_trainAll_26 K c16 c u1 u2 s.1 s.2.1 s.2.2) (W := fun s => GG κ 26 [(0, .ref (kad κ 0)), (1, .int u1), (2, .int u2), (3, .int s.1), (4, .int s.2.1)] [] s.2.2) (fun c s hcc hp => F_X7_trainAll_26_w C hret u1 u2 s.1 s.2.1  s.2.2 hc16 (fun u3 u4 σ h => hcc (u3, u4, σ) h) hp) hp
def P_X7_trainAll (p1 : Int32) (σ : St) (K : Int32 → St → Prop) : Prop := (p1 < 1 → (K (-1000002) σ)) ∧ (¬ (p1 < 1) → ((p1 ≤ 10 → (LpE (fun c s => F_X7_trainAll_16 K  c p1 s.1 s.2) (0, σ))) ∧ (¬ (p1 ≤ 10) → (K (-1000002) σ))))
set_option maxHeartbeats 4000000 in
set_option maxRecDepth 100000 in
theorem m_X7_trainAll (l : Launch) (ad : Nat → Nat) (D : va_G) (ca : Nat → ClassId) (had : adOk ad) (p1 : Int32)  (σ : St) (K : Int32 → St → Prop) (hp : P_X7_trainAll p1 σ K) : CtI l ad D ca yX7_trainAll cX7_trainAll 5 .int 14 [.ref (ad 0), .int p1] σ K := CtI_of (av := fun ad => [.ref (ad 0), .int p1]) (plainFor_of_name (by decide)) had (Nat.le_of_ble_eq_true rfl) (fun κ C hret => by
  have C : Ok κ RX7 cX7_trainAll 5 14 := C
  show GG κ 0 [(0, .ref (kad κ 0)), (1, .int p1)] [] σ
  unfold P_X7_trainAll at hp
  refine x_iload_n 1 C rfl (dX7_trainAll_p0 0 rfl) ?_
  refine x_iconst (v := 1) C (by decide) (dX7_trainAll_p0 1 rfl) ?_
  refine x_icmp_lt (tgt := 11) C (dX7_trainAll_p0 2 rfl) (by decide) (fun hc => ?_) (fun hc => ?_)
  · have hp := hp.1 hc
    refine x_ldc C tw_269 (dX7_trainAll_p0 6 rfl) ?_
    exact hret _ _ _ _ (dX7_trainAll_p0 7 rfl) (nar_i _) hp
  · have hp := hp.2 hc
    refine x_iload_n 1 C rfl (dX7_trainAll_p0 3 rfl) ?_
    refine x_bipush (v := 10) C (by decide) (dX7_trainAll_p0 4 rfl) ?_
    refine x_icmp_le (tgt := 14) C (dX7_trainAll_p0 5 rfl) (by decide) (fun hc => ?_) (fun hc => ?_)
    · have hp := hp.1 hc
      refine x_iconst (v := 0) C (by decide) (dX7_trainAll_p0 8 rfl) ?_
      refine x_istore_n (loc' := [(2, .int 0), (0, .ref (kad κ 0)), (1, .int p1)]) C rfl (by decide) rfl (dX7_trainAll_p0 9 rfl) ?_
      refine x_loc (loc' := [(0, .ref (kad κ 0)), (1, .int p1), (2, .int 0)]) [1, 2, 0] rfl ?_
      exact LpE_GG (S := (Int32 × St)) (F := fun c s => F_X7_trainAll_16 K  c p1 s.1 s.2) (W := fun s => GG κ 16 [(0, .ref (kad κ 0)), (1, .int p1), (2, .int s.1)] [] s.2) (fun c s hcc hp => F_X7_trainAll_16_w C hret p1 s.1  s.2  (fun u2 σ h => hcc (u2, σ) h) hp) hp
    · have hp := hp.2 hc
      refine x_ldc C tw_269 (dX7_trainAll_p0 6 rfl) ?_
      exact hret _ _ _ _ (dX7_trainAll_p0 7 rfl) (nar_i _) hp)
def P_X7_transition (p1 : Int32) (p2 : Int32) (σ : St) (K : Int32 → St → Prop) : Prop := P_X7_find p1 σ (fun r3 s1 => (r3 = none → (K (-1000001) s1)) ∧ (∀ b2 : Nat, r3 = some b2 → sOk b2 ∧ ((p2 < 0 → (K (-1000004) s1)) ∧ (¬ (p2 < 0) → P_X7_countTransitions b2 s1 (fun r5 s4 => (p2 < r5 → vp_in p2 64 ∧ (K (s4.1 200 (ix p2)) s4)) ∧ (¬ (p2 < r5) → (K (-1000004) s4)))))))
set_option maxHeartbeats 4000000 in
set_option maxRecDepth 100000 in
theorem m_X7_transition (l : Launch) (ad : Nat → Nat) (D : va_G) (ca : Nat → ClassId) (had : adOk ad) (p1 : Int32) (p2 : Int32)  (σ : St) (K : Int32 → St → Prop) (hp : P_X7_transition p1 p2 σ K) : CtI l ad D ca yX7_transition cX7_transition 4 .int 13 [.ref (ad 0), .int p1, .int p2] σ K := CtI_of (av := fun ad => [.ref (ad 0), .int p1, .int p2]) (plainFor_of_name (by decide)) had (Nat.le_of_ble_eq_true rfl) (fun κ C hret => by
  have C : Ok κ RX7 cX7_transition 4 13 := C
  show GG κ 0 [(0, .ref (kad κ 0)), (1, .int p1), (2, .int p2)] [] σ
  unfold P_X7_transition at hp
  refine x_aload_n 0 C rfl (dX7_transition_p0 0 rfl) ?_
  refine x_iload_n 1 C rfl (dX7_transition_p0 1 rfl) ?_
  refine x_cvQ (As := [.int p1]) (st := []) C LRX7_101 (ci := 7) rfl rfl (by decide) (by decide) (m_X7_find (kL κ) (kad κ) (kD κ) (kca κ) C.ado p1  σ _ hp) rfl (by decide) rfl (Nat.le_of_ble_eq_true rfl) (dX7_transition_p0 2 rfl) (fun s1 hp => ?_) (fun b2 s1 hp => ?_)
  · have hp := hp.1 rfl
    refine x_astore_nN (loc' := [(3, .null), (0, .ref (kad κ 0)), (1, .int p1), (2, .int p2)]) C rfl (by decide) rfl (dX7_transition_p0 3 rfl) ?_
    refine x_aload_nN 0 C rfl (dX7_transition_p0 4 rfl) ?_
    refine x_ifnonnullN C (dX7_transition_p0 5 rfl) ?_
    refine x_ldc C tw_326 (dX7_transition_p0 6 rfl) ?_
    exact hret _ _ _ _ (dX7_transition_p0 7 rfl) (nar_i _) hp
  · obtain ⟨hb2, hp⟩ := hp.2 b2 rfl
    refine x_astore_n (loc' := [(3, .ref (kad κ b2)), (0, .ref (kad κ 0)), (1, .int p1), (2, .int p2)]) C rfl (by decide) rfl (dX7_transition_p0 3 rfl) ?_
    refine x_aload_n 0 C rfl (dX7_transition_p0 4 rfl) ?_
    refine x_ifnonnull (tgt := 13) C (dX7_transition_p0 5 rfl) (by decide) ?_
    refine x_iload_n 3 C rfl (dX7_transition_p0 8 rfl) ?_
    refine x_if_lt (tgt := 26) C (dX7_transition_p0 9 rfl) (by decide) (fun hc => ?_) (fun hc => ?_)
    · have hp := hp.1 hc
      refine x_ldc C tw_299 (dX7_transition_p0 15 rfl) ?_
      refine x_goto (tgt := 40) C (dX7_transition_p0 16 rfl) (by decide) ?_
      exact hret _ _ _ _ (dX7_transition_p0 22 rfl) (nar_i _) hp
    · have hp := hp.2 hc
      refine x_iload_n 3 C rfl (dX7_transition_p0 10 rfl) ?_
      refine x_aload_n 1 C rfl (dX7_transition_p0 11 rfl) ?_
      refine x_aload_n 0 C rfl (dX7_transition_p0 12 rfl) ?_
      refine x_cvI (As := [.ref (kad κ b2)]) (st := [.int p2]) C LRX7_234 (ci := 7) rfl rfl (by decide) (by decide) (m_X7_countTransitions (kL κ) (kad κ) (kD κ) (kca κ) C.ado b2 hb2 s1 _ hp) rfl (by decide) rfl (Nat.le_of_ble_eq_true rfl) (dX7_transition_p0 13 rfl) (fun r5 s4 hp => ?_)
      refine x_icmp_lt (tgt := 31) C (dX7_transition_p0 14 rfl) (by decide) (fun hc => ?_) (fun hc => ?_)
      · have hp := hp.1 hc
        refine x_aload_n 1 C rfl (dX7_transition_p0 17 rfl) ?_
        refine gX7_9 (b := 196) C rfl (by decide) rfl tw_243 (dX7_transition_p0 18 rfl) ?_
        refine gX3_5 (b := 200) C rfl (by decide) rfl tw_201 (dX7_transition_p0 19 rfl) ?_
        refine x_iload_n 3 C rfl (dX7_transition_p0 20 rfl) ?_
        obtain ⟨h6, hp⟩ := hp
        refine x_iald C rfl (by decide) h6 (dX7_transition_p0 21 rfl) ?_
        exact hret _ _ _ _ (dX7_transition_p0 22 rfl) (nar_i _) hp
      · have hp := hp.2 hc
        refine x_ldc C tw_299 (dX7_transition_p0 15 rfl) ?_
        refine x_goto (tgt := 40) C (dX7_transition_p0 16 rfl) (by decide) ?_
        exact hret _ _ _ _ (dX7_transition_p0 22 rfl) (nar_i _) hp)
def P_X7_transitions (p1 : Int32) (σ : St) (K : Int32 → St → Prop) : Prop := P_X7_find p1 σ (fun r3 s1 => (r3 = none → (K (-1000001) s1)) ∧ (∀ b2 : Nat, r3 = some b2 → sOk b2 ∧ P_X7_countTransitions b2 s1 (fun r5 s4 => K r5 s4)))
set_option maxHeartbeats 4000000 in
set_option maxRecDepth 100000 in
theorem m_X7_transitions (l : Launch) (ad : Nat → Nat) (D : va_G) (ca : Nat → ClassId) (had : adOk ad) (p1 : Int32)  (σ : St) (K : Int32 → St → Prop) (hp : P_X7_transitions p1 σ K) : CtI l ad D ca yX7_transitions cX7_transitions 3 .int 13 [.ref (ad 0), .int p1] σ K := CtI_of (av := fun ad => [.ref (ad 0), .int p1]) (plainFor_of_name (by decide)) had (Nat.le_of_ble_eq_true rfl) (fun κ C hret => by
  have C : Ok κ RX7 cX7_transitions 3 13 := C
  show GG κ 0 [(0, .ref (kad κ 0)), (1, .int p1)] [] σ
  unfold P_X7_transitions at hp
  refine x_aload_n 0 C rfl (dX7_transitions_p0 0 rfl) ?_
  refine x_iload_n 1 C rfl (dX7_transitions_p0 1 rfl) ?_
  refine x_cvQ (As := [.int p1]) (st := []) C LRX7_101 (ci := 7) rfl rfl (by decide) (by decide) (m_X7_find (kL κ) (kad κ) (kD κ) (kca κ) C.ado p1  σ _ hp) rfl (by decide) rfl (Nat.le_of_ble_eq_true rfl) (dX7_transitions_p0 2 rfl) (fun s1 hp => ?_) (fun b2 s1 hp => ?_)
  · have hp := hp.1 rfl
    refine x_astore_nN (loc' := [(2, .null), (0, .ref (kad κ 0)), (1, .int p1)]) C rfl (by decide) rfl (dX7_transitions_p0 3 rfl) ?_
    refine x_aload_nN 0 C rfl (dX7_transitions_p0 4 rfl) ?_
    refine x_ifnonnullN C (dX7_transitions_p0 5 rfl) ?_
    refine x_ldc C tw_326 (dX7_transitions_p0 6 rfl) ?_
    refine x_goto (tgt := 20) C (dX7_transitions_p0 7 rfl) (by decide) ?_
    exact hret _ _ _ _ (dX7_transitions_p0 11 rfl) (nar_i _) hp
  · obtain ⟨hb2, hp⟩ := hp.2 b2 rfl
    refine x_astore_n (loc' := [(2, .ref (kad κ b2)), (0, .ref (kad κ 0)), (1, .int p1)]) C rfl (by decide) rfl (dX7_transitions_p0 3 rfl) ?_
    refine x_aload_n 0 C rfl (dX7_transitions_p0 4 rfl) ?_
    refine x_ifnonnull (tgt := 15) C (dX7_transitions_p0 5 rfl) (by decide) ?_
    refine x_aload_n 1 C rfl (dX7_transitions_p0 8 rfl) ?_
    refine x_aload_n 0 C rfl (dX7_transitions_p0 9 rfl) ?_
    refine x_cvI (As := [.ref (kad κ b2)]) (st := []) C LRX7_234 (ci := 7) rfl rfl (by decide) (by decide) (m_X7_countTransitions (kL κ) (kad κ) (kD κ) (kca κ) C.ado b2 hb2 s1 _ hp) rfl (by decide) rfl (Nat.le_of_ble_eq_true rfl) (dX7_transitions_p0 10 rfl) (fun r5 s4 hp => ?_)
    exact hret _ _ _ _ (dX7_transitions_p0 11 rfl) (nar_i _) hp)
def P_X7_treeCount (p1 : Int32) (σ : St) (K : Int32 → St → Prop) : Prop := P_X7_find p1 σ (fun r3 s1 => (r3 = none → (K (-1000001) s1)) ∧ (∀ b2 : Nat, r3 = some b2 → sOk b2 ∧ P_X7_countTrees b2 s1 (fun r5 s4 => K r5 s4)))
set_option maxHeartbeats 4000000 in
set_option maxRecDepth 100000 in
theorem m_X7_treeCount (l : Launch) (ad : Nat → Nat) (D : va_G) (ca : Nat → ClassId) (had : adOk ad) (p1 : Int32)  (σ : St) (K : Int32 → St → Prop) (hp : P_X7_treeCount p1 σ K) : CtI l ad D ca yX7_treeCount cX7_treeCount 3 .int 5 [.ref (ad 0), .int p1] σ K := CtI_of (av := fun ad => [.ref (ad 0), .int p1]) (plainFor_of_name (by decide)) had (Nat.le_of_ble_eq_true rfl) (fun κ C hret => by
  have C : Ok κ RX7 cX7_treeCount 3 5 := C
  show GG κ 0 [(0, .ref (kad κ 0)), (1, .int p1)] [] σ
  unfold P_X7_treeCount at hp
  refine x_aload_n 0 C rfl (dX7_treeCount_p0 0 rfl) ?_
  refine x_iload_n 1 C rfl (dX7_treeCount_p0 1 rfl) ?_
  refine x_cvQ (As := [.int p1]) (st := []) C LRX7_101 (ci := 7) rfl rfl (by decide) (by decide) (m_X7_find (kL κ) (kad κ) (kD κ) (kca κ) C.ado p1  σ _ hp) rfl (by decide) rfl (Nat.le_of_ble_eq_true rfl) (dX7_treeCount_p0 2 rfl) (fun s1 hp => ?_) (fun b2 s1 hp => ?_)
  · have hp := hp.1 rfl
    refine x_astore_nN (loc' := [(2, .null), (0, .ref (kad κ 0)), (1, .int p1)]) C rfl (by decide) rfl (dX7_treeCount_p0 3 rfl) ?_
    refine x_aload_nN 0 C rfl (dX7_treeCount_p0 4 rfl) ?_
    refine x_ifnonnullN C (dX7_treeCount_p0 5 rfl) ?_
    refine x_ldc C tw_326 (dX7_treeCount_p0 6 rfl) ?_
    refine x_goto (tgt := 20) C (dX7_treeCount_p0 7 rfl) (by decide) ?_
    exact hret _ _ _ _ (dX7_treeCount_p0 11 rfl) (nar_i _) hp
  · obtain ⟨hb2, hp⟩ := hp.2 b2 rfl
    refine x_astore_n (loc' := [(2, .ref (kad κ b2)), (0, .ref (kad κ 0)), (1, .int p1)]) C rfl (by decide) rfl (dX7_treeCount_p0 3 rfl) ?_
    refine x_aload_n 0 C rfl (dX7_treeCount_p0 4 rfl) ?_
    refine x_ifnonnull (tgt := 15) C (dX7_treeCount_p0 5 rfl) (by decide) ?_
    refine x_aload_n 1 C rfl (dX7_treeCount_p0 8 rfl) ?_
    refine x_aload_n 0 C rfl (dX7_treeCount_p0 9 rfl) ?_
    refine x_cvI (As := [.ref (kad κ b2)]) (st := []) C LRX7_194 (ci := 7) rfl rfl (by decide) (by decide) (m_X7_countTrees (kL κ) (kad κ) (kD κ) (kca κ) C.ado b2 hb2 s1 _ hp) rfl (by decide) rfl (Nat.le_of_ble_eq_true rfl) (dX7_treeCount_p0 10 rfl) (fun r5 s4 hp => ?_)
    exact hret _ _ _ _ (dX7_treeCount_p0 11 rfl) (nar_i _) hp)
def P_X7_weightSum (p1 : Int32) (σ : St) (K : Int64 → St → Prop) : Prop := P_X7_find p1 σ (fun r3 s1 => (r3 = none → (K (-1000001) s1)) ∧ (∀ b2 : Nat, r3 = some b2 → sOk b2 ∧ P_X7_sumWeights b2 s1 (fun r5 s4 => K r5 s4)))
set_option maxHeartbeats 4000000 in
set_option maxRecDepth 100000 in
theorem m_X7_weightSum (l : Launch) (ad : Nat → Nat) (D : va_G) (ca : Nat → ClassId) (had : adOk ad) (p1 : Int32)  (σ : St) (K : Int64 → St → Prop) (hp : P_X7_weightSum p1 σ K) : CtL l ad D ca yX7_weightSum cX7_weightSum 3 5 [.ref (ad 0), .int p1] σ K := CtL_of (av := fun ad => [.ref (ad 0), .int p1]) (plainFor_of_name (by decide)) had (Nat.le_of_ble_eq_true rfl) (fun κ C hret => by
  have C : Ok κ RX7 cX7_weightSum 3 5 := C
  show GG κ 0 [(0, .ref (kad κ 0)), (1, .int p1)] [] σ
  unfold P_X7_weightSum at hp
  refine x_aload_n 0 C rfl (dX7_weightSum_p0 0 rfl) ?_
  refine x_iload_n 1 C rfl (dX7_weightSum_p0 1 rfl) ?_
  refine x_cvQ (As := [.int p1]) (st := []) C LRX7_101 (ci := 7) rfl rfl (by decide) (by decide) (m_X7_find (kL κ) (kad κ) (kD κ) (kca κ) C.ado p1  σ _ hp) rfl (by decide) rfl (Nat.le_of_ble_eq_true rfl) (dX7_weightSum_p0 2 rfl) (fun s1 hp => ?_) (fun b2 s1 hp => ?_)
  · have hp := hp.1 rfl
    refine x_astore_nN (loc' := [(2, .null), (0, .ref (kad κ 0)), (1, .int p1)]) C rfl (by decide) rfl (dX7_weightSum_p0 3 rfl) ?_
    refine x_aload_nN 0 C rfl (dX7_weightSum_p0 4 rfl) ?_
    refine x_ifnonnullN C (dX7_weightSum_p0 5 rfl) ?_
    refine x_ldc2 C tw_598 (dX7_weightSum_p0 6 rfl) ?_
    refine x_goto (tgt := 21) C (dX7_weightSum_p0 7 rfl) (by decide) ?_
    exact hret _ _ _ _ (dX7_weightSum_p0 11 rfl) hp
  · obtain ⟨hb2, hp⟩ := hp.2 b2 rfl
    refine x_astore_n (loc' := [(2, .ref (kad κ b2)), (0, .ref (kad κ 0)), (1, .int p1)]) C rfl (by decide) rfl (dX7_weightSum_p0 3 rfl) ?_
    refine x_aload_n 0 C rfl (dX7_weightSum_p0 4 rfl) ?_
    refine x_ifnonnull (tgt := 16) C (dX7_weightSum_p0 5 rfl) (by decide) ?_
    refine x_aload_n 1 C rfl (dX7_weightSum_p0 8 rfl) ?_
    refine x_aload_n 0 C rfl (dX7_weightSum_p0 9 rfl) ?_
    refine x_cvL (As := [.ref (kad κ b2)]) (st := []) C LRX7_199 (ci := 7) rfl rfl (by decide) (by decide) (m_X7_sumWeights (kL κ) (kad κ) (kD κ) (kca κ) C.ado b2 hb2 s1 _ hp) rfl (by decide) rfl (Nat.le_of_ble_eq_true rfl) (dX7_weightSum_p0 10 rfl) (fun r5 s4 hp => ?_)
    exact hret _ _ _ _ (dX7_weightSum_p0 11 rfl) hp)
def P_X7_words (p1 : Int32) (σ : St) (K : Int32 → St → Prop) : Prop := P_X7_find p1 σ (fun r3 s1 => (r3 = none → (K (-1000001) s1)) ∧ (∀ b2 : Nat, r3 = some b2 → sOk b2 ∧ (K (s1.1 b2 0) s1)))
set_option maxHeartbeats 4000000 in
set_option maxRecDepth 100000 in
theorem m_X7_words (l : Launch) (ad : Nat → Nat) (D : va_G) (ca : Nat → ClassId) (had : adOk ad) (p1 : Int32)  (σ : St) (K : Int32 → St → Prop) (hp : P_X7_words p1 σ K) : CtI l ad D ca yX7_words cX7_words 3 .int 1 [.ref (ad 0), .int p1] σ K := CtI_of (av := fun ad => [.ref (ad 0), .int p1]) (plainFor_of_name (by decide)) had (Nat.le_of_ble_eq_true rfl) (fun κ C hret => by
  have C : Ok κ RX7 cX7_words 3 1 := C
  show GG κ 0 [(0, .ref (kad κ 0)), (1, .int p1)] [] σ
  unfold P_X7_words at hp
  refine x_aload_n 0 C rfl (dX7_words_p0 0 rfl) ?_
  refine x_iload_n 1 C rfl (dX7_words_p0 1 rfl) ?_
  refine x_cvQ (As := [.int p1]) (st := []) C LRX7_101 (ci := 7) rfl rfl (by decide) (by decide) (m_X7_find (kL κ) (kad κ) (kD κ) (kca κ) C.ado p1  σ _ hp) rfl (by decide) rfl (Nat.le_of_ble_eq_true rfl) (dX7_words_p0 2 rfl) (fun s1 hp => ?_) (fun b2 s1 hp => ?_)
  · have hp := hp.1 rfl
    refine x_astore_nN (loc' := [(2, .null), (0, .ref (kad κ 0)), (1, .int p1)]) C rfl (by decide) rfl (dX7_words_p0 3 rfl) ?_
    refine x_aload_nN 0 C rfl (dX7_words_p0 4 rfl) ?_
    refine x_ifnonnullN C (dX7_words_p0 5 rfl) ?_
    refine x_ldc C tw_326 (dX7_words_p0 6 rfl) ?_
    refine x_goto (tgt := 19) C (dX7_words_p0 7 rfl) (by decide) ?_
    exact hret _ _ _ _ (dX7_words_p0 10 rfl) (nar_i _) hp
  · obtain ⟨hb2, hp⟩ := hp.2 b2 rfl
    refine x_astore_n (loc' := [(2, .ref (kad κ b2)), (0, .ref (kad κ 0)), (1, .int p1)]) C rfl (by decide) rfl (dX7_words_p0 3 rfl) ?_
    refine x_aload_n 0 C rfl (dX7_words_p0 4 rfl) ?_
    refine x_ifnonnull (tgt := 15) C (dX7_words_p0 5 rfl) (by decide) ?_
    refine x_aload_n 0 C rfl (dX7_words_p0 8 rfl) ?_
    refine gX0_0 C (s_kd hb2) (s_lt hb2) tw_51 (dX7_words_p0 9 rfl) ?_
    exact hret _ _ _ _ (dX7_words_p0 10 rfl) (nar_i _) hp)
def P_X8_in (p0 : Int32) (p1 : Int32) (p2 : Int32) (σ : St) (K : Int32 → St → Prop) : Prop := (p0 < p1 → (K 0 σ)) ∧ (¬ (p0 < p1) → ((p2 < p0 → (K 0 σ)) ∧ (¬ (p2 < p0) → (K 1 σ))))
set_option maxHeartbeats 4000000 in
set_option maxRecDepth 100000 in
theorem m_X8_in (l : Launch) (ad : Nat → Nat) (D : va_G) (ca : Nat → ClassId) (had : adOk ad) (p0 : Int32) (p1 : Int32) (p2 : Int32)  (σ : St) (K : Int32 → St → Prop) (hp : P_X8_in p0 p1 p2 σ K) : CtI l ad D ca yX8_in cX8_in 3 .boolean 0 [.int p0, .int p1, .int p2] σ K := CtI_of (av := fun ad => [.int p0, .int p1, .int p2]) (plainFor_of_name (by decide)) had (Nat.le_of_ble_eq_true rfl) (fun κ C hret => by
  have C : Ok κ RX8 cX8_in 3 0 := C
  show GG κ 0 [(0, .int p0), (1, .int p1), (2, .int p2)] [] σ
  unfold P_X8_in at hp
  refine x_iload_n 0 C rfl (dX8_in_p0 0 rfl) ?_
  refine x_iload_n 1 C rfl (dX8_in_p0 1 rfl) ?_
  refine x_icmp_lt (tgt := 14) C (dX8_in_p0 2 rfl) (by decide) (fun hc => ?_) (fun hc => ?_)
  · have hp := hp.1 hc
    refine x_iconst (v := 0) C (by decide) (dX8_in_p0 8 rfl) ?_
    exact hret _ _ _ _ (dX8_in_p0 9 rfl) (nar_z isB0) hp
  · have hp := hp.2 hc
    refine x_iload_n 0 C rfl (dX8_in_p0 3 rfl) ?_
    refine x_iload_n 2 C rfl (dX8_in_p0 4 rfl) ?_
    refine x_icmp_gt (tgt := 14) C (dX8_in_p0 5 rfl) (by decide) (fun hc => ?_) (fun hc => ?_)
    · have hp := hp.1 hc
      refine x_iconst (v := 0) C (by decide) (dX8_in_p0 8 rfl) ?_
      exact hret _ _ _ _ (dX8_in_p0 9 rfl) (nar_z isB0) hp
    · have hp := hp.2 hc
      refine x_iconst (v := 1) C (by decide) (dX8_in_p0 6 rfl) ?_
      refine x_goto (tgt := 15) C (dX8_in_p0 7 rfl) (by decide) ?_
      exact hret _ _ _ _ (dX8_in_p0 9 rfl) (nar_z isB1) hp)
def P_X8_isSentence (p1 : Int32) (σ : St) (K : Int32 → St → Prop) : Prop := P_X8_in p1 0 ((σ.1 204 2) - 1) σ (fun r2 s1 => isB r2 ∧ K r2 s1)
set_option maxHeartbeats 4000000 in
set_option maxRecDepth 100000 in
theorem m_X8_isSentence (l : Launch) (ad : Nat → Nat) (D : va_G) (ca : Nat → ClassId) (had : adOk ad) (p1 : Int32)  (σ : St) (K : Int32 → St → Prop) (hp : P_X8_isSentence p1 σ K) : CtI l ad D ca yX8_isSentence cX8_isSentence 2 .boolean 1 [.ref (ad 204), .int p1] σ K := CtI_of (av := fun ad => [.ref (ad 204), .int p1]) (plainFor_of_name (by decide)) had (Nat.le_of_ble_eq_true rfl) (fun κ C hret => by
  have C : Ok κ RX8 cX8_isSentence 2 1 := C
  show GG κ 0 [(0, .ref (kad κ 204)), (1, .int p1)] [] σ
  unfold P_X8_isSentence at hp
  refine x_iload_n 1 C rfl (dX8_isSentence_p0 0 rfl) ?_
  refine x_iconst (v := 0) C (by decide) (dX8_isSentence_p0 1 rfl) ?_
  refine x_aload_n 0 C rfl (dX8_isSentence_p0 2 rfl) ?_
  refine gX8_2 C rfl (by decide) tw_750 (dX8_isSentence_p0 3 rfl) ?_
  refine x_iconst (v := 1) C (by decide) (dX8_isSentence_p0 4 rfl) ?_
  refine x_isub C (dX8_isSentence_p0 5 rfl) ?_
  refine x_csI (As := [.int p1, .int 0, .int ((σ.1 204 2) - 1)]) (st := []) C LRX8_94 (m_X8_in (kL κ) (kad κ) (kD κ) (kca κ) C.ado p1 0 ((σ.1 204 2) - 1)  σ _ hp) rfl (by decide) rfl (Nat.le_of_ble_eq_true rfl) (dX8_isSentence_p0 6 rfl) (fun r2 s1 hp => ?_)
  exact hret _ _ _ _ (dX8_isSentence_p0 7 rfl) (nar_z hp.1) hp.2)
def P_X8_word (p0 : Int32) (p1 : Int32) (σ : St) (K : Int32 → St → Prop) : Prop := K ((7 * p0) + p1) σ
set_option maxHeartbeats 4000000 in
set_option maxRecDepth 100000 in
theorem m_X8_word (l : Launch) (ad : Nat → Nat) (D : va_G) (ca : Nat → ClassId) (had : adOk ad) (p0 : Int32) (p1 : Int32)  (σ : St) (K : Int32 → St → Prop) (hp : P_X8_word p0 p1 σ K) : CtI l ad D ca yX8_word cX8_word 2 .int 0 [.int p0, .int p1] σ K := CtI_of (av := fun ad => [.int p0, .int p1]) (plainFor_of_name (by decide)) had (Nat.le_of_ble_eq_true rfl) (fun κ C hret => by
  have C : Ok κ RX8 cX8_word 2 0 := C
  show GG κ 0 [(0, .int p0), (1, .int p1)] [] σ
  unfold P_X8_word at hp
  refine x_bipush (v := 7) C (by decide) (dX8_word_p0 0 rfl) ?_
  refine x_iload_n 0 C rfl (dX8_word_p0 1 rfl) ?_
  refine x_imul C (dX8_word_p0 2 rfl) ?_
  refine x_iload_n 1 C rfl (dX8_word_p0 3 rfl) ?_
  refine x_iadd C (dX8_word_p0 4 rfl) ?_
  exact hret _ _ _ _ (dX8_word_p0 5 rfl) (nar_i _) hp)
def P_X8_tagOf (p1 : Int32) (p2 : Int32) (σ : St) (K : Int32 → St → Prop) : Prop := (p2 = 0 → (K 8 σ)) ∧ (¬ (p2 = 0) → P_X8_word p1 p2 σ (fun r2 s1 => vp_in r2 28 ∧ (K (s1.1 207 (ix r2)) s1)))
set_option maxHeartbeats 4000000 in
set_option maxRecDepth 100000 in
theorem m_X8_tagOf (l : Launch) (ad : Nat → Nat) (D : va_G) (ca : Nat → ClassId) (had : adOk ad) (p1 : Int32) (p2 : Int32)  (σ : St) (K : Int32 → St → Prop) (hp : P_X8_tagOf p1 p2 σ K) : CtI l ad D ca yX8_tagOf cX8_tagOf 3 .int 1 [.ref (ad 204), .int p1, .int p2] σ K := CtI_of (av := fun ad => [.ref (ad 204), .int p1, .int p2]) (plainFor_of_name (by decide)) had (Nat.le_of_ble_eq_true rfl) (fun κ C hret => by
  have C : Ok κ RX8 cX8_tagOf 3 1 := C
  show GG κ 0 [(0, .ref (kad κ 204)), (1, .int p1), (2, .int p2)] [] σ
  unfold P_X8_tagOf at hp
  refine x_iload_n 2 C rfl (dX8_tagOf_p0 0 rfl) ?_
  refine x_if_ne (tgt := 9) C (dX8_tagOf_p0 1 rfl) (by decide) (fun hc => ?_) (fun hc => ?_)
  · have hp := hp.2 hc
    refine x_aload_n 0 C rfl (dX8_tagOf_p0 4 rfl) ?_
    refine gX8_4 (b := 207) C rfl (by decide) rfl tw_752 (dX8_tagOf_p0 5 rfl) ?_
    refine x_iload_n 1 C rfl (dX8_tagOf_p0 6 rfl) ?_
    refine x_iload_n 2 C rfl (dX8_tagOf_p0 7 rfl) ?_
    refine x_csI (As := [.int p1, .int p2]) (st := [.ref (kad κ 207)]) C LRX8_124 (m_X8_word (kL κ) (kad κ) (kD κ) (kca κ) C.ado p1 p2  σ _ hp) rfl (by decide) rfl (Nat.le_of_ble_eq_true rfl) (dX8_tagOf_p0 8 rfl) (fun r2 s1 hp => ?_)
    obtain ⟨h3, hp⟩ := hp
    refine x_iald C rfl (by decide) h3 (dX8_tagOf_p0 9 rfl) ?_
    exact hret _ _ _ _ (dX8_tagOf_p0 10 rfl) (nar_i _) hp
  · have hp := hp.1 hc
    refine x_bipush (v := 8) C (by decide) (dX8_tagOf_p0 2 rfl) ?_
    refine x_goto (tgt := 19) C (dX8_tagOf_p0 3 rfl) (by decide) ?_
    exact hret _ _ _ _ (dX8_tagOf_p0 10 rfl) (nar_i _) hp)
def P_X8_tagPlace (p0 : Int32) (p1 : Int32) (σ : St) (K : Int32 → St → Prop) : Prop := K ((8 * p0) + p1) σ
set_option maxHeartbeats 4000000 in
set_option maxRecDepth 100000 in
theorem m_X8_tagPlace (l : Launch) (ad : Nat → Nat) (D : va_G) (ca : Nat → ClassId) (had : adOk ad) (p0 : Int32) (p1 : Int32)  (σ : St) (K : Int32 → St → Prop) (hp : P_X8_tagPlace p0 p1 σ K) : CtI l ad D ca yX8_tagPlace cX8_tagPlace 2 .int 0 [.int p0, .int p1] σ K := CtI_of (av := fun ad => [.int p0, .int p1]) (plainFor_of_name (by decide)) had (Nat.le_of_ble_eq_true rfl) (fun κ C hret => by
  have C : Ok κ RX8 cX8_tagPlace 2 0 := C
  show GG κ 0 [(0, .int p0), (1, .int p1)] [] σ
  unfold P_X8_tagPlace at hp
  refine x_bipush (v := 8) C (by decide) (dX8_tagPlace_p0 0 rfl) ?_
  refine x_iload_n 0 C rfl (dX8_tagPlace_p0 1 rfl) ?_
  refine x_imul C (dX8_tagPlace_p0 2 rfl) ?_
  refine x_iload_n 1 C rfl (dX8_tagPlace_p0 3 rfl) ?_
  refine x_iadd C (dX8_tagPlace_p0 4 rfl) ?_
  exact hret _ _ _ _ (dX8_tagPlace_p0 5 rfl) (nar_i _) hp)
def P_X8_tagPlaceOf (p1 : Int32) (p2 : Int32) (p3 : Int32) (σ : St) (K : Int32 → St → Prop) : Prop := P_X8_tagOf p1 p2 σ (fun r2 s1 => P_X8_tagOf p1 p3 s1 (fun r4 s3 => P_X8_tagPlace r2 r4 s3 (fun r6 s5 => K r6 s5)))
set_option maxHeartbeats 4000000 in
set_option maxRecDepth 100000 in
theorem m_X8_tagPlaceOf (l : Launch) (ad : Nat → Nat) (D : va_G) (ca : Nat → ClassId) (had : adOk ad) (p1 : Int32) (p2 : Int32) (p3 : Int32)  (σ : St) (K : Int32 → St → Prop) (hp : P_X8_tagPlaceOf p1 p2 p3 σ K) : CtI l ad D ca yX8_tagPlaceOf cX8_tagPlaceOf 4 .int 2 [.ref (ad 204), .int p1, .int p2, .int p3] σ K := CtI_of (av := fun ad => [.ref (ad 204), .int p1, .int p2, .int p3]) (plainFor_of_name (by decide)) had (Nat.le_of_ble_eq_true rfl) (fun κ C hret => by
  have C : Ok κ RX8 cX8_tagPlaceOf 4 2 := C
  show GG κ 0 [(0, .ref (kad κ 204)), (1, .int p1), (2, .int p2), (3, .int p3)] [] σ
  unfold P_X8_tagPlaceOf at hp
  refine x_aload_n 0 C rfl (dX8_tagPlaceOf_p0 0 rfl) ?_
  refine x_iload_n 1 C rfl (dX8_tagPlaceOf_p0 1 rfl) ?_
  refine x_iload_n 2 C rfl (dX8_tagPlaceOf_p0 2 rfl) ?_
  refine x_cvI (As := [.int p1, .int p2]) (st := []) C LRX8_158 (ci := 8) rfl rfl (by decide) (by decide) (m_X8_tagOf (kL κ) (kad κ) (kD κ) (kca κ) C.ado p1 p2  σ _ hp) rfl (by decide) rfl (Nat.le_of_ble_eq_true rfl) (dX8_tagPlaceOf_p0 3 rfl) (fun r2 s1 hp => ?_)
  refine x_aload_n 0 C rfl (dX8_tagPlaceOf_p0 4 rfl) ?_
  refine x_iload_n 1 C rfl (dX8_tagPlaceOf_p0 5 rfl) ?_
  refine x_iload_n 3 C rfl (dX8_tagPlaceOf_p0 6 rfl) ?_
  refine x_cvI (As := [.int p1, .int p3]) (st := [.int r2]) C LRX8_158 (ci := 8) rfl rfl (by decide) (by decide) (m_X8_tagOf (kL κ) (kad κ) (kD κ) (kca κ) C.ado p1 p3  s1 _ hp) rfl (by decide) rfl (Nat.le_of_ble_eq_true rfl) (dX8_tagPlaceOf_p0 7 rfl) (fun r4 s3 hp => ?_)
  refine x_csI (As := [.int r2, .int r4]) (st := []) C LRX8_135 (m_X8_tagPlace (kL κ) (kad κ) (kD κ) (kca κ) C.ado r2 r4  s3 _ hp) rfl (by decide) rfl (Nat.le_of_ble_eq_true rfl) (dX8_tagPlaceOf_p0 8 rfl) (fun r6 s5 hp => ?_)
  exact hret _ _ _ _ (dX8_tagPlaceOf_p0 9 rfl) (nar_i _) hp)
def P_X8_distancePlace (p0 : Int32) (p1 : Int32) (σ : St) (K : Int32 → St → Prop) : Prop := K ((71 + (6 * p0)) + p1) σ
set_option maxHeartbeats 4000000 in
set_option maxRecDepth 100000 in
theorem m_X8_distancePlace (l : Launch) (ad : Nat → Nat) (D : va_G) (ca : Nat → ClassId) (had : adOk ad) (p0 : Int32) (p1 : Int32)  (σ : St) (K : Int32 → St → Prop) (hp : P_X8_distancePlace p0 p1 σ K) : CtI l ad D ca yX8_distancePlace cX8_distancePlace 2 .int 0 [.int p0, .int p1] σ K := CtI_of (av := fun ad => [.int p0, .int p1]) (plainFor_of_name (by decide)) had (Nat.le_of_ble_eq_true rfl) (fun κ C hret => by
  have C : Ok κ RX8 cX8_distancePlace 2 0 := C
  show GG κ 0 [(0, .int p0), (1, .int p1)] [] σ
  unfold P_X8_distancePlace at hp
  refine x_bipush (v := 71) C (by decide) (dX8_distancePlace_p0 0 rfl) ?_
  refine x_bipush (v := 6) C (by decide) (dX8_distancePlace_p0 1 rfl) ?_
  refine x_iload_n 0 C rfl (dX8_distancePlace_p0 2 rfl) ?_
  refine x_imul C (dX8_distancePlace_p0 3 rfl) ?_
  refine x_iadd C (dX8_distancePlace_p0 4 rfl) ?_
  refine x_iload_n 1 C rfl (dX8_distancePlace_p0 5 rfl) ?_
  refine x_iadd C (dX8_distancePlace_p0 6 rfl) ?_
  exact hret _ _ _ _ (dX8_distancePlace_p0 7 rfl) (nar_i _) hp)
def P_X8_distancePlaceOf (p0 : Int32) (p1 : Int32) (σ : St) (K : Int32 → St → Prop) : Prop := (p1 ≤ p0 → (P_X8_distancePlace 1 (p0 - p1) σ (fun r2 s1 => K r2 s1))) ∧ (¬ (p1 ≤ p0) → (P_X8_distancePlace 0 (p1 - p0) σ (fun r4 s3 => K r4 s3)))
set_option maxHeartbeats 4000000 in
set_option maxRecDepth 100000 in
theorem m_X8_distancePlaceOf (l : Launch) (ad : Nat → Nat) (D : va_G) (ca : Nat → ClassId) (had : adOk ad) (p0 : Int32) (p1 : Int32)  (σ : St) (K : Int32 → St → Prop) (hp : P_X8_distancePlaceOf p0 p1 σ K) : CtI l ad D ca yX8_distancePlaceOf cX8_distancePlaceOf 2 .int 1 [.int p0, .int p1] σ K := CtI_of (av := fun ad => [.int p0, .int p1]) (plainFor_of_name (by decide)) had (Nat.le_of_ble_eq_true rfl) (fun κ C hret => by
  have C : Ok κ RX8 cX8_distancePlaceOf 2 1 := C
  show GG κ 0 [(0, .int p0), (1, .int p1)] [] σ
  unfold P_X8_distancePlaceOf at hp
  refine x_iload_n 0 C rfl (dX8_distancePlaceOf_p0 0 rfl) ?_
  refine x_iload_n 1 C rfl (dX8_distancePlaceOf_p0 1 rfl) ?_
  refine x_icmp_ge (tgt := 15) C (dX8_distancePlaceOf_p0 2 rfl) (by decide) (fun hc => ?_) (fun hc => ?_)
  · have hp := hp.1 hc
    refine x_iconst (v := 1) C (by decide) (dX8_distancePlaceOf_p0 9 rfl) ?_
    refine x_iload_n 0 C rfl (dX8_distancePlaceOf_p0 10 rfl) ?_
    refine x_iload_n 1 C rfl (dX8_distancePlaceOf_p0 11 rfl) ?_
    refine x_isub C (dX8_distancePlaceOf_p0 12 rfl) ?_
    refine x_csI (As := [.int 1, .int (p0 - p1)]) (st := []) C LRX8_144 (m_X8_distancePlace (kL κ) (kad κ) (kD κ) (kca κ) C.ado 1 (p0 - p1)  σ _ hp) rfl (by decide) rfl (Nat.le_of_ble_eq_true rfl) (dX8_distancePlaceOf_p0 13 rfl) (fun r2 s1 hp => ?_)
    exact hret _ _ _ _ (dX8_distancePlaceOf_p0 14 rfl) (nar_i _) hp
  · have hp := hp.2 hc
    refine x_iconst (v := 0) C (by decide) (dX8_distancePlaceOf_p0 3 rfl) ?_
    refine x_iload_n 1 C rfl (dX8_distancePlaceOf_p0 4 rfl) ?_
    refine x_iload_n 0 C rfl (dX8_distancePlaceOf_p0 5 rfl) ?_
    refine x_isub C (dX8_distancePlaceOf_p0 6 rfl) ?_
    refine x_csI (As := [.int 0, .int (p1 - p0)]) (st := []) C LRX8_144 (m_X8_distancePlace (kL κ) (kad κ) (kD κ) (kca κ) C.ado 0 (p1 - p0)  σ _ hp) rfl (by decide) rfl (Nat.le_of_ble_eq_true rfl) (dX8_distancePlaceOf_p0 7 rfl) (fun r4 s3 hp => ?_)
    refine x_goto (tgt := 22) C (dX8_distancePlaceOf_p0 8 rfl) (by decide) ?_
    exact hret _ _ _ _ (dX8_distancePlaceOf_p0 14 rfl) (nar_i _) hp)
def P_X8_arc (p0 : Int32) (p1 : Int32) (p2 : Int32) (σ : St) (K : Int32 → St → Prop) : Prop := K (((49 * p0) + (7 * p1)) + p2) σ
set_option maxHeartbeats 4000000 in
set_option maxRecDepth 100000 in
theorem m_X8_arc (l : Launch) (ad : Nat → Nat) (D : va_G) (ca : Nat → ClassId) (had : adOk ad) (p0 : Int32) (p1 : Int32) (p2 : Int32)  (σ : St) (K : Int32 → St → Prop) (hp : P_X8_arc p0 p1 p2 σ K) : CtI l ad D ca yX8_arc cX8_arc 3 .int 0 [.int p0, .int p1, .int p2] σ K := CtI_of (av := fun ad => [.int p0, .int p1, .int p2]) (plainFor_of_name (by decide)) had (Nat.le_of_ble_eq_true rfl) (fun κ C hret => by
  have C : Ok κ RX8 cX8_arc 3 0 := C
  show GG κ 0 [(0, .int p0), (1, .int p1), (2, .int p2)] [] σ
  unfold P_X8_arc at hp
  refine x_bipush (v := 49) C (by decide) (dX8_arc_p0 0 rfl) ?_
  refine x_iload_n 0 C rfl (dX8_arc_p0 1 rfl) ?_
  refine x_imul C (dX8_arc_p0 2 rfl) ?_
  refine x_bipush (v := 7) C (by decide) (dX8_arc_p0 3 rfl) ?_
  refine x_iload_n 1 C rfl (dX8_arc_p0 4 rfl) ?_
  refine x_imul C (dX8_arc_p0 5 rfl) ?_
  refine x_iadd C (dX8_arc_p0 6 rfl) ?_
  refine x_iload_n 2 C rfl (dX8_arc_p0 7 rfl) ?_
  refine x_iadd C (dX8_arc_p0 8 rfl) ?_
  exact hret _ _ _ _ (dX8_arc_p0 9 rfl) (nar_i _) hp)
def P_X8_scoreOf (p1 : Int32) (p2 : Int32) (p3 : Int32) (σ : St) (K : Int32 → St → Prop) : Prop := P_X8_tagPlaceOf p1 p2 p3 σ (fun r2 s1 => vp_in r2 84 ∧ P_X8_distancePlaceOf p2 p3 s1 (fun r5 s4 => vp_in r5 84 ∧ P_X8_arc p1 p2 p3 s4 (fun r8 s7 => vp_in r8 196 ∧ (K (((s1.1 211 (ix r2)) + (s4.1 211 (ix r5))) + (s7.1 209 (ix r8))) s7))))
set_option maxHeartbeats 4000000 in
set_option maxRecDepth 100000 in
theorem m_X8_scoreOf (l : Launch) (ad : Nat → Nat) (D : va_G) (ca : Nat → ClassId) (had : adOk ad) (p1 : Int32) (p2 : Int32) (p3 : Int32)  (σ : St) (K : Int32 → St → Prop) (hp : P_X8_scoreOf p1 p2 p3 σ K) : CtI l ad D ca yX8_scoreOf cX8_scoreOf 4 .int 3 [.ref (ad 204), .int p1, .int p2, .int p3] σ K := CtI_of (av := fun ad => [.ref (ad 204), .int p1, .int p2, .int p3]) (plainFor_of_name (by decide)) had (Nat.le_of_ble_eq_true rfl) (fun κ C hret => by
  have C : Ok κ RX8 cX8_scoreOf 4 3 := C
  show GG κ 0 [(0, .ref (kad κ 204)), (1, .int p1), (2, .int p2), (3, .int p3)] [] σ
  unfold P_X8_scoreOf at hp
  refine x_aload_n 0 C rfl (dX8_scoreOf_p0 0 rfl) ?_
  refine gX8_8 (b := 211) C rfl (by decide) rfl tw_756 (dX8_scoreOf_p0 1 rfl) ?_
  refine x_aload_n 0 C rfl (dX8_scoreOf_p0 2 rfl) ?_
  refine x_iload_n 1 C rfl (dX8_scoreOf_p0 3 rfl) ?_
  refine x_iload_n 2 C rfl (dX8_scoreOf_p0 4 rfl) ?_
  refine x_iload_n 3 C rfl (dX8_scoreOf_p0 5 rfl) ?_
  refine x_cvI (As := [.int p1, .int p2, .int p3]) (st := [.ref (kad κ 211)]) C LRX8_161 (ci := 8) rfl rfl (by decide) (by decide) (m_X8_tagPlaceOf (kL κ) (kad κ) (kD κ) (kca κ) C.ado p1 p2 p3  σ _ hp) rfl (by decide) rfl (Nat.le_of_ble_eq_true rfl) (dX8_scoreOf_p0 6 rfl) (fun r2 s1 hp => ?_)
  obtain ⟨h3, hp⟩ := hp
  refine x_iald C rfl (by decide) h3 (dX8_scoreOf_p0 7 rfl) ?_
  refine x_aload_n 0 C rfl (dX8_scoreOf_p0 8 rfl) ?_
  refine gX8_8 (b := 211) C rfl (by decide) rfl tw_756 (dX8_scoreOf_p0 9 rfl) ?_
  refine x_iload_n 2 C rfl (dX8_scoreOf_p0 10 rfl) ?_
  refine x_iload_n 3 C rfl (dX8_scoreOf_p0 11 rfl) ?_
  refine x_csI (As := [.int p2, .int p3]) (st := [.ref (kad κ 211), .int (s1.1 211 (ix r2))]) C LRX8_164 (m_X8_distancePlaceOf (kL κ) (kad κ) (kD κ) (kca κ) C.ado p2 p3  s1 _ hp) rfl (by decide) rfl (Nat.le_of_ble_eq_true rfl) (dX8_scoreOf_p0 12 rfl) (fun r5 s4 hp => ?_)
  obtain ⟨h6, hp⟩ := hp
  refine x_iald C rfl (by decide) h6 (dX8_scoreOf_p0 13 rfl) ?_
  refine x_iadd C (dX8_scoreOf_p0 14 rfl) ?_
  refine x_aload_n 0 C rfl (dX8_scoreOf_p0 15 rfl) ?_
  refine gX8_6 (b := 209) C rfl (by decide) rfl tw_754 (dX8_scoreOf_p0 16 rfl) ?_
  refine x_iload_n 1 C rfl (dX8_scoreOf_p0 17 rfl) ?_
  refine x_iload_n 2 C rfl (dX8_scoreOf_p0 18 rfl) ?_
  refine x_iload_n 3 C rfl (dX8_scoreOf_p0 19 rfl) ?_
  refine x_csI (As := [.int p1, .int p2, .int p3]) (st := [.ref (kad κ 209), .int ((s1.1 211 (ix r2)) + (s4.1 211 (ix r5)))]) C LRX8_147 (m_X8_arc (kL κ) (kad κ) (kD κ) (kca κ) C.ado p1 p2 p3  s4 _ hp) rfl (by decide) rfl (Nat.le_of_ble_eq_true rfl) (dX8_scoreOf_p0 20 rfl) (fun r8 s7 hp => ?_)
  obtain ⟨h9, hp⟩ := hp
  refine x_iald C rfl (by decide) h9 (dX8_scoreOf_p0 21 rfl) ?_
  refine x_iadd C (dX8_scoreOf_p0 22 rfl) ?_
  exact hret _ _ _ _ (dX8_scoreOf_p0 23 rfl) (nar_i _) hp)
