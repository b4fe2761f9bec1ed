def F_X7_annotationScore_4 (K : Int32 → St → Prop) (c4 : (Int32 × Int32 × St) → Prop) (u1 : Nat) (u2 : Int32) (u3 : Int32) (σ : St) : Prop := ((σ.1 u1 0) < u3 → (K u2 σ)) ∧ (¬ ((σ.1 u1 0) < u3) → vp_in u3 7 ∧ (P_X7_arcScore u1 (σ.1 (u1 + 2) (ix u3)) u3 σ (fun r3 s2 => ∀ v4 : Int32, v4 = (u2 + r3) → ∀ v5 : Int32, v5 = u3 + 1 → c4 (v4, v5, s2))))
set_option maxHeartbeats 4000000 in
set_option maxRecDepth 100000 in
theorem F_X7_annotationScore_4_w {κ : Kap} {K : Int32 → St → Prop} {c4 : (Int32 × Int32 × St) → Prop} (C : Ok κ RX7 cX7_annotationScore 4 3) (hret : RetI κ cX7_annotationScore .int K) (u1 : Nat) (u2 : Int32) (u3 : Int32)  (hu1 : sOk u1)   (σ : St) (hc4 : ∀ (u2 : Int32) (u3 : Int32) (σ : St), c4 (u2, u3, σ) → GG κ 4 [(0, .ref (kad κ 0)), (1, .ref (kad κ u1)), (2, .int u2), (3, .int u3)] [] σ) (hp : F_X7_annotationScore_4 K c4 u1 u2 u3 σ) : GG κ 4 [(0, .ref (kad κ 0)), (1, .ref (kad κ u1)), (2, .int u2), (3, .int u3)] [] σ := by
  unfold F_X7_annotationScore_4 at hp
  refine x_iload_n 3 C rfl (dX7_annotationScore_p0 4 rfl) ?_
  refine x_aload_n 1 C rfl (dX7_annotationScore_p0 5 rfl) ?_
  refine gX0_0 C (s_kd hu1) (s_lt hu1) tw_51 (dX7_annotationScore_p0 6 rfl) ?_
  refine x_icmp_gt (tgt := 33) C (dX7_annotationScore_p0 7 rfl) (by decide) (fun hc => ?_) (fun hc => ?_)
  · have hp := hp.1 hc
    refine x_iload_n 2 C rfl (dX7_annotationScore_p0 21 rfl) ?_
    exact hret _ _ _ _ (dX7_annotationScore_p0 22 rfl) (nar_i _) hp
  · have hp := hp.2 hc
    refine x_iload_n 2 C rfl (dX7_annotationScore_p0 8 rfl) ?_
    refine x_aload_n 0 C rfl (dX7_annotationScore_p0 9 rfl) ?_
    refine x_aload_n 1 C rfl (dX7_annotationScore_p0 10 rfl) ?_
    refine x_aload_n 1 C rfl (dX7_annotationScore_p0 11 rfl) ?_
    refine gX0_2 (b := u1 + 2) C (s_kd hu1) (s_lt hu1) (s_m2 hu1) tw_57 (dX7_annotationScore_p0 12 rfl) ?_
    refine x_iload_n 3 C rfl (dX7_annotationScore_p0 13 rfl) ?_
    obtain ⟨h1, hp⟩ := hp
    refine x_iald C (s_kd2 hu1) (s_lt2 hu1) (vp_ln (s_ln2 hu1) h1) (dX7_annotationScore_p0 14 rfl) ?_
    refine x_iload_n 3 C rfl (dX7_annotationScore_p0 15 rfl) ?_
    refine x_cvI (As := [.ref (kad κ u1), .int (σ.1 (u1 + 2) (ix u3)), .int u3]) (st := [.int u2]) C LRX7_176 (ci := 7) rfl rfl (by decide) (by decide) (m_X7_arcScore (kL κ) (kad κ) (kD κ) (kca κ) C.ado u1 (σ.1 (u1 + 2) (ix u3)) u3 hu1 σ _ hp) rfl (by decide) rfl (Nat.le_of_ble_eq_true rfl) (dX7_annotationScore_p0 16 rfl) (fun r3 s2 hp => ?_)
    refine x_iadd C (dX7_annotationScore_p0 17 rfl) ?_
    refine x_topI (fun v4 ev4 => ?_)
    have hp := hp v4 ev4
    refine x_istore_n (loc' := [(2, .int v4), (0, .ref (kad κ 0)), (1, .ref (kad κ u1)), (3, .int u3)]) C rfl (by decide) rfl (dX7_annotationScore_p0 18 rfl) ?_
    obtain ⟨v5, ev5⟩ : ∃ z : Int32, z = u3 + 1 := ⟨_, rfl⟩
    have hp := hp v5 ev5
    refine x_iinc (v := v5) (loc' := [(3, .int v5), (2, .int v4), (0, .ref (kad κ 0)), (1, .ref (kad κ u1))]) 3 C rfl (by rw [ev5]; rfl) (by decide) rfl (dX7_annotationScore_p0 19 rfl) ?_
    refine x_goto (tgt := 4) C (dX7_annotationScore_p0 20 rfl) (by decide) ?_
    refine x_loc (loc' := [(0, .ref (kad κ 0)), (1, .ref (kad κ u1)), (2, .int v4), (3, .int v5)]) [2, 3, 1, 0] rfl ?_
    exact hc4 v4 v5 s2 hp
def P_X7_annotationScore (p1 : Nat) (σ : St) (K : Int32 → St → Prop) : Prop := LpE (fun c s => F_X7_annotationScore_4 K  c p1 s.1 s.2.1 s.2.2) (0, 1, σ)
set_option maxHeartbeats 4000000 in
set_option maxRecDepth 100000 in
theorem m_X7_annotationScore (l : Launch) (ad : Nat → Nat) (D : va_G) (ca : Nat → ClassId) (had : adOk ad) (p1 : Nat) (hp1 : sOk p1) (σ : St) (K : Int32 → St → Prop) (hp : P_X7_annotationScore p1 σ K) : CtI l ad D ca yX7_annotationScore cX7_annotationScore 4 .int 3 [.ref (ad 0), .ref (ad p1)] σ K := CtI_of (av := fun ad => [.ref (ad 0), .ref (ad p1)]) (plainFor_of_name (by decide)) had (Nat.le_of_ble_eq_true rfl) (fun κ C hret => by
  have C : Ok κ RX7 cX7_annotationScore 4 3 := C
  show GG κ 0 [(0, .ref (kad κ 0)), (1, .ref (kad κ p1))] [] σ
  unfold P_X7_annotationScore at hp
  refine x_iconst (v := 0) C (by decide) (dX7_annotationScore_p0 0 rfl) ?_
  refine x_istore_n (loc' := [(2, .int 0), (0, .ref (kad κ 0)), (1, .ref (kad κ p1))]) C rfl (by decide) rfl (dX7_annotationScore_p0 1 rfl) ?_
  refine x_iconst (v := 1) C (by decide) (dX7_annotationScore_p0 2 rfl) ?_
  refine x_istore_n (loc' := [(3, .int 1), (2, .int 0), (0, .ref (kad κ 0)), (1, .ref (kad κ p1))]) C rfl (by decide) rfl (dX7_annotationScore_p0 3 rfl) ?_
  refine x_loc (loc' := [(0, .ref (kad κ 0)), (1, .ref (kad κ p1)), (2, .int 0), (3, .int 1)]) [2, 3, 1, 0] rfl ?_
  exact LpE_GG (S := (Int32 × Int32 × St)) (F := fun c s => F_X7_annotationScore_4 K  c p1 s.1 s.2.1 s.2.2) (W := fun s => GG κ 4 [(0, .ref (kad κ 0)), (1, .ref (kad κ p1)), (2, .int s.1), (3, .int s.2.1)] [] s.2.2) (fun c s hcc hp => F_X7_annotationScore_4_w C hret p1 s.1 s.2.1 hp1 s.2.2  (fun u2 u3 σ h => hcc (u2, u3, σ) h) hp) hp)
def P_X7_append (p1 : Int32) (σ : St) (K : Int32 → St → Prop) : Prop := (p1 < 0 → (K (-1000002) σ)) ∧ (¬ (p1 < 0) → ((p1 ≤ 127 → P_X2_add p1 σ (fun r2 s1 => (r2 = 0 → (K (-1000003) s1)) ∧ (¬ (r2 = 0) → (K (s1.1 1 1) s1)))) ∧ (¬ (p1 ≤ 127) → (K (-1000002) σ))))
set_option maxHeartbeats 4000000 in
set_option maxRecDepth 100000 in
theorem m_X7_append (l : Launch) (ad : Nat → Nat) (D : va_G) (ca : Nat → ClassId) (had : adOk ad) (p1 : Int32)  (σ : St) (K : Int32 → St → Prop) (hp : P_X7_append p1 σ K) : CtI l ad D ca yX7_append cX7_append 2 .int 1 [.ref (ad 0), .int p1] σ K := CtI_of (av := fun ad => [.ref (ad 0), .int p1]) (plainFor_of_name (by decide)) had (Nat.le_of_ble_eq_true rfl) (fun κ C hret => by
  have C : Ok κ RX7 cX7_append 2 1 := C
  show GG κ 0 [(0, .ref (kad κ 0)), (1, .int p1)] [] σ
  unfold P_X7_append at hp
  refine x_iload_n 1 C rfl (dX7_append_p0 0 rfl) ?_
  refine x_if_lt (tgt := 10) C (dX7_append_p0 1 rfl) (by decide) (fun hc => ?_) (fun hc => ?_)
  · have hp := hp.1 hc
    refine x_ldc C tw_269 (dX7_append_p0 5 rfl) ?_
    exact hret _ _ _ _ (dX7_append_p0 6 rfl) (nar_i _) hp
  · have hp := hp.2 hc
    refine x_iload_n 1 C rfl (dX7_append_p0 2 rfl) ?_
    refine x_bipush (v := 127) C (by decide) (dX7_append_p0 3 rfl) ?_
    refine x_icmp_le (tgt := 13) C (dX7_append_p0 4 rfl) (by decide) (fun hc => ?_) (fun hc => ?_)
    · have hp := hp.1 hc
      refine x_aload_n 0 C rfl (dX7_append_p0 7 rfl) ?_
      refine gX7_0 (b := 1) C rfl (by decide) rfl tw_234 (dX7_append_p0 8 rfl) ?_
      refine x_iload_n 1 C rfl (dX7_append_p0 9 rfl) ?_
      refine x_cvI (As := [.int p1]) (st := []) C LRX7_73 (ci := 2) rfl rfl (by decide) (by decide) (m_X2_add (kL κ) (kad κ) (kD κ) (kca κ) C.ado p1  σ _ hp) rfl (by decide) rfl (Nat.le_of_ble_eq_true rfl) (dX7_append_p0 10 rfl) (fun r2 s1 hp => ?_)
      refine x_if_eq (tgt := 34) C (dX7_append_p0 11 rfl) (by decide) (fun hc => ?_) (fun hc => ?_)
      · have hp := hp.1 hc
        refine x_ldc C tw_274 (dX7_append_p0 16 rfl) ?_
        exact hret _ _ _ _ (dX7_append_p0 17 rfl) (nar_i _) hp
      · have hp := hp.2 hc
        refine x_aload_n 0 C rfl (dX7_append_p0 12 rfl) ?_
        refine gX7_0 (b := 1) C rfl (by decide) rfl tw_234 (dX7_append_p0 13 rfl) ?_
        refine gX2_1 C rfl (by decide) tw_30 (dX7_append_p0 14 rfl) ?_
        refine x_goto (tgt := 36) C (dX7_append_p0 15 rfl) (by decide) ?_
        exact hret _ _ _ _ (dX7_append_p0 17 rfl) (nar_i _) hp
    · have hp := hp.2 hc
      refine x_ldc C tw_269 (dX7_append_p0 5 rfl) ?_
      exact hret _ _ _ _ (dX7_append_p0 6 rfl) (nar_i _) hp)
def P_X7_bestHead (p1 : Int32) (p2 : Int32) (σ : St) (K : Int32 → St → Prop) : Prop := P_X7_find p1 σ (fun r3 s1 => (r3 = none → (K (-1000001) s1)) ∧ (∀ b2 : Nat, r3 = some b2 → sOk b2 ∧ P_X0_hasWord b2 p2 s1 (fun r5 s4 => (r5 = 0 → (K (-1000001) s4)) ∧ (¬ (r5 = 0) → P_X7_rankTrees b2 1 s4 (fun s6 => ((s6.1 126 9) = 0 → (K (-1000004) s6)) ∧ (¬ ((s6.1 126 9) = 0) → P_X4_headAt 0 p2 s6 (fun r8 s7 => K r8 s7)))))))
set_option maxHeartbeats 4000000 in
set_option maxRecDepth 100000 in
theorem m_X7_bestHead (l : Launch) (ad : Nat → Nat) (D : va_G) (ca : Nat → ClassId) (had : adOk ad) (p1 : Int32) (p2 : Int32)  (σ : St) (K : Int32 → St → Prop) (hp : P_X7_bestHead p1 p2 σ K) : CtI l ad D ca yX7_bestHead cX7_bestHead 4 .int 13 [.ref (ad 0), .int p1, .int p2] σ K := CtI_of (av := fun ad => [.ref (ad 0), .int p1, .int p2]) (plainFor_of_name (by decide)) had (Nat.le_of_ble_eq_true rfl) (fun κ C hret => by
  have C : Ok κ RX7 cX7_bestHead 4 13 := C
  show GG κ 0 [(0, .ref (kad κ 0)), (1, .int p1), (2, .int p2)] [] σ
  unfold P_X7_bestHead at hp
  refine x_aload_n 0 C rfl (dX7_bestHead_p0 0 rfl) ?_
  refine x_iload_n 1 C rfl (dX7_bestHead_p0 1 rfl) ?_
  refine x_cvQ (As := [.int p1]) (st := []) C LRX7_101 (ci := 7) rfl rfl (by decide) (by decide) (m_X7_find (kL κ) (kad κ) (kD κ) (kca κ) C.ado p1  σ _ hp) rfl (by decide) rfl (Nat.le_of_ble_eq_true rfl) (dX7_bestHead_p0 2 rfl) (fun s1 hp => ?_) (fun b2 s1 hp => ?_)
  · have hp := hp.1 rfl
    refine x_astore_nN (loc' := [(3, .null), (0, .ref (kad κ 0)), (1, .int p1), (2, .int p2)]) C rfl (by decide) rfl (dX7_bestHead_p0 3 rfl) ?_
    refine x_aload_nN 0 C rfl (dX7_bestHead_p0 4 rfl) ?_
    refine x_ifnullN (tgt := 18) C (dX7_bestHead_p0 5 rfl) (by decide) ?_
    refine x_ldc C tw_326 (dX7_bestHead_p0 10 rfl) ?_
    exact hret _ _ _ _ (dX7_bestHead_p0 11 rfl) (nar_i _) hp
  · obtain ⟨hb2, hp⟩ := hp.2 b2 rfl
    refine x_astore_n (loc' := [(3, .ref (kad κ b2)), (0, .ref (kad κ 0)), (1, .int p1), (2, .int p2)]) C rfl (by decide) rfl (dX7_bestHead_p0 3 rfl) ?_
    refine x_aload_n 0 C rfl (dX7_bestHead_p0 4 rfl) ?_
    refine x_ifnull C (dX7_bestHead_p0 5 rfl) ?_
    refine x_aload_n 0 C rfl (dX7_bestHead_p0 6 rfl) ?_
    refine x_iload_n 3 C rfl (dX7_bestHead_p0 7 rfl) ?_
    refine x_cvI (As := [.int p2]) (st := []) C LRX7_112 (ci := 0) rfl (s_kd hb2) (by decide) (s_lt hb2) (m_X0_hasWord (kL κ) (kad κ) (kD κ) (kca κ) C.ado b2 p2 hb2 s1 _ hp) rfl (by decide) rfl (Nat.le_of_ble_eq_true rfl) (dX7_bestHead_p0 8 rfl) (fun r5 s4 hp => ?_)
    refine x_if_ne (tgt := 21) C (dX7_bestHead_p0 9 rfl) (by decide) (fun hc => ?_) (fun hc => ?_)
    · have hp := hp.2 hc
      refine x_aload_n 1 C rfl (dX7_bestHead_p0 12 rfl) ?_
      refine x_aload_n 0 C rfl (dX7_bestHead_p0 13 rfl) ?_
      refine x_iconst (v := 1) C (by decide) (dX7_bestHead_p0 14 rfl) ?_
      refine x_cvV (As := [.ref (kad κ b2), .int 1]) (st := []) C LRX7_129 (ci := 7) rfl rfl (by decide) (by decide) (m_X7_rankTrees (kL κ) (kad κ) (kD κ) (kca κ) C.ado b2 1 hb2 s4 _ hp) rfl (by decide) rfl (Nat.le_of_ble_eq_true rfl) (dX7_bestHead_p0 15 rfl) (fun s6 hp => ?_)
      refine x_aload_n 1 C rfl (dX7_bestHead_p0 16 rfl) ?_
      refine gX7_7 (b := 126) C rfl (by decide) rfl tw_241 (dX7_bestHead_p0 17 rfl) ?_
      refine gX4_9 C rfl (by decide) tw_133 (dX7_bestHead_p0 18 rfl) ?_
      refine x_if_ne (tgt := 42) C (dX7_bestHead_p0 19 rfl) (by decide) (fun hc => ?_) (fun hc => ?_)
      · have hp := hp.2 hc
        refine x_aload_n 1 C rfl (dX7_bestHead_p0 22 rfl) ?_
        refine gX7_7 (b := 126) C rfl (by decide) rfl tw_241 (dX7_bestHead_p0 23 rfl) ?_
        refine x_iconst (v := 0) C (by decide) (dX7_bestHead_p0 24 rfl) ?_
        refine x_iload_n 3 C rfl (dX7_bestHead_p0 25 rfl) ?_
        refine x_cvI (As := [.int 0, .int p2]) (st := []) C LRX7_140 (ci := 4) rfl rfl (by decide) (by decide) (m_X4_headAt (kL κ) (kad κ) (kD κ) (kca κ) C.ado 0 p2  s6 _ hp) rfl (by decide) rfl (Nat.le_of_ble_eq_true rfl) (dX7_bestHead_p0 26 rfl) (fun r8 s7 hp => ?_)
        exact hret _ _ _ _ (dX7_bestHead_p0 27 rfl) (nar_i _) hp
      · have hp := hp.1 hc
        refine x_ldc C tw_299 (dX7_bestHead_p0 20 rfl) ?_
        refine x_goto (tgt := 51) C (dX7_bestHead_p0 21 rfl) (by decide) ?_
        exact hret _ _ _ _ (dX7_bestHead_p0 27 rfl) (nar_i _) hp
    · have hp := hp.1 hc
      refine x_ldc C tw_326 (dX7_bestHead_p0 10 rfl) ?_
      exact hret _ _ _ _ (dX7_bestHead_p0 11 rfl) (nar_i _) hp)
def P_X7_bestScore (p1 : Int32) (σ : St) (K : Int32 → St → Prop) : Prop := P_X7_find p1 σ (fun r3 s1 => (r3 = none → (K (-1000001) s1)) ∧ (∀ b2 : Nat, r3 = some b2 → sOk b2 ∧ P_X7_rankTrees b2 1 s1 (fun s4 => ((s4.1 126 9) = 0 → (K (-1000004) s4)) ∧ (¬ ((s4.1 126 9) = 0) → P_X4_scoreAt 0 s4 (fun r6 s5 => K r6 s5)))))
set_option maxHeartbeats 4000000 in
set_option maxRecDepth 100000 in
theorem m_X7_bestScore (l : Launch) (ad : Nat → Nat) (D : va_G) (ca : Nat → ClassId) (had : adOk ad) (p1 : Int32)  (σ : St) (K : Int32 → St → Prop) (hp : P_X7_bestScore p1 σ K) : CtI l ad D ca yX7_bestScore cX7_bestScore 3 .int 13 [.ref (ad 0), .int p1] σ K := CtI_of (av := fun ad => [.ref (ad 0), .int p1]) (plainFor_of_name (by decide)) had (Nat.le_of_ble_eq_true rfl) (fun κ C hret => by
  have C : Ok κ RX7 cX7_bestScore 3 13 := C
  show GG κ 0 [(0, .ref (kad κ 0)), (1, .int p1)] [] σ
  unfold P_X7_bestScore at hp
  refine x_aload_n 0 C rfl (dX7_bestScore_p0 0 rfl) ?_
  refine x_iload_n 1 C rfl (dX7_bestScore_p0 1 rfl) ?_
  refine x_cvQ (As := [.int p1]) (st := []) C LRX7_101 (ci := 7) rfl rfl (by decide) (by decide) (m_X7_find (kL κ) (kad κ) (kD κ) (kca κ) C.ado p1  σ _ hp) rfl (by decide) rfl (Nat.le_of_ble_eq_true rfl) (dX7_bestScore_p0 2 rfl) (fun s1 hp => ?_) (fun b2 s1 hp => ?_)
  · have hp := hp.1 rfl
    refine x_astore_nN (loc' := [(2, .null), (0, .ref (kad κ 0)), (1, .int p1)]) C rfl (by decide) rfl (dX7_bestScore_p0 3 rfl) ?_
    refine x_aload_nN 0 C rfl (dX7_bestScore_p0 4 rfl) ?_
    refine x_ifnonnullN C (dX7_bestScore_p0 5 rfl) ?_
    refine x_ldc C tw_326 (dX7_bestScore_p0 6 rfl) ?_
    exact hret _ _ _ _ (dX7_bestScore_p0 7 rfl) (nar_i _) hp
  · obtain ⟨hb2, hp⟩ := hp.2 b2 rfl
    refine x_astore_n (loc' := [(2, .ref (kad κ b2)), (0, .ref (kad κ 0)), (1, .int p1)]) C rfl (by decide) rfl (dX7_bestScore_p0 3 rfl) ?_
    refine x_aload_n 0 C rfl (dX7_bestScore_p0 4 rfl) ?_
    refine x_ifnonnull (tgt := 13) C (dX7_bestScore_p0 5 rfl) (by decide) ?_
    refine x_aload_n 1 C rfl (dX7_bestScore_p0 8 rfl) ?_
    refine x_aload_n 0 C rfl (dX7_bestScore_p0 9 rfl) ?_
    refine x_iconst (v := 1) C (by decide) (dX7_bestScore_p0 10 rfl) ?_
    refine x_cvV (As := [.ref (kad κ b2), .int 1]) (st := []) C LRX7_129 (ci := 7) rfl rfl (by decide) (by decide) (m_X7_rankTrees (kL κ) (kad κ) (kD κ) (kca κ) C.ado b2 1 hb2 s1 _ hp) rfl (by decide) rfl (Nat.le_of_ble_eq_true rfl) (dX7_bestScore_p0 11 rfl) (fun s4 hp => ?_)
    refine x_aload_n 1 C rfl (dX7_bestScore_p0 12 rfl) ?_
    refine gX7_7 (b := 126) C rfl (by decide) rfl tw_241 (dX7_bestScore_p0 13 rfl) ?_
    refine gX4_9 C rfl (by decide) tw_133 (dX7_bestScore_p0 14 rfl) ?_
    refine x_if_ne (tgt := 34) C (dX7_bestScore_p0 15 rfl) (by decide) (fun hc => ?_) (fun hc => ?_)
    · have hp := hp.2 hc
      refine x_aload_n 1 C rfl (dX7_bestScore_p0 18 rfl) ?_
      refine gX7_7 (b := 126) C rfl (by decide) rfl tw_241 (dX7_bestScore_p0 19 rfl) ?_
      refine x_iconst (v := 0) C (by decide) (dX7_bestScore_p0 20 rfl) ?_
      refine x_cvI (As := [.int 0]) (st := []) C LRX7_180 (ci := 4) rfl rfl (by decide) (by decide) (m_X4_scoreAt (kL κ) (kad κ) (kD κ) (kca κ) C.ado 0  s4 _ hp) rfl (by decide) rfl (Nat.le_of_ble_eq_true rfl) (dX7_bestScore_p0 21 rfl) (fun r6 s5 hp => ?_)
      exact hret _ _ _ _ (dX7_bestScore_p0 22 rfl) (nar_i _) hp
    · have hp := hp.1 hc
      refine x_ldc C tw_299 (dX7_bestScore_p0 16 rfl) ?_
      refine x_goto (tgt := 42) C (dX7_bestScore_p0 17 rfl) (by decide) ?_
      exact hret _ _ _ _ (dX7_bestScore_p0 22 rfl) (nar_i _) hp)
def P_X7_limitPotential (p0 : Int32) (σ : St) (K : Int32 → St → Prop) : Prop := ∀ v1 : Int32, v1 = (if p0 < 20 then p0 else 20) → (∀ v2 : Int32, v2 = (if 0 < v1 then v1 else 0) → (K v2 σ))
set_option maxHeartbeats 4000000 in
set_option maxRecDepth 100000 in
theorem m_X7_limitPotential (l : Launch) (ad : Nat → Nat) (D : va_G) (ca : Nat → ClassId) (had : adOk ad) (p0 : Int32)  (σ : St) (K : Int32 → St → Prop) (hp : P_X7_limitPotential p0 σ K) : CtI l ad D ca yX7_limitPotential cX7_limitPotential 1 .int 1 [.int p0] σ K := CtI_of (av := fun ad => [.int p0]) (plainFor_of_name (by decide)) had (Nat.le_of_ble_eq_true rfl) (fun κ C hret => by
  have C : Ok κ RX7 cX7_limitPotential 1 1 := C
  show GG κ 0 [(0, .int p0)] [] σ
  unfold P_X7_limitPotential at hp
  refine x_iconst (v := 0) C (by decide) (dX7_limitPotential_p0 0 rfl) ?_
  refine x_bipush (v := 20) C (by decide) (dX7_limitPotential_p0 1 rfl) ?_
  refine x_iload_n 0 C rfl (dX7_limitPotential_p0 2 rfl) ?_
  refine x_min C tw_566 tw_420 tw_11 tw_421 (by decide) (Nat.le_of_ble_eq_true rfl) (dX7_limitPotential_p0 3 rfl) ?_
  refine x_topI (fun v1 ev1 => ?_)
  have hp := hp v1 ev1
  refine x_max C tw_567 tw_423 tw_11 tw_424 (by decide) (Nat.le_of_ble_eq_true rfl) (dX7_limitPotential_p0 4 rfl) ?_
  refine x_topI (fun v2 ev2 => ?_)
  have hp := hp v2 ev2
  exact hret _ _ _ _ (dX7_limitPotential_p0 5 rfl) (nar_i _) hp)
def J_X7_setPotentials_82 (K : St → Prop) (c13 : (Int32 × St) → Prop) (c31 : (Int32 × St) → Prop) (u1 : Nat) (u2 : Int32) (u3 : Int32) (u4 : Int32) (u5 : Int32) (u6 : Int32) (σ : St) : Prop := P_X5_setPotential u5 u3 u6 σ (fun s7 => ∀ v8 : Int32, v8 = u5 + 1 → c31 (v8, s7))
set_option maxHeartbeats 4000000 in
set_option maxRecDepth 100000 in
theorem J_X7_setPotentials_82_w {κ : Kap} {K : St → Prop} {c13 : (Int32 × St) → Prop} {c31 : (Int32 × St) → Prop} (C : Ok κ RX7 cX7_setPotentials 7 3) (hret : RetV κ cX7_setPotentials K) (u1 : Nat) (u2 : Int32) (u3 : Int32) (u4 : Int32) (u5 : Int32) (u6 : Int32)  (hu1 : sOk u1)      (σ : St) (hc13 : ∀ (u3 : Int32) (σ : St), c13 (u3, σ) → GG κ 13 [(0, .ref (kad κ 0)), (1, .ref (kad κ u1)), (2, .int u2), (3, .int u3)] [] σ) (hc31 : ∀ (u5 : Int32) (σ : St), c31 (u5, σ) → GG κ 31 [(0, .ref (kad κ 0)), (1, .ref (kad κ u1)), (2, .int u2), (3, .int u3), (4, .int u4), (5, .int u5)] [] σ) (hp : J_X7_setPotentials_82 K c13 c31 u1 u2 u3 u4 u5 u6 σ) : GG κ 82 [(0, .ref (kad κ 0)), (1, .ref (kad κ u1)), (2, .int u2), (3, .int u3), (4, .int u4), (5, .int u5), (6, .int u6)] [] σ := by
  unfold J_X7_setPotentials_82 at hp
  refine x_aload_n 0 C rfl (dX7_setPotentials_p0 42 rfl) ?_
  refine gX7_8 (b := 147) C rfl (by decide) rfl tw_242 (dX7_setPotentials_p0 43 rfl) ?_
  refine x_iload 5 C rfl (dX7_setPotentials_p0 44 rfl) ?_
  refine x_iload_n 3 C rfl (dX7_setPotentials_p0 45 rfl) ?_
  refine x_iload 6 C rfl (dX7_setPotentials_p0 46 rfl) ?_
  refine x_cvV (As := [.int u5, .int u3, .int u6]) (st := []) C LRX7_290 (ci := 5) rfl rfl (by decide) (by decide) (m_X5_setPotential (kL κ) (kad κ) (kD κ) (kca κ) C.ado u5 u3 u6  σ _ hp) rfl (by decide) rfl (Nat.le_of_ble_eq_true rfl) (dX7_setPotentials_p0 47 rfl) (fun s7 hp => ?_)
  obtain ⟨v8, ev8⟩ : ∃ z : Int32, z = u5 + 1 := ⟨_, rfl⟩
  have hp := hp v8 ev8
  refine x_iinc (v := v8) (loc' := [(5, .int v8), (0, .ref (kad κ 0)), (1, .ref (kad κ u1)), (2, .int u2), (3, .int u3), (4, .int u4), (6, .int u6)]) 5 C rfl (by rw [ev8]; rfl) (by decide) rfl (dX7_setPotentials_p0 48 rfl) ?_
  refine x_goto (tgt := 31) C (dX7_setPotentials_p0 49 rfl) (by decide) ?_
  refine x_loc (loc' := [(0, .ref (kad κ 0)), (1, .ref (kad κ u1)), (2, .int u2), (3, .int u3), (4, .int u4), (5, .int v8)]) [1, 2, 3, 4, 5, 0] rfl ?_
  exact hc31 v8 s7 hp
def J_X7_setPotentials_80 (K : St → Prop) (c13 : (Int32 × St) → Prop) (c31 : (Int32 × St) → Prop) (u1 : Nat) (u2 : Int32) (u3 : Int32) (u4 : Int32) (u5 : Int32) (t0 : Int32) (σ : St) : Prop := J_X7_setPotentials_82 K c13 c31 u1 u2 u3 u4 u5 t0 σ
set_option maxHeartbeats 4000000 in
set_option maxRecDepth 100000 in
theorem J_X7_setPotentials_80_w {κ : Kap} {K : St → Prop} {c13 : (Int32 × St) → Prop} {c31 : (Int32 × St) → Prop} (C : Ok κ RX7 cX7_setPotentials 7 3) (hret : RetV κ cX7_setPotentials K) (u1 : Nat) (u2 : Int32) (u3 : Int32) (u4 : Int32) (u5 : Int32) (t0 : Int32)  (hu1 : sOk u1)      (σ : St) (hc13 : ∀ (u3 : Int32) (σ : St), c13 (u3, σ) → GG κ 13 [(0, .ref (kad κ 0)), (1, .ref (kad κ u1)), (2, .int u2), (3, .int u3)] [] σ) (hc31 : ∀ (u5 : Int32) (σ : St), c31 (u5, σ) → GG κ 31 [(0, .ref (kad κ 0)), (1, .ref (kad κ u1)), (2, .int u2), (3, .int u3), (4, .int u4), (5, .int u5)] [] σ) (hp : J_X7_setPotentials_80 K c13 c31 u1 u2 u3 u4 u5 t0 σ) : GG κ 80 [(0, .ref (kad κ 0)), (1, .ref (kad κ u1)), (2, .int u2), (3, .int u3), (4, .int u4), (5, .int u5)] [.int t0] σ := by
  unfold J_X7_setPotentials_80 at hp
  refine x_istore (loc' := [(6, .int t0), (0, .ref (kad κ 0)), (1, .ref (kad κ u1)), (2, .int u2), (3, .int u3), (4, .int u4), (5, .int u5)]) C (by decide) rfl (dX7_setPotentials_p0 41 rfl) ?_
  refine x_loc (loc' := [(0, .ref (kad κ 0)), (1, .ref (kad κ u1)), (2, .int u2), (3, .int u3), (4, .int u4), (5, .int u5), (6, .int t0)]) [1, 2, 3, 4, 5, 6, 0] rfl ?_
  exact J_X7_setPotentials_82_w C hret u1 u2 u3 u4 u5 t0 hu1 σ hc13 hc31 hp
def F_X7_setPotentials_31 (K : St → Prop) (c13 : (Int32 × St) → Prop) (c31 : (Int32 × St) → Prop) (u1 : Nat) (u2 : Int32) (u3 : Int32) (u4 : Int32) (u5 : Int32) (σ : St) : Prop := ((σ.1 u1 0) < u5 → ∀ v4 : Int32, v4 = u3 + 1 → c13 (v4, σ)) ∧ (¬ ((σ.1 u1 0) < u5) → P_X7_holds u4 u5 σ (fun r6 s5 => (r6 = 0 → (J_X7_setPotentials_82 K c13 c31 u1 u2 u3 u4 u5 0 s5)) ∧ (¬ (r6 = 0) → ((u2 = 0 → P_X7_arcScore u1 u5 u3 s5 (fun r10 s9 => P_X7_limitPotential (r10 + (s9.1 125 2)) s9 (fun r12 s11 => J_X7_setPotentials_80 K c13 c31 u1 u2 u3 u4 u5 r12 s11))) ∧ (¬ (u2 = 0) → (J_X7_setPotentials_80 K c13 c31 u1 u2 u3 u4 u5 1 s5))))))
set_option maxHeartbeats 4000000 in
set_option maxRecDepth 100000 in
theorem F_X7_setPotentials_31_w {κ : Kap} {K : St → Prop} {c13 : (Int32 × St) → Prop} {c31 : (Int32 × St) → Prop} (C : Ok κ RX7 cX7_setPotentials 7 3) (hret : RetV κ cX7_setPotentials K) (u1 : Nat) (u2 : Int32) (u3 : Int32) (u4 : Int32) (u5 : Int32)  (hu1 : sOk u1)     (σ : St) (hc13 : ∀ (u3 : Int32) (σ : St), c13 (u3, σ) → GG κ 13 [(0, .ref (kad κ 0)), (1, .ref (kad κ u1)), (2, .int u2), (3, .int u3)] [] σ) (hc31 : ∀ (u5 : Int32) (σ : St), c31 (u5, σ) → GG κ 31 [(0, .ref (kad κ 0)), (1, .ref (kad κ u1)), (2, .int u2), (3, .int u3), (4, .int u4), (5, .int u5)] [] σ) (hp : F_X7_setPotentials_31 K c13 c31 u1 u2 u3 u4 u5 σ) : GG κ 31 [(0, .ref (kad κ 0)), (1, .ref (kad κ u1)), (2, .int u2), (3, .int u3), (4, .int u4), (5, .int u5)] [] σ := by
  unfold F_X7_setPotentials_31 at hp
  refine x_iload 5 C rfl (dX7_setPotentials_p0 17 rfl) ?_
  refine x_aload_n 1 C rfl (dX7_setPotentials_p0 18 rfl) ?_
  refine gX0_0 C (s_kd hu1) (s_lt hu1) tw_51 (dX7_setPotentials_p0 19 rfl) ?_
  refine x_icmp_gt (tgt := 100) C (dX7_setPotentials_p0 20 rfl) (by decide) (fun hc => ?_) (fun hc => ?_)
  · have hp := hp.1 hc
    obtain ⟨v4, ev4⟩ : ∃ z : Int32, z = u3 + 1 := ⟨_, rfl⟩
    have hp := hp v4 ev4
    refine x_iinc (v := v4) (loc' := [(3, .int v4), (0, .ref (kad κ 0)), (1, .ref (kad κ u1)), (2, .int u2), (4, .int u4), (5, .int u5)]) 3 C rfl (by rw [ev4]; rfl) (by decide) rfl (dX7_setPotentials_p0 50 rfl) ?_
    refine x_goto (tgt := 13) C (dX7_setPotentials_p0 51 rfl) (by decide) ?_
    refine x_loc (loc' := [(0, .ref (kad κ 0)), (1, .ref (kad κ u1)), (2, .int u2), (3, .int v4)]) [1, 2, 3, 0] rfl ?_
    exact hc13 v4 σ hp
  · have hp := hp.2 hc
    refine x_iconst (v := 0) C (by decide) (dX7_setPotentials_p0 21 rfl) ?_
    refine x_istore (loc' := [(6, .int 0), (0, .ref (kad κ 0)), (1, .ref (kad κ u1)), (2, .int u2), (3, .int u3), (4, .int u4), (5, .int u5)]) C (by decide) rfl (dX7_setPotentials_p0 22 rfl) ?_
    refine x_iload 5 C rfl (dX7_setPotentials_p0 23 rfl) ?_
    refine x_iload 6 C rfl (dX7_setPotentials_p0 24 rfl) ?_
    refine x_csI (As := [.int u4, .int u5]) (st := []) C LRX7_272 (m_X7_holds (kL κ) (kad κ) (kD κ) (kca κ) C.ado u4 u5  σ _ hp) rfl (by decide) rfl (Nat.le_of_ble_eq_true rfl) (dX7_setPotentials_p0 25 rfl) (fun r6 s5 hp => ?_)
    refine x_if_eq (tgt := 82) C (dX7_setPotentials_p0 26 rfl) (by decide) (fun hc => ?_) (fun hc => ?_)
    · have hp := hp.1 hc
      refine x_loc (loc' := [(0, .ref (kad κ 0)), (1, .ref (kad κ u1)), (2, .int u2), (3, .int u3), (4, .int u4), (5, .int u5), (6, .int 0)]) [1, 2, 3, 4, 5, 6, 0] rfl ?_
      exact J_X7_setPotentials_82_w C hret u1 u2 u3 u4 u5 0 hu1 s5 hc13 hc31 hp
    · have hp := hp.2 hc
      refine x_iload_n 3 C rfl (dX7_setPotentials_p0 27 rfl) ?_
      refine x_if_eq (tgt := 61) C (dX7_setPotentials_p0 28 rfl) (by decide) (fun hc => ?_) (fun hc => ?_)
      · have hp := hp.1 hc
        refine x_aload_n 1 C rfl (dX7_setPotentials_p0 31 rfl) ?_
        refine x_aload_n 2 C rfl (dX7_setPotentials_p0 32 rfl) ?_
        refine x_iload 6 C rfl (dX7_setPotentials_p0 33 rfl) ?_
        refine x_iload_n 4 C rfl (dX7_setPotentials_p0 34 rfl) ?_
        refine x_cvI (As := [.ref (kad κ u1), .int u5, .int u3]) (st := []) C LRX7_176 (ci := 7) rfl rfl (by decide) (by decide) (m_X7_arcScore (kL κ) (kad κ) (kD κ) (kca κ) C.ado u1 u5 u3 hu1 s5 _ hp) rfl (by decide) rfl (Nat.le_of_ble_eq_true rfl) (dX7_setPotentials_p0 35 rfl) (fun r10 s9 hp => ?_)
        refine x_aload_n 1 C rfl (dX7_setPotentials_p0 36 rfl) ?_
        refine gX7_6 (b := 125) C rfl (by decide) rfl tw_240 (dX7_setPotentials_p0 37 rfl) ?_
        refine gX1_2 C rfl (by decide) tw_105 (dX7_setPotentials_p0 38 rfl) ?_
        refine x_iadd C (dX7_setPotentials_p0 39 rfl) ?_
        refine x_csI (As := [.int (r10 + (s9.1 125 2))]) (st := []) C LRX7_287 (m_X7_limitPotential (kL κ) (kad κ) (kD κ) (kca κ) C.ado (r10 + (s9.1 125 2))  s9 _ hp) rfl (by decide) rfl (Nat.le_of_ble_eq_true rfl) (dX7_setPotentials_p0 40 rfl) (fun r12 s11 hp => ?_)
        refine x_loc (loc' := [(0, .ref (kad κ 0)), (1, .ref (kad κ u1)), (2, .int u2), (3, .int u3), (4, .int u4), (5, .int u5)]) [1, 2, 3, 4, 5, 6] rfl ?_
        exact J_X7_setPotentials_80_w C hret u1 u2 u3 u4 u5 r12 hu1 s11 hc13 hc31 hp
      · have hp := hp.2 hc
        refine x_iconst (v := 1) C (by decide) (dX7_setPotentials_p0 29 rfl) ?_
        refine x_goto (tgt := 80) C (dX7_setPotentials_p0 30 rfl) (by decide) ?_
        refine x_loc (loc' := [(0, .ref (kad κ 0)), (1, .ref (kad κ u1)), (2, .int u2), (3, .int u3), (4, .int u4), (5, .int u5)]) [1, 2, 3, 4, 5, 6] rfl ?_
        exact J_X7_setPotentials_80_w C hret u1 u2 u3 u4 u5 1 hu1 s5 hc13 hc31 hp
def F_X7_setPotentials_13 (K : St → Prop) (c13 : (Int32 × St) → Prop) (u1 : Nat) (u2 : Int32) (u3 : Int32) (σ : St) : Prop := ((σ.1 u1 0) < u3 → (K σ)) ∧ (¬ ((σ.1 u1 0) < u3) → P_X0_headChoices u1 u3 σ (fun r3 s2 => LpE (fun c s => F_X7_setPotentials_31 K c13 c u1 u2 u3 r3 s.1 s.2) (0, s2)))
set_option maxHeartbeats 4000000 in
set_option maxRecDepth 100000 in
theorem F_X7_setPotentials_13_w {κ : Kap} {K : St → Prop} {c13 : (Int32 × St) → Prop} (C : Ok κ RX7 cX7_setPotentials 7 3) (hret : RetV κ cX7_setPotentials K) (u1 : Nat) (u2 : Int32) (u3 : Int32)  (hu1 : sOk u1)   (σ : St) (hc13 : ∀ (u3 : Int32) (σ : St), c13 (u3, σ) → GG κ 13 [(0, .ref (kad κ 0)), (1, .ref (kad κ u1)), (2, .int u2), (3, .int u3)] [] σ) (hp : F_X7_setPotentials_13 K c13 u1 u2 u3 σ) : GG κ 13 [(0, .ref (kad κ 0)), (1, .ref (kad κ u1)), (2, .int u2), (3, .int u3)] [] σ := by
  unfold F_X7_setPotentials_13 at hp
  refine x_iload_n 3 C rfl (dX7_setPotentials_p0 7 rfl) ?_
  refine x_aload_n 1 C rfl (dX7_setPotentials_p0 8 rfl) ?_
  refine gX0_0 C (s_kd hu1) (s_lt hu1) tw_51 (dX7_setPotentials_p0 9 rfl) ?_
  refine x_icmp_gt (tgt := 106) C (dX7_setPotentials_p0 10 rfl) (by decide) (fun hc => ?_) (fun hc => ?_)
  · have hp := hp.1 hc
    exact hret _ _ _ (dX7_setPotentials_p0 52 rfl) hp
  · have hp := hp.2 hc
    refine x_aload_n 1 C rfl (dX7_setPotentials_p0 11 rfl) ?_
    refine x_iload_n 3 C rfl (dX7_setPotentials_p0 12 rfl) ?_
    refine x_cvI (As := [.int u3]) (st := []) C LRX7_269 (ci := 0) rfl (s_kd hu1) (by decide) (s_lt hu1) (m_X0_headChoices (kL κ) (kad κ) (kD κ) (kca κ) C.ado u1 u3 hu1 σ _ hp) rfl (by decide) rfl (Nat.le_of_ble_eq_true rfl) (dX7_setPotentials_p0 13 rfl) (fun r3 s2 hp => ?_)
    refine x_istore (loc' := [(4, .int r3), (0, .ref (kad κ 0)), (1, .ref (kad κ u1)), (2, .int u2), (3, .int u3)]) C (by decide) rfl (dX7_setPotentials_p0 14 rfl) ?_
    refine x_iconst (v := 0) C (by decide) (dX7_setPotentials_p0 15 rfl) ?_
    refine x_istore (loc' := [(5, .int 0), (4, .int r3), (0, .ref (kad κ 0)), (1, .ref (kad κ u1)), (2, .int u2), (3, .int u3)]) C (by decide) rfl (dX7_setPotentials_p0 16 rfl) ?_
    refine x_loc (loc' := [(0, .ref (kad κ 0)), (1, .ref (kad κ u1)), (2, .int u2), (3, .int u3), (4, .int r3), (5, .int 0)]) [2, 3, 4, 5, 1, 0] rfl ?_
    exact LpE_GG (S := (Int32 × St)) (F := fun c s => F_X7_setPotentials_31 K c13 c u1 u2 u3 r3 s.1 s.2) (W := fun s => GG κ 31 [(0, .ref (kad κ 0)), (1, .ref (kad κ u1)), (2, .int u2), (3, .int u3), (4, .int r3), (5, .int s.1)] [] s.2) (fun c s hcc hp => F_X7_setPotentials_31_w C hret u1 u2 u3 r3 s.1 hu1 s.2 hc13 (fun u5 σ h => hcc (u5, σ) h) hp) hp
def P_X7_setPotentials (p1 : Nat) (p2 : Int32) (σ : St) (K : St → Prop) : Prop := P_X5_begin (σ.1 p1 0) σ (fun s1 => LpE (fun c s => F_X7_setPotentials_13 K  c p1 p2 s.1 s.2) (1, s1))
set_option maxHeartbeats 4000000 in
set_option maxRecDepth 100000 in
theorem m_X7_setPotentials (l : Launch) (ad : Nat → Nat) (D : va_G) (ca : Nat → ClassId) (had : adOk ad) (p1 : Nat) (p2 : Int32) (hp1 : sOk p1) (σ : St) (K : St → Prop) (hp : P_X7_setPotentials p1 p2 σ K) : CtV l ad D ca yX7_setPotentials cX7_setPotentials 7 3 [.ref (ad 0), .ref (ad p1), .int p2] σ K := CtV_of (av := fun ad => [.ref (ad 0), .ref (ad p1), .int p2]) (plainFor_of_name (by decide)) had (Nat.le_of_ble_eq_true rfl) (fun κ C hret => by
  have C : Ok κ RX7 cX7_setPotentials 7 3 := C
  show GG κ 0 [(0, .ref (kad κ 0)), (1, .ref (kad κ p1)), (2, .int p2)] [] σ
  unfold P_X7_setPotentials at hp
  refine x_aload_n 0 C rfl (dX7_setPotentials_p0 0 rfl) ?_
  refine gX7_8 (b := 147) C rfl (by decide) rfl tw_242 (dX7_setPotentials_p0 1 rfl) ?_
  refine x_aload_n 1 C rfl (dX7_setPotentials_p0 2 rfl) ?_
  refine gX0_0 C (s_kd hp1) (s_lt hp1) tw_51 (dX7_setPotentials_p0 3 rfl) ?_
  refine x_cvV (As := [.int (σ.1 p1 0)]) (st := []) C LRX7_286 (ci := 5) rfl rfl (by decide) (by decide) (m_X5_begin (kL κ) (kad κ) (kD κ) (kca κ) C.ado (σ.1 p1 0)  σ _ hp) rfl (by decide) rfl (Nat.le_of_ble_eq_true rfl) (dX7_setPotentials_p0 4 rfl) (fun s1 hp => ?_)
  refine x_iconst (v := 1) C (by decide) (dX7_setPotentials_p0 5 rfl) ?_
  refine x_istore_n (loc' := [(3, .int 1), (0, .ref (kad κ 0)), (1, .ref (kad κ p1)), (2, .int p2)]) C rfl (by decide) rfl (dX7_setPotentials_p0 6 rfl) ?_
  refine x_loc (loc' := [(0, .ref (kad κ 0)), (1, .ref (kad κ p1)), (2, .int p2), (3, .int 1)]) [1, 2, 3, 0] rfl ?_
  exact LpE_GG (S := (Int32 × St)) (F := fun c s => F_X7_setPotentials_13 K  c p1 p2 s.1 s.2) (W := fun s => GG κ 13 [(0, .ref (kad κ 0)), (1, .ref (kad κ p1)), (2, .int p2), (3, .int s.1)] [] s.2) (fun c s hcc hp => F_X7_setPotentials_13_w C hret p1 p2 s.1 hp1 s.2  (fun u3 σ h => hcc (u3, σ) h) hp) hp)
def P_X7_sumWeights (p1 : Nat) (σ : St) (K : Int64 → St → Prop) : Prop := P_X7_setPotentials p1 0 σ (fun s1 => P_X5_addUp  s1 (fun r3 s2 => K r3 s2))
set_option maxHeartbeats 4000000 in
set_option maxRecDepth 100000 in
theorem m_X7_sumWeights (l : Launch) (ad : Nat → Nat) (D : va_G) (ca : Nat → ClassId) (had : adOk ad) (p1 : Nat) (hp1 : sOk p1) (σ : St) (K : Int64 → St → Prop) (hp : P_X7_sumWeights p1 σ K) : CtL l ad D ca yX7_sumWeights cX7_sumWeights 2 4 [.ref (ad 0), .ref (ad p1)] σ K := CtL_of (av := fun ad => [.ref (ad 0), .ref (ad p1)]) (plainFor_of_name (by decide)) had (Nat.le_of_ble_eq_true rfl) (fun κ C hret => by
  have C : Ok κ RX7 cX7_sumWeights 2 4 := C
  show GG κ 0 [(0, .ref (kad κ 0)), (1, .ref (kad κ p1))] [] σ
  unfold P_X7_sumWeights at hp
  refine x_aload_n 0 C rfl (dX7_sumWeights_p0 0 rfl) ?_
  refine x_aload_n 1 C rfl (dX7_sumWeights_p0 1 rfl) ?_
  refine x_iconst (v := 0) C (by decide) (dX7_sumWeights_p0 2 rfl) ?_
  refine x_cvV (As := [.ref (kad κ p1), .int 0]) (st := []) C LRX7_279 (ci := 7) rfl rfl (by decide) (by decide) (m_X7_setPotentials (kL κ) (kad κ) (kD κ) (kca κ) C.ado p1 0 hp1 σ _ hp) rfl (by decide) rfl (Nat.le_of_ble_eq_true rfl) (dX7_sumWeights_p0 3 rfl) (fun s1 hp => ?_)
  refine x_aload_n 0 C rfl (dX7_sumWeights_p0 4 rfl) ?_
  refine gX7_8 (b := 147) C rfl (by decide) rfl tw_242 (dX7_sumWeights_p0 5 rfl) ?_
  refine x_cvL (As := []) (st := []) C LRX7_282 (ci := 5) rfl rfl (by decide) (by decide) (m_X5_addUp (kL κ) (kad κ) (kD κ) (kca κ) C.ado   s1 _ hp) rfl (by decide) rfl (Nat.le_of_ble_eq_true rfl) (dX7_sumWeights_p0 6 rfl) (fun r3 s2 hp => ?_)
  exact hret _ _ _ _ (dX7_sumWeights_p0 7 rfl) hp)
def F_X7_greatestCommonDivisor_9 (K : Int64 → St → Prop) (c9 : (Int64 × Int64 × Int32 × St) → Prop) (u4 : Int64) (u6 : Int64) (u8 : Int32) (σ : St) : Prop := (128 ≤ u8 → (K u4 σ)) ∧ (¬ (128 ≤ u8) → ((u6 = 0 → (K u4 σ)) ∧ (¬ (u6 = 0) → ¬ u6 = 0 ∧ (∀ v2 : Int64, v2 = (u4 - u4 / u6 * u6) → ∀ v3 : Int32, v3 = u8 + 1 → c9 (u6, v2, v3, σ)))))
set_option maxHeartbeats 4000000 in
set_option maxRecDepth 100000 in
theorem F_X7_greatestCommonDivisor_9_w {κ : Kap} {K : Int64 → St → Prop} {c9 : (Int64 × Int64 × Int32 × St) → Prop} (C : Ok κ RX7 cX7_greatestCommonDivisor 11 0) (hret : RetL κ cX7_greatestCommonDivisor K) (u4 : Int64) (u6 : Int64) (u8 : Int32)    (σ : St) (hc9 : ∀ (u4 : Int64) (u6 : Int64) (u8 : Int32) (σ : St), c9 (u4, u6, u8, σ) → GG κ 9 [(4, .long u4), (6, .long u6), (8, .int u8)] [] σ) (hp : F_X7_greatestCommonDivisor_9 K c9 u4 u6 u8 σ) : GG κ 9 [(4, .long u4), (6, .long u6), (8, .int u8)] [] σ := by
  unfold F_X7_greatestCommonDivisor_9 at hp
  refine x_iload 2 C rfl (dX7_greatestCommonDivisor_p0 6 rfl) ?_
  refine x_sipush (v := 128) C (by decide) (dX7_greatestCommonDivisor_p0 7 rfl) ?_
  refine x_icmp_ge (tgt := 45) C (dX7_greatestCommonDivisor_p0 8 rfl) (by decide) (fun hc => ?_) (fun hc => ?_)
  · have hp := hp.1 hc
    refine x_lload 0 C rfl (dX7_greatestCommonDivisor_p0 23 rfl) ?_
    exact hret _ _ _ _ (dX7_greatestCommonDivisor_p0 24 rfl) hp
  · have hp := hp.2 hc
    refine x_lload 1 C rfl (dX7_greatestCommonDivisor_p0 9 rfl) ?_
    refine x_lconst (v := 0) C (by decide) (dX7_greatestCommonDivisor_p0 10 rfl) ?_
    refine x_lcmp C (dX7_greatestCommonDivisor_p0 11 rfl) ?_
    refine x_if_eq (tgt := 45) C (dX7_greatestCommonDivisor_p0 12 rfl) (by decide) (fun hc => ?_) (fun hc => ?_)
    · have hp := hp.1 (lgc_eq.mp hc)
      refine x_lload 0 C rfl (dX7_greatestCommonDivisor_p0 23 rfl) ?_
      exact hret _ _ _ _ (dX7_greatestCommonDivisor_p0 24 rfl) hp
    · have hp := hp.2 (fun q => hc (lgc_eq.mpr q))
      refine x_lload 0 C rfl (dX7_greatestCommonDivisor_p0 13 rfl) ?_
      refine x_lload 1 C rfl (dX7_greatestCommonDivisor_p0 14 rfl) ?_
      obtain ⟨h1, hp⟩ := hp
      refine x_lrem C h1 (dX7_greatestCommonDivisor_p0 15 rfl) ?_
      refine x_topL (fun v2 ev2 => ?_)
      have hp := hp v2 ev2
      refine x_lstore (loc' := [(9, .long v2), (4, .long u4), (6, .long u6), (8, .int u8)]) C (by decide) rfl (dX7_greatestCommonDivisor_p0 16 rfl) ?_
      refine x_lload 2 C rfl (dX7_greatestCommonDivisor_p0 17 rfl) ?_
      refine x_lstore (loc' := [(4, .long u6), (9, .long v2), (6, .long u6), (8, .int u8)]) C (by decide) rfl (dX7_greatestCommonDivisor_p0 18 rfl) ?_
      refine x_lload 1 C rfl (dX7_greatestCommonDivisor_p0 19 rfl) ?_
      refine x_lstore (loc' := [(6, .long v2), (4, .long u6), (9, .long v2), (8, .int u8)]) C (by decide) rfl (dX7_greatestCommonDivisor_p0 20 rfl) ?_
      obtain ⟨v3, ev3⟩ : ∃ z : Int32, z = u8 + 1 := ⟨_, rfl⟩
      have hp := hp v3 ev3
      refine x_iinc (v := v3) (loc' := [(8, .int v3), (6, .long v2), (4, .long u6), (9, .long v2)]) 3 C rfl (by rw [ev3]; rfl) (by decide) rfl (dX7_greatestCommonDivisor_p0 21 rfl) ?_
      refine x_goto (tgt := 9) C (dX7_greatestCommonDivisor_p0 22 rfl) (by decide) ?_
      refine x_loc (loc' := [(4, .long u6), (6, .long v2), (8, .int v3)]) [2, 1, 0] rfl ?_
      exact hc9 u6 v2 v3 σ hp
def P_X7_greatestCommonDivisor (p0 : Int64) (p2 : Int64) (σ : St) (K : Int64 → St → Prop) : Prop := LpE (fun c s => F_X7_greatestCommonDivisor_9 K  c s.1 s.2.1 s.2.2.1 s.2.2.2) (p2, p0, 0, σ)
set_option maxHeartbeats 4000000 in
set_option maxRecDepth 100000 in
theorem m_X7_greatestCommonDivisor (l : Launch) (ad : Nat → Nat) (D : va_G) (ca : Nat → ClassId) (had : adOk ad) (p0 : Int64) (p2 : Int64)  (σ : St) (K : Int64 → St → Prop) (hp : P_X7_greatestCommonDivisor p0 p2 σ K) : CtL l ad D ca yX7_greatestCommonDivisor cX7_greatestCommonDivisor 11 0 [.long p0, .long p2] σ K := CtL_of (av := fun ad => [.long p0, .long p2]) (plainFor_of_name (by decide)) had (Nat.le_of_ble_eq_true rfl) (fun κ C hret => by
  have C : Ok κ RX7 cX7_greatestCommonDivisor 11 0 := C
  show GG κ 0 [(0, .long p0), (2, .long p2)] [] σ
  unfold P_X7_greatestCommonDivisor at hp
  refine x_lload_n 1 C rfl (dX7_greatestCommonDivisor_p0 0 rfl) ?_
  refine x_lstore (loc' := [(4, .long p2), (0, .long p0), (2, .long p2)]) C (by decide) rfl (dX7_greatestCommonDivisor_p0 1 rfl) ?_
  refine x_lload_n 1 C rfl (dX7_greatestCommonDivisor_p0 2 rfl) ?_
  refine x_lstore (loc' := [(6, .long p0), (4, .long p2), (0, .long p0), (2, .long p2)]) C (by decide) rfl (dX7_greatestCommonDivisor_p0 3 rfl) ?_
  refine x_iconst (v := 0) C (by decide) (dX7_greatestCommonDivisor_p0 4 rfl) ?_
  refine x_istore (loc' := [(8, .int 0), (6, .long p0), (4, .long p2), (0, .long p0), (2, .long p2)]) C (by decide) rfl (dX7_greatestCommonDivisor_p0 5 rfl) ?_
  refine x_loc (loc' := [(4, .long p2), (6, .long p0), (8, .int 0)]) [2, 1, 0] rfl ?_
  exact LpE_GG (S := (Int64 × Int64 × Int32 × St)) (F := fun c s => F_X7_greatestCommonDivisor_9 K  c s.1 s.2.1 s.2.2.1 s.2.2.2) (W := fun s => GG κ 9 [(4, .long s.1), (6, .long s.2.1), (8, .int s.2.2.1)] [] s.2.2.2) (fun c s hcc hp => F_X7_greatestCommonDivisor_9_w C hret s.1 s.2.1 s.2.2.1  s.2.2.2  (fun u4 u6 u8 σ h => hcc (u4, u6, u8, σ) h) hp) hp)
def P_X7_chance (p1 : Int32) (p2 : Int32) (p3 : Int32) (p4 : Int32) (σ : St) (K : Int64 → St → Prop) : Prop := P_X7_find p1 σ (fun r3 s1 => (r3 = none → (K (-1000001) s1)) ∧ (∀ b2 : Nat, r3 = some b2 → sOk b2 ∧ P_X0_hasArc b2 p2 p3 s1 (fun r5 s4 => (r5 = 0 → (K (-1000001) s4)) ∧ (¬ (r5 = 0) → P_X7_sumWeights b2 s4 (fun r7 s6 => (0 < r7 → P_X5_spread  s6 (fun s8 => P_X5_arcSum p2 p3 s8 (fun r10 s9 => P_X7_greatestCommonDivisor r10 r7 s9 (fun r12 s11 => (0 < r12 → ((p4 = 0 → ¬ r12 = 0 ∧ (K (r10 / r12) s11)) ∧ (¬ (p4 = 0) → ¬ r12 = 0 ∧ (K (r7 / r12) s11)))) ∧ (¬ (0 < r12) → (K (-1000004) s11)))))) ∧ (¬ (0 < r7) → (K (-1000004) s6)))))))
set_option maxHeartbeats 4000000 in
set_option maxRecDepth 100000 in
theorem m_X7_chance (l : Launch) (ad : Nat → Nat) (D : va_G) (ca : Nat → ClassId) (had : adOk ad) (p1 : Int32) (p2 : Int32) (p3 : Int32) (p4 : Int32)  (σ : St) (K : Int64 → St → Prop) (hp : P_X7_chance p1 p2 p3 p4 σ K) : CtL l ad D ca yX7_chance cX7_chance 12 5 [.ref (ad 0), .int p1, .int p2, .int p3, .int p4] σ K := CtL_of (av := fun ad => [.ref (ad 0), .int p1, .int p2, .int p3, .int p4]) (plainFor_of_name (by decide)) had (Nat.le_of_ble_eq_true rfl) (fun κ C hret => by
  have C : Ok κ RX7 cX7_chance 12 5 := C
  show GG κ 0 [(0, .ref (kad κ 0)), (1, .int p1), (2, .int p2), (3, .int p3), (4, .int p4)] [] σ
  unfold P_X7_chance at hp
  refine x_aload_n 0 C rfl (dX7_chance_p0 0 rfl) ?_
  refine x_iload_n 1 C rfl (dX7_chance_p0 1 rfl) ?_
  refine x_cvQ (As := [.int p1]) (st := []) C LRX7_101 (ci := 7) rfl rfl (by decide) (by decide) (m_X7_find (kL κ) (kad κ) (kD κ) (kca κ) C.ado p1  σ _ hp) rfl (by decide) rfl (Nat.le_of_ble_eq_true rfl) (dX7_chance_p0 2 rfl) (fun s1 hp => ?_) (fun b2 s1 hp => ?_)
  · have hp := hp.1 rfl
    refine x_astoreN (loc' := [(5, .null), (0, .ref (kad κ 0)), (1, .int p1), (2, .int p2), (3, .int p3), (4, .int p4)]) C (by decide) rfl (dX7_chance_p0 3 rfl) ?_
    refine x_aloadN 0 C rfl (dX7_chance_p0 4 rfl) ?_
    refine x_ifnullN (tgt := 22) C (dX7_chance_p0 5 rfl) (by decide) ?_
    refine x_ldc2 C tw_598 (dX7_chance_p0 11 rfl) ?_
    exact hret _ _ _ _ (dX7_chance_p0 12 rfl) hp
  · obtain ⟨hb2, hp⟩ := hp.2 b2 rfl
    refine x_astore (loc' := [(5, .ref (kad κ b2)), (0, .ref (kad κ 0)), (1, .int p1), (2, .int p2), (3, .int p3), (4, .int p4)]) C (by decide) rfl (dX7_chance_p0 3 rfl) ?_
    refine x_aload 0 C rfl (dX7_chance_p0 4 rfl) ?_
    refine x_ifnull C (dX7_chance_p0 5 rfl) ?_
    refine x_aload 0 C rfl (dX7_chance_p0 6 rfl) ?_
    refine x_iload_n 3 C rfl (dX7_chance_p0 7 rfl) ?_
    refine x_iload_n 4 C rfl (dX7_chance_p0 8 rfl) ?_
    refine x_cvI (As := [.int p2, .int p3]) (st := []) C LRX7_121 (ci := 0) rfl (s_kd hb2) (by decide) (s_lt hb2) (m_X0_hasArc (kL κ) (kad κ) (kD κ) (kca κ) C.ado b2 p2 p3 hb2 s1 _ hp) rfl (by decide) rfl (Nat.le_of_ble_eq_true rfl) (dX7_chance_p0 9 rfl) (fun r5 s4 hp => ?_)
    refine x_if_ne (tgt := 26) C (dX7_chance_p0 10 rfl) (by decide) (fun hc => ?_) (fun hc => ?_)
    · have hp := hp.2 hc
      refine x_aload_n 1 C rfl (dX7_chance_p0 13 rfl) ?_
      refine x_aload 0 C rfl (dX7_chance_p0 14 rfl) ?_
      refine x_cvL (As := [.ref (kad κ b2)]) (st := []) C LRX7_199 (ci := 7) rfl rfl (by decide) (by decide) (m_X7_sumWeights (kL κ) (kad κ) (kD κ) (kca κ) C.ado b2 hb2 s4 _ hp) rfl (by decide) rfl (Nat.le_of_ble_eq_true rfl) (dX7_chance_p0 15 rfl) (fun r7 s6 hp => ?_)
      refine x_lstore (loc' := [(6, .long r7), (5, .ref (kad κ b2)), (0, .ref (kad κ 0)), (1, .int p1), (2, .int p2), (3, .int p3), (4, .int p4)]) C (by decide) rfl (dX7_chance_p0 16 rfl) ?_
      refine x_lload 0 C rfl (dX7_chance_p0 17 rfl) ?_
      refine x_lconst (v := 0) C (by decide) (dX7_chance_p0 18 rfl) ?_
      refine x_lcmp C (dX7_chance_p0 19 rfl) ?_
      refine x_if_gt (tgt := 45) C (dX7_chance_p0 20 rfl) (by decide) (fun hc => ?_) (fun hc => ?_)
      · have hp := hp.1 (lgc_gt.mp hc)
        refine x_aload_n 2 C rfl (dX7_chance_p0 23 rfl) ?_
        refine gX7_8 (b := 147) C rfl (by decide) rfl tw_242 (dX7_chance_p0 24 rfl) ?_
        refine x_cvV (As := []) (st := []) C LRX7_205 (ci := 5) rfl rfl (by decide) (by decide) (m_X5_spread (kL κ) (kad κ) (kD κ) (kca κ) C.ado   s6 _ hp) rfl (by decide) rfl (Nat.le_of_ble_eq_true rfl) (dX7_chance_p0 25 rfl) (fun s8 hp => ?_)
        refine x_aload_n 2 C rfl (dX7_chance_p0 26 rfl) ?_
        refine gX7_8 (b := 147) C rfl (by decide) rfl tw_242 (dX7_chance_p0 27 rfl) ?_
        refine x_iload_n 4 C rfl (dX7_chance_p0 28 rfl) ?_
        refine x_iload_n 5 C rfl (dX7_chance_p0 29 rfl) ?_
        refine x_cvL (As := [.int p2, .int p3]) (st := []) C LRX7_208 (ci := 5) rfl rfl (by decide) (by decide) (m_X5_arcSum (kL κ) (kad κ) (kD κ) (kca κ) C.ado p2 p3  s8 _ hp) rfl (by decide) rfl (Nat.le_of_ble_eq_true rfl) (dX7_chance_p0 30 rfl) (fun r10 s9 hp => ?_)
        refine x_lstore (loc' := [(8, .long r10), (6, .long r7), (5, .ref (kad κ b2)), (0, .ref (kad κ 0)), (1, .int p1), (2, .int p2), (3, .int p3), (4, .int p4)]) C (by decide) rfl (dX7_chance_p0 31 rfl) ?_
        refine x_lload 0 C rfl (dX7_chance_p0 32 rfl) ?_
        refine x_lload 1 C rfl (dX7_chance_p0 33 rfl) ?_
        refine x_csL (As := [.long r10, .long r7]) (st := []) C LRX7_212 (m_X7_greatestCommonDivisor (kL κ) (kad κ) (kD κ) (kca κ) C.ado r10 r7  s9 _ hp) rfl (by decide) rfl (Nat.le_of_ble_eq_true rfl) (dX7_chance_p0 34 rfl) (fun r12 s11 hp => ?_)
        refine x_lstore (loc' := [(10, .long r12), (8, .long r10), (6, .long r7), (5, .ref (kad κ b2)), (0, .ref (kad κ 0)), (1, .int p1), (2, .int p2), (3, .int p3), (4, .int p4)]) C (by decide) rfl (dX7_chance_p0 35 rfl) ?_
        refine x_lload 0 C rfl (dX7_chance_p0 36 rfl) ?_
        refine x_lconst (v := 0) C (by decide) (dX7_chance_p0 37 rfl) ?_
        refine x_lcmp C (dX7_chance_p0 38 rfl) ?_
        refine x_if_gt (tgt := 83) C (dX7_chance_p0 39 rfl) (by decide) (fun hc => ?_) (fun hc => ?_)
        · have hp := hp.1 (lgc_gt.mp hc)
          refine x_iload 8 C rfl (dX7_chance_p0 42 rfl) ?_
          refine x_if_eq (tgt := 96) C (dX7_chance_p0 43 rfl) (by decide) (fun hc => ?_) (fun hc => ?_)
          · have hp := hp.1 hc
            refine x_lload 1 C rfl (dX7_chance_p0 48 rfl) ?_
            refine x_lload 0 C rfl (dX7_chance_p0 49 rfl) ?_
            obtain ⟨h13, hp⟩ := hp
            refine x_ldiv C h13 (dX7_chance_p0 50 rfl) ?_
            exact hret _ _ _ _ (dX7_chance_p0 51 rfl) hp
          · have hp := hp.2 hc
            refine x_lload 2 C rfl (dX7_chance_p0 44 rfl) ?_
            refine x_lload 0 C rfl (dX7_chance_p0 45 rfl) ?_
            obtain ⟨h14, hp⟩ := hp
            refine x_ldiv C h14 (dX7_chance_p0 46 rfl) ?_
            refine x_goto (tgt := 101) C (dX7_chance_p0 47 rfl) (by decide) ?_
            exact hret _ _ _ _ (dX7_chance_p0 51 rfl) hp
        · have hp := hp.2 (fun q => hc (lgc_gt.mpr q))
          refine x_ldc2 C tw_607 (dX7_chance_p0 40 rfl) ?_
          exact hret _ _ _ _ (dX7_chance_p0 41 rfl) hp
      · have hp := hp.2 (fun q => hc (lgc_gt.mpr q))
        refine x_ldc2 C tw_607 (dX7_chance_p0 21 rfl) ?_
        exact hret _ _ _ _ (dX7_chance_p0 22 rfl) hp
    · have hp := hp.1 hc
      refine x_ldc2 C tw_598 (dX7_chance_p0 11 rfl) ?_
      exact hret _ _ _ _ (dX7_chance_p0 12 rfl) hp)
def P_X7_countTrees (p1 : Nat) (σ : St) (K : Int32 → St → Prop) : Prop := P_X7_setPotentials p1 1 σ (fun s1 => P_X5_addUp  s1 (fun r3 s2 => K (Int64.toInt32 r3) s2))
set_option maxHeartbeats 4000000 in
set_option maxRecDepth 100000 in
theorem m_X7_countTrees (l : Launch) (ad : Nat → Nat) (D : va_G) (ca : Nat → ClassId) (had : adOk ad) (p1 : Nat) (hp1 : sOk p1) (σ : St) (K : Int32 → St → Prop) (hp : P_X7_countTrees p1 σ K) : CtI l ad D ca yX7_countTrees cX7_countTrees 2 .int 4 [.ref (ad 0), .ref (ad p1)] σ K := CtI_of (av := fun ad => [.ref (ad 0), .ref (ad p1)]) (plainFor_of_name (by decide)) had (Nat.le_of_ble_eq_true rfl) (fun κ C hret => by
  have C : Ok κ RX7 cX7_countTrees 2 4 := C
  show GG κ 0 [(0, .ref (kad κ 0)), (1, .ref (kad κ p1))] [] σ
  unfold P_X7_countTrees at hp
  refine x_aload_n 0 C rfl (dX7_countTrees_p0 0 rfl) ?_
  refine x_aload_n 1 C rfl (dX7_countTrees_p0 1 rfl) ?_
  refine x_iconst (v := 1) C (by decide) (dX7_countTrees_p0 2 rfl) ?_
  refine x_cvV (As := [.ref (kad κ p1), .int 1]) (st := []) C LRX7_279 (ci := 7) rfl rfl (by decide) (by decide) (m_X7_setPotentials (kL κ) (kad κ) (kD κ) (kca κ) C.ado p1 1 hp1 σ _ hp) rfl (by decide) rfl (Nat.le_of_ble_eq_true rfl) (dX7_countTrees_p0 3 rfl) (fun s1 hp => ?_)
  refine x_aload_n 0 C rfl (dX7_countTrees_p0 4 rfl) ?_
  refine gX7_8 (b := 147) C rfl (by decide) rfl tw_242 (dX7_countTrees_p0 5 rfl) ?_
  refine x_cvL (As := []) (st := []) C LRX7_282 (ci := 5) rfl rfl (by decide) (by decide) (m_X5_addUp (kL κ) (kad κ) (kD κ) (kca κ) C.ado   s1 _ hp) rfl (by decide) rfl (Nat.le_of_ble_eq_true rfl) (dX7_countTrees_p0 6 rfl) (fun r3 s2 hp => ?_)
  refine x_l2i C (dX7_countTrees_p0 7 rfl) ?_
  exact hret _ _ _ _ (dX7_countTrees_p0 8 rfl) (nar_i _) hp)
def F_X7_countCrossings_14 (K : Int32 → St → Prop) (c4 : (Int32 × Int32 × St) → Prop) (c14 : (Int32 × Int32 × St) → Prop) (u0 : Nat) (u1 : Int32) (u2 : Int32) (u3 : Int32) (σ : St) : Prop := (u2 ≤ u3 → ∀ v1 : Int32, v1 = u2 + 1 → c4 (u1, v1, σ)) ∧ (¬ (u2 ≤ u3) → vp_in u2 7 ∧ vp_in u3 7 ∧ (P_X7_cross (σ.1 (u0 + 2) (ix u2)) u2 (σ.1 (u0 + 2) (ix u3)) u3 σ (fun r5 s4 => (r5 = 0 → ∀ v6 : Int32, v6 = u3 + 1 → c14 (u1, v6, s4)) ∧ (¬ (r5 = 0) → ∀ v7 : Int32, v7 = u1 + 1 → ∀ v8 : Int32, v8 = u3 + 1 → c14 (v7, v8, s4)))))
set_option maxHeartbeats 4000000 in
set_option maxRecDepth 100000 in
theorem F_X7_countCrossings_14_w {κ : Kap} {K : Int32 → St → Prop} {c4 : (Int32 × Int32 × St) → Prop} {c14 : (Int32 × Int32 × St) → Prop} (C : Ok κ RX7 cX7_countCrossings 4 1) (hret : RetI κ cX7_countCrossings .int K) (u0 : Nat) (u1 : Int32) (u2 : Int32) (u3 : Int32) (hu0 : sOk u0)    (σ : St) (hc4 : ∀ (u1 : Int32) (u2 : Int32) (σ : St), c4 (u1, u2, σ) → GG κ 4 [(0, .ref (kad κ u0)), (1, .int u1), (2, .int u2)] [] σ) (hc14 : ∀ (u1 : Int32) (u3 : Int32) (σ : St), c14 (u1, u3, σ) → GG κ 14 [(0, .ref (kad κ u0)), (1, .int u1), (2, .int u2), (3, .int u3)] [] σ) (hp : F_X7_countCrossings_14 K c4 c14 u0 u1 u2 u3 σ) : GG κ 14 [(0, .ref (kad κ u0)), (1, .int u1), (2, .int u2), (3, .int u3)] [] σ := by
  unfold F_X7_countCrossings_14 at hp
  refine x_iload_n 3 C rfl (dX7_countCrossings_p0 10 rfl) ?_
  refine x_iload_n 2 C rfl (dX7_countCrossings_p0 11 rfl) ?_
  refine x_icmp_ge (tgt := 48) C (dX7_countCrossings_p0 12 rfl) (by decide) (fun hc => ?_) (fun hc => ?_)
  · have hp := hp.1 hc
    obtain ⟨v1, ev1⟩ : ∃ z : Int32, z = u2 + 1 := ⟨_, rfl⟩
    have hp := hp v1 ev1
    refine x_iinc (v := v1) (loc' := [(2, .int v1), (0, .ref (kad κ u0)), (1, .int u1), (3, .int u3)]) 2 C rfl (by rw [ev1]; rfl) (by decide) rfl (dX7_countCrossings_p0 28 rfl) ?_
    refine x_goto (tgt := 4) C (dX7_countCrossings_p0 29 rfl) (by decide) ?_
    refine x_loc (loc' := [(0, .ref (kad κ u0)), (1, .int u1), (2, .int v1)]) [1, 2, 0] rfl ?_
    exact hc4 u1 v1 σ hp
  · have hp := hp.2 hc
    refine x_aload_n 0 C rfl (dX7_countCrossings_p0 13 rfl) ?_
    refine gX0_2 (b := u0 + 2) C (s_kd hu0) (s_lt hu0) (s_m2 hu0) tw_57 (dX7_countCrossings_p0 14 rfl) ?_
    refine x_iload_n 2 C rfl (dX7_countCrossings_p0 15 rfl) ?_
    obtain ⟨h2, hp⟩ := hp
    refine x_iald C (s_kd2 hu0) (s_lt2 hu0) (vp_ln (s_ln2 hu0) h2) (dX7_countCrossings_p0 16 rfl) ?_
    refine x_iload_n 2 C rfl (dX7_countCrossings_p0 17 rfl) ?_
    refine x_aload_n 0 C rfl (dX7_countCrossings_p0 18 rfl) ?_
    refine gX0_2 (b := u0 + 2) C (s_kd hu0) (s_lt hu0) (s_m2 hu0) tw_57 (dX7_countCrossings_p0 19 rfl) ?_
    refine x_iload_n 3 C rfl (dX7_countCrossings_p0 20 rfl) ?_
    obtain ⟨h3, hp⟩ := hp
    refine x_iald C (s_kd2 hu0) (s_lt2 hu0) (vp_ln (s_ln2 hu0) h3) (dX7_countCrossings_p0 21 rfl) ?_
    refine x_iload_n 3 C rfl (dX7_countCrossings_p0 22 rfl) ?_
    refine x_csI (As := [.int (σ.1 (u0 + 2) (ix u2)), .int u2, .int (σ.1 (u0 + 2) (ix u3)), .int u3]) (st := []) C LRX7_302 (m_X7_cross (kL κ) (kad κ) (kD κ) (kca κ) C.ado (σ.1 (u0 + 2) (ix u2)) u2 (σ.1 (u0 + 2) (ix u3)) u3  σ _ hp) rfl (by decide) rfl (Nat.le_of_ble_eq_true rfl) (dX7_countCrossings_p0 23 rfl) (fun r5 s4 hp => ?_)
    refine x_if_eq (tgt := 42) C (dX7_countCrossings_p0 24 rfl) (by decide) (fun hc => ?_) (fun hc => ?_)
    · have hp := hp.1 hc
      obtain ⟨v6, ev6⟩ : ∃ z : Int32, z = u3 + 1 := ⟨_, rfl⟩
      have hp := hp v6 ev6
      refine x_iinc (v := v6) (loc' := [(3, .int v6), (0, .ref (kad κ u0)), (1, .int u1), (2, .int u2)]) 3 C rfl (by rw [ev6]; rfl) (by decide) rfl (dX7_countCrossings_p0 26 rfl) ?_
      refine x_goto (tgt := 14) C (dX7_countCrossings_p0 27 rfl) (by decide) ?_
      refine x_loc (loc' := [(0, .ref (kad κ u0)), (1, .int u1), (2, .int u2), (3, .int v6)]) [1, 2, 3, 0] rfl ?_
      exact hc14 u1 v6 s4 hp
    · have hp := hp.2 hc
      obtain ⟨v7, ev7⟩ : ∃ z : Int32, z = u1 + 1 := ⟨_, rfl⟩
      have hp := hp v7 ev7
      refine x_iinc (v := v7) (loc' := [(1, .int v7), (0, .ref (kad κ u0)), (2, .int u2), (3, .int u3)]) 1 C rfl (by rw [ev7]; rfl) (by decide) rfl (dX7_countCrossings_p0 25 rfl) ?_
      obtain ⟨v8, ev8⟩ : ∃ z : Int32, z = u3 + 1 := ⟨_, rfl⟩
      have hp := hp v8 ev8
      refine x_iinc (v := v8) (loc' := [(3, .int v8), (1, .int v7), (0, .ref (kad κ u0)), (2, .int u2)]) 3 C rfl (by rw [ev8]; rfl) (by decide) rfl (dX7_countCrossings_p0 26 rfl) ?_
      refine x_goto (tgt := 14) C (dX7_countCrossings_p0 27 rfl) (by decide) ?_
      refine x_loc (loc' := [(0, .ref (kad κ u0)), (1, .int v7), (2, .int u2), (3, .int v8)]) [2, 1, 3, 0] rfl ?_
      exact hc14 v7 v8 s4 hp
def F_X7_countCrossings_4 (K : Int32 → St → Prop) (c4 : (Int32 × Int32 × St) → Prop) (u0 : Nat) (u1 : Int32) (u2 : Int32) (σ : St) : Prop := ((σ.1 u0 0) < u2 → (K u1 σ)) ∧ (¬ ((σ.1 u0 0) < u2) → (LpE (fun c s => F_X7_countCrossings_14 K c4 c u0 s.1 u2 s.2.1 s.2.2) (u1, 1, σ)))
set_option maxHeartbeats 4000000 in
set_option maxRecDepth 100000 in
theorem F_X7_countCrossings_4_w {κ : Kap} {K : Int32 → St → Prop} {c4 : (Int32 × Int32 × St) → Prop} (C : Ok κ RX7 cX7_countCrossings 4 1) (hret : RetI κ cX7_countCrossings .int K) (u0 : Nat) (u1 : Int32) (u2 : Int32) (hu0 : sOk u0)   (σ : St) (hc4 : ∀ (u1 : Int32) (u2 : Int32) (σ : St), c4 (u1, u2, σ) → GG κ 4 [(0, .ref (kad κ u0)), (1, .int u1), (2, .int u2)] [] σ) (hp : F_X7_countCrossings_4 K c4 u0 u1 u2 σ) : GG κ 4 [(0, .ref (kad κ u0)), (1, .int u1), (2, .int u2)] [] σ := by
  unfold F_X7_countCrossings_4 at hp
  refine x_iload_n 2 C rfl (dX7_countCrossings_p0 4 rfl) ?_
  refine x_aload_n 0 C rfl (dX7_countCrossings_p0 5 rfl) ?_
  refine gX0_0 C (s_kd hu0) (s_lt hu0) tw_51 (dX7_countCrossings_p0 6 rfl) ?_
  refine x_icmp_gt (tgt := 54) C (dX7_countCrossings_p0 7 rfl) (by decide) (fun hc => ?_) (fun hc => ?_)
  · have hp := hp.1 hc
    refine x_iload_n 1 C rfl (dX7_countCrossings_p0 30 rfl) ?_
    exact hret _ _ _ _ (dX7_countCrossings_p0 31 rfl) (nar_i _) hp
  · have hp := hp.2 hc
    refine x_iconst (v := 1) C (by decide) (dX7_countCrossings_p0 8 rfl) ?_
    refine x_istore_n (loc' := [(3, .int 1), (0, .ref (kad κ u0)), (1, .int u1), (2, .int u2)]) C rfl (by decide) rfl (dX7_countCrossings_p0 9 rfl) ?_
    refine x_loc (loc' := [(0, .ref (kad κ u0)), (1, .int u1), (2, .int u2), (3, .int 1)]) [1, 2, 3, 0] rfl ?_
    exact LpE_GG (S := (Int32 × Int32 × St)) (F := fun c s => F_X7_countCrossings_14 K c4 c u0 s.1 u2 s.2.1 s.2.2) (W := fun s => GG κ 14 [(0, .ref (kad κ u0)), (1, .int s.1), (2, .int u2), (3, .int s.2.1)] [] s.2.2) (fun c s hcc hp => F_X7_countCrossings_14_w C hret u0 s.1 u2 s.2.1 hu0 s.2.2 hc4 (fun u1 u3 σ h => hcc (u1, u3, σ) h) hp) hp
def P_X7_countCrossings (p0 : Nat) (σ : St) (K : Int32 → St → Prop) : Prop := LpE (fun c s => F_X7_countCrossings_4 K  c p0 s.1 s.2.1 s.2.2) (0, 2, σ)
set_option maxHeartbeats 4000000 in
set_option maxRecDepth 100000 in
theorem m_X7_countCrossings (l : Launch) (ad : Nat → Nat) (D : va_G) (ca : Nat → ClassId) (had : adOk ad) (p0 : Nat) (hp0 : sOk p0) (σ : St) (K : Int32 → St → Prop) (hp : P_X7_countCrossings p0 σ K) : CtI l ad D ca yX7_countCrossings cX7_countCrossings 4 .int 1 [.ref (ad p0)] σ K := CtI_of (av := fun ad => [.ref (ad p0)]) (plainFor_of_name (by decide)) had (Nat.le_of_ble_eq_true rfl) (fun κ C hret => by
  have C : Ok κ RX7 cX7_countCrossings 4 1 := C
  show GG κ 0 [(0, .ref (kad κ p0))] [] σ
  unfold P_X7_countCrossings at hp
  refine x_iconst (v := 0) C (by decide) (dX7_countCrossings_p0 0 rfl) ?_
  refine x_istore_n (loc' := [(1, .int 0), (0, .ref (kad κ p0))]) C rfl (by decide) rfl (dX7_countCrossings_p0 1 rfl) ?_
  refine x_iconst (v := 2) C (by decide) (dX7_countCrossings_p0 2 rfl) ?_
  refine x_istore_n (loc' := [(2, .int 2), (1, .int 0), (0, .ref (kad κ p0))]) C rfl (by decide) rfl (dX7_countCrossings_p0 3 rfl) ?_
  refine x_loc (loc' := [(0, .ref (kad κ p0)), (1, .int 0), (2, .int 2)]) [2, 1, 0] rfl ?_
  exact LpE_GG (S := (Int32 × Int32 × St)) (F := fun c s => F_X7_countCrossings_4 K  c p0 s.1 s.2.1 s.2.2) (W := fun s => GG κ 4 [(0, .ref (kad κ p0)), (1, .int s.1), (2, .int s.2.1)] [] s.2.2) (fun c s hcc hp => F_X7_countCrossings_4_w C hret p0 s.1 s.2.1 hp0 s.2.2  (fun u1 u2 σ h => hcc (u1, u2, σ) h) hp) hp)
def P_X7_countTransitions (p1 : Nat) (σ : St) (K : Int32 → St → Prop) : Prop := P_X3_arrange p1 σ (fun s1 => P_X3_perform  s1 (fun s2 => K (s2.1 196 6) s2))
set_option maxHeartbeats 4000000 in
set_option maxRecDepth 100000 in
theorem m_X7_countTransitions (l : Launch) (ad : Nat → Nat) (D : va_G) (ca : Nat → ClassId) (had : adOk ad) (p1 : Nat) (hp1 : sOk p1) (σ : St) (K : Int32 → St → Prop) (hp : P_X7_countTransitions p1 σ K) : CtI l ad D ca yX7_countTransitions cX7_countTransitions 2 .int 12 [.ref (ad 0), .ref (ad p1)] σ K := CtI_of (av := fun ad => [.ref (ad 0), .ref (ad p1)]) (plainFor_of_name (by decide)) had (Nat.le_of_ble_eq_true rfl) (fun κ C hret => by
  have C : Ok κ RX7 cX7_countTransitions 2 12 := C
  show GG κ 0 [(0, .ref (kad κ 0)), (1, .ref (kad κ p1))] [] σ
  unfold P_X7_countTransitions at hp
  refine x_aload_n 0 C rfl (dX7_countTransitions_p0 0 rfl) ?_
  refine gX7_9 (b := 196) C rfl (by decide) rfl tw_243 (dX7_countTransitions_p0 1 rfl) ?_
  refine x_aload_n 1 C rfl (dX7_countTransitions_p0 2 rfl) ?_
  refine x_cvV (As := [.ref (kad κ p1)]) (st := []) C LRX7_227 (ci := 3) rfl rfl (by decide) (by decide) (m_X3_arrange (kL κ) (kad κ) (kD κ) (kca κ) C.ado p1 hp1 σ _ hp) rfl (by decide) rfl (Nat.le_of_ble_eq_true rfl) (dX7_countTransitions_p0 3 rfl) (fun s1 hp => ?_)
  refine x_aload_n 0 C rfl (dX7_countTransitions_p0 4 rfl) ?_
  refine gX7_9 (b := 196) C rfl (by decide) rfl tw_243 (dX7_countTransitions_p0 5 rfl) ?_
  refine x_cvV (As := []) (st := []) C LRX7_306 (ci := 3) rfl rfl (by decide) (by decide) (m_X3_perform (kL κ) (kad κ) (kD κ) (kca κ) C.ado   s1 _ hp) rfl (by decide) rfl (Nat.le_of_ble_eq_true rfl) (dX7_countTransitions_p0 6 rfl) (fun s2 hp => ?_)
  refine x_aload_n 0 C rfl (dX7_countTransitions_p0 7 rfl) ?_
  refine gX7_9 (b := 196) C rfl (by decide) rfl tw_243 (dX7_countTransitions_p0 8 rfl) ?_
  refine gX3_6 C rfl (by decide) tw_203 (dX7_countTransitions_p0 9 rfl) ?_
  exact hret _ _ _ _ (dX7_countTransitions_p0 10 rfl) (nar_i _) hp)
def J_X7_mixSentence_133 (K : Int64 → St → Prop)  (u3 : Nat) (t0 : Int64) (t1 : Int64) (σ : St) : Prop := P_X7_mix t0 t1 σ (fun r5 s4 => P_X7_countTrees u3 s4 (fun r7 s6 => P_X7_mix r5 (Int32.toInt64 r7) s6 (fun r9 s8 => P_X7_sumWeights u3 s8 (fun r11 s10 => P_X7_mix r9 r11 s10 (fun r13 s12 => P_X7_countCrossings u3 s12 (fun r15 s14 => P_X7_mix r13 (Int32.toInt64 r15) s14 (fun r17 s16 => P_X7_countTransitions u3 s16 (fun r19 s18 => P_X7_mix r17 (Int32.toInt64 r19) s18 (fun r21 s20 => K r21 s20)))))))))
set_option maxHeartbeats 4000000 in
set_option maxRecDepth 100000 in
theorem J_X7_mixSentence_133_w {κ : Kap} {K : Int64 → St → Prop}  (C : Ok κ RX7 cX7_mixSentence 8 13) (hret : RetL κ cX7_mixSentence K) (u3 : Nat) (t0 : Int64) (t1 : Int64)  (hu3 : sOk u3)   (σ : St)  (hp : J_X7_mixSentence_133 K  u3 t0 t1 σ) : GG κ 133 [(0, .ref (kad κ 0)), (3, .ref (kad κ u3))] [.long t1, .long t0] σ := by
  unfold J_X7_mixSentence_133 at hp
  refine x_csL (As := [.long t0, .long t1]) (st := []) C LRX7_252 (m_X7_mix (kL κ) (kad κ) (kD κ) (kca κ) C.ado t0 t1  σ _ hp) rfl (by decide) rfl (Nat.le_of_ble_eq_true rfl) (dX7_mixSentence_p1 1 rfl) (fun r5 s4 hp => ?_)
  refine x_lstore (loc' := [(5, .long r5), (0, .ref (kad κ 0)), (3, .ref (kad κ u3))]) C (by decide) rfl (dX7_mixSentence_p1 2 rfl) ?_
  refine x_lload 0 C rfl (dX7_mixSentence_p1 3 rfl) ?_
  refine x_aload_n 1 C rfl (dX7_mixSentence_p1 4 rfl) ?_
  refine x_aload_n 2 C rfl (dX7_mixSentence_p1 5 rfl) ?_
  refine x_cvI (As := [.ref (kad κ u3)]) (st := [.long r5]) C LRX7_194 (ci := 7) rfl rfl (by decide) (by decide) (m_X7_countTrees (kL κ) (kad κ) (kD κ) (kca κ) C.ado u3 hu3 s4 _ hp) rfl (by decide) rfl (Nat.le_of_ble_eq_true rfl) (dX7_mixSentence_p1 6 rfl) (fun r7 s6 hp => ?_)
  refine x_i2l C (dX7_mixSentence_p1 7 rfl) ?_
  refine x_csL (As := [.long r5, .long (Int32.toInt64 r7)]) (st := []) C LRX7_252 (m_X7_mix (kL κ) (kad κ) (kD κ) (kca κ) C.ado r5 (Int32.toInt64 r7)  s6 _ hp) rfl (by decide) rfl (Nat.le_of_ble_eq_true rfl) (dX7_mixSentence_p1 8 rfl) (fun r9 s8 hp => ?_)
  refine x_lstore (loc' := [(5, .long r9), (0, .ref (kad κ 0)), (3, .ref (kad κ u3))]) C (by decide) rfl (dX7_mixSentence_p1 9 rfl) ?_
  refine x_lload 0 C rfl (dX7_mixSentence_p1 10 rfl) ?_
  refine x_aload_n 1 C rfl (dX7_mixSentence_p1 11 rfl) ?_
  refine x_aload_n 2 C rfl (dX7_mixSentence_p1 12 rfl) ?_
  refine x_cvL (As := [.ref (kad κ u3)]) (st := [.long r9]) C LRX7_199 (ci := 7) rfl rfl (by decide) (by decide) (m_X7_sumWeights (kL κ) (kad κ) (kD κ) (kca κ) C.ado u3 hu3 s8 _ hp) rfl (by decide) rfl (Nat.le_of_ble_eq_true rfl) (dX7_mixSentence_p1 13 rfl) (fun r11 s10 hp => ?_)
  refine x_csL (As := [.long r9, .long r11]) (st := []) C LRX7_252 (m_X7_mix (kL κ) (kad κ) (kD κ) (kca κ) C.ado r9 r11  s10 _ hp) rfl (by decide) rfl (Nat.le_of_ble_eq_true rfl) (dX7_mixSentence_p1 14 rfl) (fun r13 s12 hp => ?_)
  refine x_lstore (loc' := [(5, .long r13), (0, .ref (kad κ 0)), (3, .ref (kad κ u3))]) C (by decide) rfl (dX7_mixSentence_p1 15 rfl) ?_
  refine x_lload 0 C rfl (dX7_mixSentence_p1 16 rfl) ?_
  refine x_aload_n 2 C rfl (dX7_mixSentence_p1 17 rfl) ?_
  refine x_csI (As := [.ref (kad κ u3)]) (st := [.long r13]) C LRX7_220 (m_X7_countCrossings (kL κ) (kad κ) (kD κ) (kca κ) C.ado u3 hu3 s12 _ hp) rfl (by decide) rfl (Nat.le_of_ble_eq_true rfl) (dX7_mixSentence_p1 18 rfl) (fun r15 s14 hp => ?_)
  refine x_i2l C (dX7_mixSentence_p1 19 rfl) ?_
  refine x_csL (As := [.long r13, .long (Int32.toInt64 r15)]) (st := []) C LRX7_252 (m_X7_mix (kL κ) (kad κ) (kD κ) (kca κ) C.ado r13 (Int32.toInt64 r15)  s14 _ hp) rfl (by decide) rfl (Nat.le_of_ble_eq_true rfl) (dX7_mixSentence_p1 20 rfl) (fun r17 s16 hp => ?_)
  refine x_lstore (loc' := [(5, .long r17), (0, .ref (kad κ 0)), (3, .ref (kad κ u3))]) C (by decide) rfl (dX7_mixSentence_p1 21 rfl) ?_
  refine x_lload 0 C rfl (dX7_mixSentence_p1 22 rfl) ?_
  refine x_aload_n 1 C rfl (dX7_mixSentence_p1 23 rfl) ?_
  refine x_aload_n 2 C rfl (dX7_mixSentence_p1 24 rfl) ?_
  refine x_cvI (As := [.ref (kad κ u3)]) (st := [.long r17]) C LRX7_234 (ci := 7) rfl rfl (by decide) (by decide) (m_X7_countTransitions (kL κ) (kad κ) (kD κ) (kca κ) C.ado u3 hu3 s16 _ hp) rfl (by decide) rfl (Nat.le_of_ble_eq_true rfl) (dX7_mixSentence_p1 25 rfl) (fun r19 s18 hp => ?_)
  refine x_i2l C (dX7_mixSentence_p1 26 rfl) ?_
  refine x_csL (As := [.long r17, .long (Int32.toInt64 r19)]) (st := []) C LRX7_252 (m_X7_mix (kL κ) (kad κ) (kD κ) (kca κ) C.ado r17 (Int32.toInt64 r19)  s18 _ hp) rfl (by decide) rfl (Nat.le_of_ble_eq_true rfl) (dX7_mixSentence_p1 27 rfl) (fun r21 s20 hp => ?_)
  exact hret _ _ _ _ (dX7_mixSentence_p1 28 rfl) hp
def J_X7_mixSentence_100 (K : Int64 → St → Prop) (c37 : (Int64 × Int32 × St) → Prop) (u3 : Nat) (u4 : Int32) (u7 : Int32) (t0 : Int64) (t1 : Int64) (σ : St) : Prop := P_X7_mix t0 t1 σ (fun r31 s30 => ∀ v32 : Int32, v32 = u7 + 1 → c37 (r31, v32, s30))
set_option maxHeartbeats 4000000 in
set_option maxRecDepth 100000 in
theorem J_X7_mixSentence_100_w {κ : Kap} {K : Int64 → St → Prop} {c37 : (Int64 × Int32 × St) → Prop} (C : Ok κ RX7 cX7_mixSentence 8 13) (hret : RetL κ cX7_mixSentence K) (u3 : Nat) (u4 : Int32) (u7 : Int32) (t0 : Int64) (t1 : Int64)  (hu3 : sOk u3)     (σ : St) (hc37 : ∀ (u5 : Int64) (u7 : Int32) (σ : St), c37 (u5, u7, σ) → GG κ 37 [(0, .ref (kad κ 0)), (3, .ref (kad κ u3)), (4, .int u4), (5, .long u5), (7, .int u7)] [] σ) (hp : J_X7_mixSentence_100 K c37 u3 u4 u7 t0 t1 σ) : GG κ 100 [(0, .ref (kad κ 0)), (3, .ref (kad κ u3)), (4, .int u4), (7, .int u7)] [.long t1, .long t0] σ := by
  unfold J_X7_mixSentence_100 at hp
  refine x_csL (As := [.long t0, .long t1]) (st := []) C LRX7_252 (m_X7_mix (kL κ) (kad κ) (kD κ) (kca κ) C.ado t0 t1  σ _ hp) rfl (by decide) rfl (Nat.le_of_ble_eq_true rfl) (dX7_mixSentence_p0 51 rfl) (fun r31 s30 hp => ?_)
  refine x_lstore (loc' := [(5, .long r31), (0, .ref (kad κ 0)), (3, .ref (kad κ u3)), (4, .int u4), (7, .int u7)]) C (by decide) rfl (dX7_mixSentence_p0 52 rfl) ?_
  obtain ⟨v32, ev32⟩ : ∃ z : Int32, z = u7 + 1 := ⟨_, rfl⟩
  have hp := hp v32 ev32
  refine x_iinc (v := v32) (loc' := [(7, .int v32), (5, .long r31), (0, .ref (kad κ 0)), (3, .ref (kad κ u3)), (4, .int u4)]) 4 C rfl (by rw [ev32]; rfl) (by decide) rfl (dX7_mixSentence_p0 53 rfl) ?_
  refine x_goto (tgt := 37) C (dX7_mixSentence_p0 54 rfl) (by decide) ?_
  refine x_loc (loc' := [(0, .ref (kad κ 0)), (3, .ref (kad κ u3)), (4, .int u4), (5, .long r31), (7, .int v32)]) [2, 3, 4, 1, 0] rfl ?_
  exact hc37 r31 v32 s30 hp
def F_X7_mixSentence_37 (K : Int64 → St → Prop) (c37 : (Int64 × Int32 × St) → Prop) (u3 : Nat) (u4 : Int32) (u5 : Int64) (u7 : Int32) (σ : St) : Prop := ((σ.1 u3 0) < u7 → ((u4 = 0 → (J_X7_mixSentence_133 K  u3 u5 (-1000004) σ)) ∧ (¬ (u4 = 0) → P_X4_scoreAt 0 σ (fun r23 s22 => J_X7_mixSentence_133 K  u3 u5 (Int32.toInt64 r23) s22)))) ∧ (¬ ((σ.1 u3 0) < u7) → vp_in u7 7 ∧ (P_X7_mix u5 (Int32.toInt64 (σ.1 (u3 + 1) (ix u7))) σ (fun r26 s25 => vp_in u7 7 ∧ (P_X7_mix r26 (Int32.toInt64 (s25.1 (u3 + 2) (ix u7))) s25 (fun r29 s28 => (u4 = 0 → (J_X7_mixSentence_100 K c37 u3 u4 u7 r29 (-1000004) s28)) ∧ (¬ (u4 = 0) → P_X4_headAt 0 u7 s28 (fun r34 s33 => J_X7_mixSentence_100 K c37 u3 u4 u7 r29 (Int32.toInt64 r34) s33)))))))
set_option maxHeartbeats 4000000 in
set_option maxRecDepth 100000 in
theorem F_X7_mixSentence_37_w {κ : Kap} {K : Int64 → St → Prop} {c37 : (Int64 × Int32 × St) → Prop} (C : Ok κ RX7 cX7_mixSentence 8 13) (hret : RetL κ cX7_mixSentence K) (u3 : Nat) (u4 : Int32) (u5 : Int64) (u7 : Int32)  (hu3 : sOk u3)    (σ : St) (hc37 : ∀ (u5 : Int64) (u7 : Int32) (σ : St), c37 (u5, u7, σ) → GG κ 37 [(0, .ref (kad κ 0)), (3, .ref (kad κ u3)), (4, .int u4), (5, .long u5), (7, .int u7)] [] σ) (hp : F_X7_mixSentence_37 K c37 u3 u4 u5 u7 σ) : GG κ 37 [(0, .ref (kad κ 0)), (3, .ref (kad κ u3)), (4, .int u4), (5, .long u5), (7, .int u7)] [] σ := by
  unfold F_X7_mixSentence_37 at hp
  refine x_iload 4 C rfl (dX7_mixSentence_p0 20 rfl) ?_
  refine x_aload_n 1 C rfl (dX7_mixSentence_p0 21 rfl) ?_
  refine gX0_0 C (s_kd hu3) (s_lt hu3) tw_51 (dX7_mixSentence_p0 22 rfl) ?_
  refine x_icmp_gt (tgt := 111) C (dX7_mixSentence_p0 23 rfl) (by decide) (fun hc => ?_) (fun hc => ?_)
  · have hp := hp.1 hc
    refine x_lload 3 C rfl (dX7_mixSentence_p0 55 rfl) ?_
    refine x_iload 2 C rfl (dX7_mixSentence_p0 56 rfl) ?_
    refine x_if_eq (tgt := 130) C (dX7_mixSentence_p0 57 rfl) (by decide) (fun hc => ?_) (fun hc => ?_)
    · have hp := hp.1 hc
      refine x_ldc2 C tw_607 (dX7_mixSentence_p1 0 rfl) ?_
      refine x_loc (loc' := [(0, .ref (kad κ 0)), (3, .ref (kad κ u3))]) [0, 1] rfl ?_
      exact J_X7_mixSentence_133_w C hret u3 u5 (-1000004) hu3 σ  hp
    · have hp := hp.2 hc
      refine x_aload_n 0 C rfl (dX7_mixSentence_p0 58 rfl) ?_
      refine gX7_7 (b := 126) C rfl (by decide) rfl tw_241 (dX7_mixSentence_p0 59 rfl) ?_
      refine x_iconst (v := 0) C (by decide) (dX7_mixSentence_p0 60 rfl) ?_
      refine x_cvI (As := [.int 0]) (st := [.long u5]) C LRX7_180 (ci := 4) rfl rfl (by decide) (by decide) (m_X4_scoreAt (kL κ) (kad κ) (kD κ) (kca κ) C.ado 0  σ _ hp) rfl (by decide) rfl (Nat.le_of_ble_eq_true rfl) (dX7_mixSentence_p0 61 rfl) (fun r23 s22 hp => ?_)
      refine x_i2l C (dX7_mixSentence_p0 62 rfl) ?_
      refine x_goto (tgt := 133) C (dX7_mixSentence_p0 63 rfl) (by decide) ?_
      refine x_loc (loc' := [(0, .ref (kad κ 0)), (3, .ref (kad κ u3))]) [0, 1] rfl ?_
      exact J_X7_mixSentence_133_w C hret u3 u5 (Int32.toInt64 r23) hu3 s22  hp
  · have hp := hp.2 hc
    refine x_lload 3 C rfl (dX7_mixSentence_p0 24 rfl) ?_
    refine x_aload_n 1 C rfl (dX7_mixSentence_p0 25 rfl) ?_
    refine gX0_1 (b := u3 + 1) C (s_kd hu3) (s_lt hu3) (s_m1 hu3) tw_54 (dX7_mixSentence_p0 26 rfl) ?_
    refine x_iload 4 C rfl (dX7_mixSentence_p0 27 rfl) ?_
    obtain ⟨h24, hp⟩ := hp
    refine x_iald C (s_kd1 hu3) (s_lt1 hu3) (vp_ln (s_ln1 hu3) h24) (dX7_mixSentence_p0 28 rfl) ?_
    refine x_i2l C (dX7_mixSentence_p0 29 rfl) ?_
    refine x_csL (As := [.long u5, .long (Int32.toInt64 (σ.1 (u3 + 1) (ix u7)))]) (st := []) C LRX7_252 (m_X7_mix (kL κ) (kad κ) (kD κ) (kca κ) C.ado u5 (Int32.toInt64 (σ.1 (u3 + 1) (ix u7)))  σ _ hp) rfl (by decide) rfl (Nat.le_of_ble_eq_true rfl) (dX7_mixSentence_p0 30 rfl) (fun r26 s25 hp => ?_)
    refine x_lstore (loc' := [(5, .long r26), (0, .ref (kad κ 0)), (3, .ref (kad κ u3)), (4, .int u4), (7, .int u7)]) C (by decide) rfl (dX7_mixSentence_p0 31 rfl) ?_
    refine x_lload 0 C rfl (dX7_mixSentence_p0 32 rfl) ?_
    refine x_aload_n 2 C rfl (dX7_mixSentence_p0 33 rfl) ?_
    refine gX0_2 (b := u3 + 2) C (s_kd hu3) (s_lt hu3) (s_m2 hu3) tw_57 (dX7_mixSentence_p0 34 rfl) ?_
    refine x_iload 4 C rfl (dX7_mixSentence_p0 35 rfl) ?_
    obtain ⟨h27, hp⟩ := hp
    refine x_iald C (s_kd2 hu3) (s_lt2 hu3) (vp_ln (s_ln2 hu3) h27) (dX7_mixSentence_p0 36 rfl) ?_
    refine x_i2l C (dX7_mixSentence_p0 37 rfl) ?_
    refine x_csL (As := [.long r26, .long (Int32.toInt64 (s25.1 (u3 + 2) (ix u7)))]) (st := []) C LRX7_252 (m_X7_mix (kL κ) (kad κ) (kD κ) (kca κ) C.ado r26 (Int32.toInt64 (s25.1 (u3 + 2) (ix u7)))  s25 _ hp) rfl (by decide) rfl (Nat.le_of_ble_eq_true rfl) (dX7_mixSentence_p0 38 rfl) (fun r29 s28 hp => ?_)
    refine x_lstore (loc' := [(5, .long r29), (0, .ref (kad κ 0)), (3, .ref (kad κ u3)), (4, .int u4), (7, .int u7)]) C (by decide) rfl (dX7_mixSentence_p0 39 rfl) ?_
    refine x_lload 0 C rfl (dX7_mixSentence_p0 40 rfl) ?_
    refine x_iload 3 C rfl (dX7_mixSentence_p0 41 rfl) ?_
    refine x_if_eq (tgt := 97) C (dX7_mixSentence_p0 42 rfl) (by decide) (fun hc => ?_) (fun hc => ?_)
    · have hp := hp.1 hc
      refine x_ldc2 C tw_607 (dX7_mixSentence_p0 50 rfl) ?_
      refine x_loc (loc' := [(0, .ref (kad κ 0)), (3, .ref (kad κ u3)), (4, .int u4), (7, .int u7)]) [1, 2, 3, 4] rfl ?_
      exact J_X7_mixSentence_100_w C hret u3 u4 u7 r29 (-1000004) hu3 s28 hc37 hp
    · have hp := hp.2 hc
      refine x_aload_n 1 C rfl (dX7_mixSentence_p0 43 rfl) ?_
      refine gX7_7 (b := 126) C rfl (by decide) rfl tw_241 (dX7_mixSentence_p0 44 rfl) ?_
      refine x_iconst (v := 0) C (by decide) (dX7_mixSentence_p0 45 rfl) ?_
      refine x_iload 4 C rfl (dX7_mixSentence_p0 46 rfl) ?_
      refine x_cvI (As := [.int 0, .int u7]) (st := [.long r29]) C LRX7_140 (ci := 4) rfl rfl (by decide) (by decide) (m_X4_headAt (kL κ) (kad κ) (kD κ) (kca κ) C.ado 0 u7  s28 _ hp) rfl (by decide) rfl (Nat.le_of_ble_eq_true rfl) (dX7_mixSentence_p0 47 rfl) (fun r34 s33 hp => ?_)
      refine x_i2l C (dX7_mixSentence_p0 48 rfl) ?_
      refine x_goto (tgt := 100) C (dX7_mixSentence_p0 49 rfl) (by decide) ?_
      refine x_loc (loc' := [(0, .ref (kad κ 0)), (3, .ref (kad κ u3)), (4, .int u4), (7, .int u7)]) [1, 2, 3, 4] rfl ?_
      exact J_X7_mixSentence_100_w C hret u3 u4 u7 r29 (Int32.toInt64 r34) hu3 s33 hc37 hp
def J_X7_mixSentence_21 (K : Int64 → St → Prop)  (u1 : Int64) (u3 : Nat) (t0 : Int32) (σ : St) : Prop := P_X7_mix u1 (Int32.toInt64 (σ.1 u3 0)) σ (fun r3 s2 => LpE (fun c s => F_X7_mixSentence_37 K  c u3 t0 s.1 s.2.1 s.2.2) (r3, 1, s2))
set_option maxHeartbeats 4000000 in
set_option maxRecDepth 100000 in
theorem J_X7_mixSentence_21_w {κ : Kap} {K : Int64 → St → Prop}  (C : Ok κ RX7 cX7_mixSentence 8 13) (hret : RetL κ cX7_mixSentence K) (u1 : Int64) (u3 : Nat) (t0 : Int32)   (hu3 : sOk u3)  (σ : St)  (hp : J_X7_mixSentence_21 K  u1 u3 t0 σ) : GG κ 21 [(0, .ref (kad κ 0)), (1, .long u1), (3, .ref (kad κ u3))] [.int t0] σ := by
  unfold J_X7_mixSentence_21 at hp
  refine x_istore (loc' := [(4, .int t0), (0, .ref (kad κ 0)), (1, .long u1), (3, .ref (kad κ u3))]) C (by decide) rfl (dX7_mixSentence_p0 11 rfl) ?_
  refine x_lload_n 2 C rfl (dX7_mixSentence_p0 12 rfl) ?_
  refine x_aload_n 3 C rfl (dX7_mixSentence_p0 13 rfl) ?_
  refine gX0_0 C (s_kd hu3) (s_lt hu3) tw_51 (dX7_mixSentence_p0 14 rfl) ?_
  refine x_i2l C (dX7_mixSentence_p0 15 rfl) ?_
  refine x_csL (As := [.long u1, .long (Int32.toInt64 (σ.1 u3 0))]) (st := []) C LRX7_252 (m_X7_mix (kL κ) (kad κ) (kD κ) (kca κ) C.ado u1 (Int32.toInt64 (σ.1 u3 0))  σ _ hp) rfl (by decide) rfl (Nat.le_of_ble_eq_true rfl) (dX7_mixSentence_p0 16 rfl) (fun r3 s2 hp => ?_)
  refine x_lstore (loc' := [(5, .long r3), (4, .int t0), (0, .ref (kad κ 0)), (1, .long u1), (3, .ref (kad κ u3))]) C (by decide) rfl (dX7_mixSentence_p0 17 rfl) ?_
  refine x_iconst (v := 1) C (by decide) (dX7_mixSentence_p0 18 rfl) ?_
  refine x_istore (loc' := [(7, .int 1), (5, .long r3), (4, .int t0), (0, .ref (kad κ 0)), (1, .long u1), (3, .ref (kad κ u3))]) C (by decide) rfl (dX7_mixSentence_p0 19 rfl) ?_
  refine x_loc (loc' := [(0, .ref (kad κ 0)), (3, .ref (kad κ u3)), (4, .int t0), (5, .long r3), (7, .int 1)]) [3, 5, 2, 1, 0] rfl ?_
  exact LpE_GG (S := (Int64 × Int32 × St)) (F := fun c s => F_X7_mixSentence_37 K  c u3 t0 s.1 s.2.1 s.2.2) (W := fun s => GG κ 37 [(0, .ref (kad κ 0)), (3, .ref (kad κ u3)), (4, .int t0), (5, .long s.1), (7, .int s.2.1)] [] s.2.2) (fun c s hcc hp => F_X7_mixSentence_37_w C hret u3 t0 s.1 s.2.1 hu3 s.2.2  (fun u5 u7 σ h => hcc (u5, u7, σ) h) hp) hp
def P_X7_mixSentence (p1 : Int64) (p3 : Nat) (σ : St) (K : Int64 → St → Prop) : Prop := P_X7_rankTrees p3 1 σ (fun s1 => ((s1.1 126 9) ≤ 0 → (J_X7_mixSentence_21 K  p1 p3 0 s1)) ∧ (¬ ((s1.1 126 9) ≤ 0) → (J_X7_mixSentence_21 K  p1 p3 1 s1)))
set_option maxHeartbeats 4000000 in
set_option maxRecDepth 100000 in
theorem m_X7_mixSentence (l : Launch) (ad : Nat → Nat) (D : va_G) (ca : Nat → ClassId) (had : adOk ad) (p1 : Int64) (p3 : Nat) (hp3 : sOk p3) (σ : St) (K : Int64 → St → Prop) (hp : P_X7_mixSentence p1 p3 σ K) : CtL l ad D ca yX7_mixSentence cX7_mixSentence 8 13 [.ref (ad 0), .long p1, .ref (ad p3)] σ K := CtL_of (av := fun ad => [.ref (ad 0), .long p1, .ref (ad p3)]) (plainFor_of_name (by decide)) had (Nat.le_of_ble_eq_true rfl) (fun κ C hret => by
  have C : Ok κ RX7 cX7_mixSentence 8 13 := C
  show GG κ 0 [(0, .ref (kad κ 0)), (1, .long p1), (3, .ref (kad κ p3))] [] σ
  unfold P_X7_mixSentence at hp
  refine x_aload_n 0 C rfl (dX7_mixSentence_p0 0 rfl) ?_
  refine x_aload_n 2 C rfl (dX7_mixSentence_p0 1 rfl) ?_
  refine x_iconst (v := 1) C (by decide) (dX7_mixSentence_p0 2 rfl) ?_
  refine x_cvV (As := [.ref (kad κ p3), .int 1]) (st := []) C LRX7_129 (ci := 7) rfl rfl (by decide) (by decide) (m_X7_rankTrees (kL κ) (kad κ) (kD κ) (kca κ) C.ado p3 1 hp3 σ _ hp) rfl (by decide) rfl (Nat.le_of_ble_eq_true rfl) (dX7_mixSentence_p0 3 rfl) (fun s1 hp => ?_)
  refine x_aload_n 0 C rfl (dX7_mixSentence_p0 4 rfl) ?_
  refine gX7_7 (b := 126) C rfl (by decide) rfl tw_241 (dX7_mixSentence_p0 5 rfl) ?_
  refine gX4_9 C rfl (by decide) tw_133 (dX7_mixSentence_p0 6 rfl) ?_
  refine x_if_le (tgt := 20) C (dX7_mixSentence_p0 7 rfl) (by decide) (fun hc => ?_) (fun hc => ?_)
  · have hp := hp.1 hc
    refine x_iconst (v := 0) C (by decide) (dX7_mixSentence_p0 10 rfl) ?_
    exact J_X7_mixSentence_21_w C hret p1 p3 0 hp3 s1  hp
  · have hp := hp.2 hc
    refine x_iconst (v := 1) C (by decide) (dX7_mixSentence_p0 8 rfl) ?_
    refine x_goto (tgt := 21) C (dX7_mixSentence_p0 9 rfl) (by decide) ?_
    exact J_X7_mixSentence_21_w C hret p1 p3 1 hp3 s1  hp)
def F_X7_checksum_14 (K : Int64 → St → Prop) (c14 : (Int64 × Int32 × St) → Prop) (u1 : Int64) (u3 : Int32) (σ : St) : Prop := ((σ.1 0 2) ≤ u3 → P_X6_mixInto 81 u1 σ (fun r4 s3 => K r4 s3)) ∧ (¬ ((σ.1 0 2) ≤ u3) → (vp_in u3 4 ∧ sOk (σ.2.2 (ix u3)) ∧ (P_X7_mixSentence u1 (σ.2.2 (ix u3)) σ (fun r8 s7 => ∀ v9 : Int32, v9 = u3 + 1 → c14 (r8, v9, s7)))))
set_option maxHeartbeats 4000000 in
set_option maxRecDepth 100000 in
theorem F_X7_checksum_14_w {κ : Kap} {K : Int64 → St → Prop} {c14 : (Int64 × Int32 × St) → Prop} (C : Ok κ RX7 cX7_checksum 4 14) (hret : RetL κ cX7_checksum K) (u1 : Int64) (u3 : Int32)    (σ : St) (hc14 : ∀ (u1 : Int64) (u3 : Int32) (σ : St), c14 (u1, u3, σ) → GG κ 14 [(0, .ref (kad κ 0)), (1, .long u1), (3, .int u3)] [] σ) (hp : F_X7_checksum_14 K c14 u1 u3 σ) : GG κ 14 [(0, .ref (kad κ 0)), (1, .long u1), (3, .int u3)] [] σ := by
  unfold F_X7_checksum_14 at hp
  refine x_iload_n 2 C rfl (dX7_checksum_p0 8 rfl) ?_
  refine x_aload_n 0 C rfl (dX7_checksum_p0 9 rfl) ?_
  refine gX7_2 C rfl (by decide) tw_236 (dX7_checksum_p0 10 rfl) ?_
  refine x_icmp_ge (tgt := 40) C (dX7_checksum_p0 11 rfl) (by decide) (fun hc => ?_) (fun hc => ?_)
  · have hp := hp.1 hc
    refine x_aload_n 0 C rfl (dX7_checksum_p0 22 rfl) ?_
    refine gX7_3 (b := 81) C rfl (by decide) rfl tw_237 (dX7_checksum_p0 23 rfl) ?_
    refine x_lload_n 1 C rfl (dX7_checksum_p0 24 rfl) ?_
    refine x_cvL (As := [.long u1]) (st := []) C LRX7_259 (ci := 6) rfl (w_kd (Or.inl rfl)) (by decide) (w_lt (Or.inl rfl)) (m_X6_mixInto (kL κ) (kad κ) (kD κ) (kca κ) C.ado 81 u1 (Or.inl rfl) σ _ hp) rfl (by decide) rfl (Nat.le_of_ble_eq_true rfl) (dX7_checksum_p0 25 rfl) (fun r4 s3 hp => ?_)
    exact hret _ _ _ _ (dX7_checksum_p0 26 rfl) hp
  · have hp := hp.2 hc
    refine x_aload_n 0 C rfl (dX7_checksum_p0 12 rfl) ?_
    refine x_lload_n 1 C rfl (dX7_checksum_p0 13 rfl) ?_
    refine x_aload_n 0 C rfl (dX7_checksum_p0 14 rfl) ?_
    refine gX7_1 (b := 4) C rfl (by decide) rfl tw_235 (dX7_checksum_p0 15 rfl) ?_
    refine x_iload_n 2 C rfl (dX7_checksum_p0 16 rfl) ?_
    obtain ⟨h5, hp⟩ := hp
    obtain ⟨h6, hp⟩ := hp
    refine x_aald (c := 15) (b := σ.2.2 (ix u3)) C rfl (by decide) rfl rfl (by decide) h5 rfl (dX7_checksum_p0 17 rfl) ?_
    refine x_cvL (As := [.long u1, .ref (kad κ (σ.2.2 (ix u3)))]) (st := []) C LRX7_255 (ci := 7) rfl rfl (by decide) (by decide) (m_X7_mixSentence (kL κ) (kad κ) (kD κ) (kca κ) C.ado u1 (σ.2.2 (ix u3)) h6 σ _ hp) rfl (by decide) rfl (Nat.le_of_ble_eq_true rfl) (dX7_checksum_p0 18 rfl) (fun r8 s7 hp => ?_)
    refine x_lstore_n (loc' := [(1, .long r8), (0, .ref (kad κ 0)), (3, .int u3)]) C rfl (by decide) rfl (dX7_checksum_p0 19 rfl) ?_
    obtain ⟨v9, ev9⟩ : ∃ z : Int32, z = u3 + 1 := ⟨_, rfl⟩
    have hp := hp v9 ev9
    refine x_iinc (v := v9) (loc' := [(3, .int v9), (1, .long r8), (0, .ref (kad κ 0))]) 2 C rfl (by rw [ev9]; rfl) (by decide) rfl (dX7_checksum_p0 20 rfl) ?_
    refine x_goto (tgt := 14) C (dX7_checksum_p0 21 rfl) (by decide) ?_
    refine x_loc (loc' := [(0, .ref (kad κ 0)), (1, .long r8), (3, .int v9)]) [2, 1, 0] rfl ?_
    exact hc14 r8 v9 s7 hp
def P_X7_checksum  (σ : St) (K : Int64 → St → Prop) : Prop := P_X7_mix 13 (Int32.toInt64 (σ.1 0 2)) σ (fun r2 s1 => LpE (fun c s => F_X7_checksum_14 K  c s.1 s.2.1 s.2.2) (r2, 0, s1))
set_option maxHeartbeats 4000000 in
set_option maxRecDepth 100000 in
theorem m_X7_checksum (l : Launch) (ad : Nat → Nat) (D : va_G) (ca : Nat → ClassId) (had : adOk ad)   (σ : St) (K : Int64 → St → Prop) (hp : P_X7_checksum  σ K) : CtL l ad D ca yX7_checksum cX7_checksum 4 14 [.ref (ad 0)] σ K := CtL_of (av := fun ad => [.ref (ad 0)]) (plainFor_of_name (by decide)) had (Nat.le_of_ble_eq_true rfl) (fun κ C hret => by
  have C : Ok κ RX7 cX7_checksum 4 14 := C
  show GG κ 0 [(0, .ref (kad κ 0))] [] σ
  unfold P_X7_checksum at hp
  refine x_ldc2 C tw_728 (dX7_checksum_p0 0 rfl) ?_
  refine x_aload_n 0 C rfl (dX7_checksum_p0 1 rfl) ?_
  refine gX7_2 C rfl (by decide) tw_236 (dX7_checksum_p0 2 rfl) ?_
  refine x_i2l C (dX7_checksum_p0 3 rfl) ?_
  refine x_csL (As := [.long 13, .long (Int32.toInt64 (σ.1 0 2))]) (st := []) C LRX7_252 (m_X7_mix (kL κ) (kad κ) (kD κ) (kca κ) C.ado 13 (Int32.toInt64 (σ.1 0 2))  σ _ hp) rfl (by decide) rfl (Nat.le_of_ble_eq_true rfl) (dX7_checksum_p0 4 rfl) (fun r2 s1 hp => ?_)
  refine x_lstore_n (loc' := [(1, .long r2), (0, .ref (kad κ 0))]) C rfl (by decide) rfl (dX7_checksum_p0 5 rfl) ?_
  refine x_iconst (v := 0) C (by decide) (dX7_checksum_p0 6 rfl) ?_
  refine x_istore_n (loc' := [(3, .int 0), (1, .long r2), (0, .ref (kad κ 0))]) C rfl (by decide) rfl (dX7_checksum_p0 7 rfl) ?_
  refine x_loc (loc' := [(0, .ref (kad κ 0)), (1, .long r2), (3, .int 0)]) [2, 1, 0] rfl ?_
  exact LpE_GG (S := (Int64 × Int32 × St)) (F := fun c s => F_X7_checksum_14 K  c s.1 s.2.1 s.2.2) (W := fun s => GG κ 14 [(0, .ref (kad κ 0)), (1, .long s.1), (3, .int s.2.1)] [] s.2.2) (fun c s hcc hp => F_X7_checksum_14_w C hret s.1 s.2.1  s.2.2  (fun u1 u3 σ h => hcc (u1, u3, σ) h) hp) hp)
def P_X7_clearText  (σ : St) (K : Int32 → St → Prop) : Prop := ∀ v1 : Int32, v1 = (σ.1 1 1) → ∀ s2 : St, s2 = wI σ 1 1 0 → (K v1 s2)
set_option maxHeartbeats 4000000 in
set_option maxRecDepth 100000 in
theorem m_X7_clearText (l : Launch) (ad : Nat → Nat) (D : va_G) (ca : Nat → ClassId) (had : adOk ad)   (σ : St) (K : Int32 → St → Prop) (hp : P_X7_clearText  σ K) : CtI l ad D ca yX7_clearText cX7_clearText 2 .int 0 [.ref (ad 0)] σ K := CtI_of (av := fun ad => [.ref (ad 0)]) (plainFor_of_name (by decide)) had (Nat.le_of_ble_eq_true rfl) (fun κ C hret => by
  have C : Ok κ RX7 cX7_clearText 2 0 := C
  show GG κ 0 [(0, .ref (kad κ 0))] [] σ
  unfold P_X7_clearText at hp
  refine x_aload_n 0 C rfl (dX7_clearText_p0 0 rfl) ?_
  refine gX7_0 (b := 1) C rfl (by decide) rfl tw_234 (dX7_clearText_p0 1 rfl) ?_
  refine gX2_1 C rfl (by decide) tw_30 (dX7_clearText_p0 2 rfl) ?_
  refine x_topI (fun v1 ev1 => ?_)
  have hp := hp v1 ev1
  refine x_istore_n (loc' := [(1, .int v1), (0, .ref (kad κ 0))]) C rfl (by decide) rfl (dX7_clearText_p0 3 rfl) ?_
  refine x_aload_n 1 C rfl (dX7_clearText_p0 4 rfl) ?_
  refine gX7_0 (b := 1) C rfl (by decide) rfl tw_234 (dX7_clearText_p0 5 rfl) ?_
  refine x_iconst (v := 0) C (by decide) (dX7_clearText_p0 6 rfl) ?_
  refine qX2_1 C rfl (by decide) tw_30 (dX7_clearText_p0 7 rfl) ?_
  refine x_nmS (fun s2 es2 => ?_)
  have hp := hp s2 es2
  refine x_iload_n 0 C rfl (dX7_clearText_p0 8 rfl) ?_
  exact hret _ _ _ _ (dX7_clearText_p0 9 rfl) (nar_i _) hp)
def P_X7_constrain (p1 : Int32) (p2 : Int32) (p3 : Int32) (p4 : Int32) (σ : St) (K : Int32 → St → Prop) : Prop := P_X7_find p1 σ (fun r3 s1 => (r3 = none → (K (-1000001) s1)) ∧ (∀ b2 : Nat, r3 = some b2 → sOk b2 ∧ P_X0_hasArc b2 p2 p3 s1 (fun r5 s4 => (r5 = 0 → (K (-1000001) s4)) ∧ (¬ (r5 = 0) → ((p4 < 0 → (K (-1000002) s4)) ∧ (¬ (p4 < 0) → ((p4 ≤ 2 → vp_in p2 7 ∧ vp_in p3 7 ∧ (∀ v8 : Int32, v8 = (s4.1 ((b2 + 11) + 1 + ix p2) (ix p3)) → vp_in p2 7 ∧ (vp_in p3 7 ∧ ∀ s11 : St, s11 = wI s4 ((b2 + 11) + 1 + ix p2) (ix p3) p4 → (K v8 s11)))) ∧ (¬ (p4 ≤ 2) → (K (-1000002) s4)))))))))
set_option maxHeartbeats 4000000 in
set_option maxRecDepth 100000 in
theorem m_X7_constrain (l : Launch) (ad : Nat → Nat) (D : va_G) (ca : Nat → ClassId) (had : adOk ad) (p1 : Int32) (p2 : Int32) (p3 : Int32) (p4 : Int32)  (σ : St) (K : Int32 → St → Prop) (hp : P_X7_constrain p1 p2 p3 p4 σ K) : CtI l ad D ca yX7_constrain cX7_constrain 7 .int 2 [.ref (ad 0), .int p1, .int p2, .int p3, .int p4] σ K := CtI_of (av := fun ad => [.ref (ad 0), .int p1, .int p2, .int p3, .int p4]) (plainFor_of_name (by decide)) had (Nat.le_of_ble_eq_true rfl) (fun κ C hret => by
  have C : Ok κ RX7 cX7_constrain 7 2 := C
  show GG κ 0 [(0, .ref (kad κ 0)), (1, .int p1), (2, .int p2), (3, .int p3), (4, .int p4)] [] σ
  unfold P_X7_constrain at hp
  refine x_aload_n 0 C rfl (dX7_constrain_p0 0 rfl) ?_
  refine x_iload_n 1 C rfl (dX7_constrain_p0 1 rfl) ?_
  refine x_cvQ (As := [.int p1]) (st := []) C LRX7_101 (ci := 7) rfl rfl (by decide) (by decide) (m_X7_find (kL κ) (kad κ) (kD κ) (kca κ) C.ado p1  σ _ hp) rfl (by decide) rfl (Nat.le_of_ble_eq_true rfl) (dX7_constrain_p0 2 rfl) (fun s1 hp => ?_) (fun b2 s1 hp => ?_)
  · have hp := hp.1 rfl
    refine x_astoreN (loc' := [(5, .null), (0, .ref (kad κ 0)), (1, .int p1), (2, .int p2), (3, .int p3), (4, .int p4)]) C (by decide) rfl (dX7_constrain_p0 3 rfl) ?_
    refine x_aloadN 0 C rfl (dX7_constrain_p0 4 rfl) ?_
    refine x_ifnullN (tgt := 22) C (dX7_constrain_p0 5 rfl) (by decide) ?_
    refine x_ldc C tw_326 (dX7_constrain_p0 11 rfl) ?_
    exact hret _ _ _ _ (dX7_constrain_p0 12 rfl) (nar_i _) hp
  · obtain ⟨hb2, hp⟩ := hp.2 b2 rfl
    refine x_astore (loc' := [(5, .ref (kad κ b2)), (0, .ref (kad κ 0)), (1, .int p1), (2, .int p2), (3, .int p3), (4, .int p4)]) C (by decide) rfl (dX7_constrain_p0 3 rfl) ?_
    refine x_aload 0 C rfl (dX7_constrain_p0 4 rfl) ?_
    refine x_ifnull C (dX7_constrain_p0 5 rfl) ?_
    refine x_aload 0 C rfl (dX7_constrain_p0 6 rfl) ?_
    refine x_iload_n 3 C rfl (dX7_constrain_p0 7 rfl) ?_
    refine x_iload_n 4 C rfl (dX7_constrain_p0 8 rfl) ?_
    refine x_cvI (As := [.int p2, .int p3]) (st := []) C LRX7_121 (ci := 0) rfl (s_kd hb2) (by decide) (s_lt hb2) (m_X0_hasArc (kL κ) (kad κ) (kD κ) (kca κ) C.ado b2 p2 p3 hb2 s1 _ hp) rfl (by decide) rfl (Nat.le_of_ble_eq_true rfl) (dX7_constrain_p0 9 rfl) (fun r5 s4 hp => ?_)
    refine x_if_ne (tgt := 25) C (dX7_constrain_p0 10 rfl) (by decide) (fun hc => ?_) (fun hc => ?_)
    · have hp := hp.2 hc
      refine x_iload 5 C rfl (dX7_constrain_p0 13 rfl) ?_
      refine x_if_lt (tgt := 36) C (dX7_constrain_p0 14 rfl) (by decide) (fun hc => ?_) (fun hc => ?_)
      · have hp := hp.1 hc
        refine x_ldc C tw_269 (dX7_constrain_p0 18 rfl) ?_
        exact hret _ _ _ _ (dX7_constrain_p0 19 rfl) (nar_i _) hp
      · have hp := hp.2 hc
        refine x_iload 5 C rfl (dX7_constrain_p0 15 rfl) ?_
        refine x_iconst (v := 2) C (by decide) (dX7_constrain_p0 16 rfl) ?_
        refine x_icmp_le (tgt := 39) C (dX7_constrain_p0 17 rfl) (by decide) (fun hc => ?_) (fun hc => ?_)
        · have hp := hp.1 hc
          refine x_aload 0 C rfl (dX7_constrain_p0 20 rfl) ?_
          refine gX0_4 (b := b2 + 11) C (s_kd hb2) (s_lt hb2) (s_m4 hb2) tw_61 (dX7_constrain_p0 21 rfl) ?_
          refine x_iload_n 3 C rfl (dX7_constrain_p0 22 rfl) ?_
          obtain ⟨h6, hp⟩ := hp
          refine x_aald (c := 13) (b := (b2 + 11) + 1 + ix p2) C (s_kd4 hb2) (by decide) rfl rfl (s_lt4 hb2) (vp_ln (s_ln4 hb2) h6) (row_mr13 (s_kd4 hb2) (s_lt4 hb2) (vp_ln (s_ln4 hb2) h6)) (dX7_constrain_p0 23 rfl) ?_
          refine x_iload_n 4 C rfl (dX7_constrain_p0 24 rfl) ?_
          obtain ⟨h7, hp⟩ := hp
          refine x_iald C (row_kd13 (s_kd4 hb2) (s_lt4 hb2) (vp_ln (s_ln4 hb2) h6)) (row_lt13 (s_kd4 hb2) (s_lt4 hb2) (vp_ln (s_ln4 hb2) h6)) (vp_ln ((row_ln13 (s_kd4 hb2) (s_lt4 hb2) (vp_ln (s_ln4 hb2) h6)).trans (s_iln4 hb2)) h7) (dX7_constrain_p0 25 rfl) ?_
          refine x_topI (fun v8 ev8 => ?_)
          have hp := hp v8 ev8
          refine x_istore (loc' := [(6, .int v8), (5, .ref (kad κ b2)), (0, .ref (kad κ 0)), (1, .int p1), (2, .int p2), (3, .int p3), (4, .int p4)]) C (by decide) rfl (dX7_constrain_p0 26 rfl) ?_
          refine x_aload 1 C rfl (dX7_constrain_p0 27 rfl) ?_
          refine gX0_4 (b := b2 + 11) C (s_kd hb2) (s_lt hb2) (s_m4 hb2) tw_61 (dX7_constrain_p0 28 rfl) ?_
          refine x_iload_n 4 C rfl (dX7_constrain_p0 29 rfl) ?_
          obtain ⟨h9, hp⟩ := hp
          refine x_aald (c := 13) (b := (b2 + 11) + 1 + ix p2) C (s_kd4 hb2) (by decide) rfl rfl (s_lt4 hb2) (vp_ln (s_ln4 hb2) h9) (row_mr13 (s_kd4 hb2) (s_lt4 hb2) (vp_ln (s_ln4 hb2) h9)) (dX7_constrain_p0 30 rfl) ?_
          refine x_iload_n 5 C rfl (dX7_constrain_p0 31 rfl) ?_
          refine x_iload 6 C rfl (dX7_constrain_p0 32 rfl) ?_
          obtain ⟨h10, hp⟩ := hp
          refine x_iast C (row_kd13 (s_kd4 hb2) (s_lt4 hb2) (vp_ln (s_ln4 hb2) h9)) (row_lt13 (s_kd4 hb2) (s_lt4 hb2) (vp_ln (s_ln4 hb2) h9)) (vp_ln ((row_ln13 (s_kd4 hb2) (s_lt4 hb2) (vp_ln (s_ln4 hb2) h9)).trans (s_iln4 hb2)) h10) (dX7_constrain_p0 33 rfl) ?_
          refine x_nmS (fun s11 es11 => ?_)
          have hp := hp s11 es11
          refine x_iload 0 C rfl (dX7_constrain_p0 34 rfl) ?_
          exact hret _ _ _ _ (dX7_constrain_p0 35 rfl) (nar_i _) hp
        · have hp := hp.2 hc
          refine x_ldc C tw_269 (dX7_constrain_p0 18 rfl) ?_
          exact hret _ _ _ _ (dX7_constrain_p0 19 rfl) (nar_i _) hp
    · have hp := hp.1 hc
      refine x_ldc C tw_326 (dX7_constrain_p0 11 rfl) ?_
      exact hret _ _ _ _ (dX7_constrain_p0 12 rfl) (nar_i _) hp)
def P_X7_correct (p1 : Int32) (σ : St) (K : Int32 → St → Prop) : Prop := P_X7_find p1 σ (fun r3 s1 => (r3 = none → (K (-1000001) s1)) ∧ (∀ b2 : Nat, r3 = some b2 → sOk b2 ∧ P_X7_rankTrees b2 1 s1 (fun s4 => ((s4.1 126 9) = 0 → (K (-1000004) s4)) ∧ (¬ ((s4.1 126 9) = 0) → P_X7_countAgreeing b2 s4 (fun r6 s5 => K r6 s5)))))
set_option maxHeartbeats 4000000 in
set_option maxRecDepth 100000 in
theorem m_X7_correct (l : Launch) (ad : Nat → Nat) (D : va_G) (ca : Nat → ClassId) (had : adOk ad) (p1 : Int32)  (σ : St) (K : Int32 → St → Prop) (hp : P_X7_correct p1 σ K) : CtI l ad D ca yX7_correct cX7_correct 3 .int 13 [.ref (ad 0), .int p1] σ K := CtI_of (av := fun ad => [.ref (ad 0), .int p1]) (plainFor_of_name (by decide)) had (Nat.le_of_ble_eq_true rfl) (fun κ C hret => by
  have C : Ok κ RX7 cX7_correct 3 13 := C
  show GG κ 0 [(0, .ref (kad κ 0)), (1, .int p1)] [] σ
  unfold P_X7_correct at hp
  refine x_aload_n 0 C rfl (dX7_correct_p0 0 rfl) ?_
  refine x_iload_n 1 C rfl (dX7_correct_p0 1 rfl) ?_
  refine x_cvQ (As := [.int p1]) (st := []) C LRX7_101 (ci := 7) rfl rfl (by decide) (by decide) (m_X7_find (kL κ) (kad κ) (kD κ) (kca κ) C.ado p1  σ _ hp) rfl (by decide) rfl (Nat.le_of_ble_eq_true rfl) (dX7_correct_p0 2 rfl) (fun s1 hp => ?_) (fun b2 s1 hp => ?_)
  · have hp := hp.1 rfl
    refine x_astore_nN (loc' := [(2, .null), (0, .ref (kad κ 0)), (1, .int p1)]) C rfl (by decide) rfl (dX7_correct_p0 3 rfl) ?_
    refine x_aload_nN 0 C rfl (dX7_correct_p0 4 rfl) ?_
    refine x_ifnonnullN C (dX7_correct_p0 5 rfl) ?_
    refine x_ldc C tw_326 (dX7_correct_p0 6 rfl) ?_
    exact hret _ _ _ _ (dX7_correct_p0 7 rfl) (nar_i _) hp
  · obtain ⟨hb2, hp⟩ := hp.2 b2 rfl
    refine x_astore_n (loc' := [(2, .ref (kad κ b2)), (0, .ref (kad κ 0)), (1, .int p1)]) C rfl (by decide) rfl (dX7_correct_p0 3 rfl) ?_
    refine x_aload_n 0 C rfl (dX7_correct_p0 4 rfl) ?_
    refine x_ifnonnull (tgt := 13) C (dX7_correct_p0 5 rfl) (by decide) ?_
    refine x_aload_n 1 C rfl (dX7_correct_p0 8 rfl) ?_
    refine x_aload_n 0 C rfl (dX7_correct_p0 9 rfl) ?_
    refine x_iconst (v := 1) C (by decide) (dX7_correct_p0 10 rfl) ?_
    refine x_cvV (As := [.ref (kad κ b2), .int 1]) (st := []) C LRX7_129 (ci := 7) rfl rfl (by decide) (by decide) (m_X7_rankTrees (kL κ) (kad κ) (kD κ) (kca κ) C.ado b2 1 hb2 s1 _ hp) rfl (by decide) rfl (Nat.le_of_ble_eq_true rfl) (dX7_correct_p0 11 rfl) (fun s4 hp => ?_)
    refine x_aload_n 1 C rfl (dX7_correct_p0 12 rfl) ?_
    refine gX7_7 (b := 126) C rfl (by decide) rfl tw_241 (dX7_correct_p0 13 rfl) ?_
    refine gX4_9 C rfl (by decide) tw_133 (dX7_correct_p0 14 rfl) ?_
    refine x_if_ne (tgt := 34) C (dX7_correct_p0 15 rfl) (by decide) (fun hc => ?_) (fun hc => ?_)
    · have hp := hp.2 hc
      refine x_aload_n 1 C rfl (dX7_correct_p0 18 rfl) ?_
      refine x_aload_n 0 C rfl (dX7_correct_p0 19 rfl) ?_
      refine x_cvI (As := [.ref (kad κ b2)]) (st := []) C LRX7_136 (ci := 7) rfl rfl (by decide) (by decide) (m_X7_countAgreeing (kL κ) (kad κ) (kD κ) (kca κ) C.ado b2 hb2 s4 _ hp) rfl (by decide) rfl (Nat.le_of_ble_eq_true rfl) (dX7_correct_p0 20 rfl) (fun r6 s5 hp => ?_)
      exact hret _ _ _ _ (dX7_correct_p0 21 rfl) (nar_i _) hp
    · have hp := hp.1 hc
      refine x_ldc C tw_299 (dX7_correct_p0 16 rfl) ?_
      refine x_goto (tgt := 39) C (dX7_correct_p0 17 rfl) (by decide) ?_
      exact hret _ _ _ _ (dX7_correct_p0 21 rfl) (nar_i _) hp)
def P_X7_crossings (p1 : Int32) (σ : St) (K : Int32 → St → Prop) : Prop := P_X7_find p1 σ (fun r3 s1 => (r3 = none → (K (-1000001) s1)) ∧ (∀ b2 : Nat, r3 = some b2 → sOk b2 ∧ P_X7_countCrossings b2 s1 (fun r5 s4 => K r5 s4)))
set_option maxHeartbeats 4000000 in
set_option maxRecDepth 100000 in
theorem m_X7_crossings (l : Launch) (ad : Nat → Nat) (D : va_G) (ca : Nat → ClassId) (had : adOk ad) (p1 : Int32)  (σ : St) (K : Int32 → St → Prop) (hp : P_X7_crossings p1 σ K) : CtI l ad D ca yX7_crossings cX7_crossings 3 .int 2 [.ref (ad 0), .int p1] σ K := CtI_of (av := fun ad => [.ref (ad 0), .int p1]) (plainFor_of_name (by decide)) had (Nat.le_of_ble_eq_true rfl) (fun κ C hret => by
  have C : Ok κ RX7 cX7_crossings 3 2 := C
  show GG κ 0 [(0, .ref (kad κ 0)), (1, .int p1)] [] σ
  unfold P_X7_crossings at hp
  refine x_aload_n 0 C rfl (dX7_crossings_p0 0 rfl) ?_
  refine x_iload_n 1 C rfl (dX7_crossings_p0 1 rfl) ?_
  refine x_cvQ (As := [.int p1]) (st := []) C LRX7_101 (ci := 7) rfl rfl (by decide) (by decide) (m_X7_find (kL κ) (kad κ) (kD κ) (kca κ) C.ado p1  σ _ hp) rfl (by decide) rfl (Nat.le_of_ble_eq_true rfl) (dX7_crossings_p0 2 rfl) (fun s1 hp => ?_) (fun b2 s1 hp => ?_)
  · have hp := hp.1 rfl
    refine x_astore_nN (loc' := [(2, .null), (0, .ref (kad κ 0)), (1, .int p1)]) C rfl (by decide) rfl (dX7_crossings_p0 3 rfl) ?_
    refine x_aload_nN 0 C rfl (dX7_crossings_p0 4 rfl) ?_
    refine x_ifnonnullN C (dX7_crossings_p0 5 rfl) ?_
    refine x_ldc C tw_326 (dX7_crossings_p0 6 rfl) ?_
    refine x_goto (tgt := 19) C (dX7_crossings_p0 7 rfl) (by decide) ?_
    exact hret _ _ _ _ (dX7_crossings_p0 10 rfl) (nar_i _) hp
  · obtain ⟨hb2, hp⟩ := hp.2 b2 rfl
    refine x_astore_n (loc' := [(2, .ref (kad κ b2)), (0, .ref (kad κ 0)), (1, .int p1)]) C rfl (by decide) rfl (dX7_crossings_p0 3 rfl) ?_
    refine x_aload_n 0 C rfl (dX7_crossings_p0 4 rfl) ?_
    refine x_ifnonnull (tgt := 15) C (dX7_crossings_p0 5 rfl) (by decide) ?_
    refine x_aload_n 0 C rfl (dX7_crossings_p0 8 rfl) ?_
    refine x_csI (As := [.ref (kad κ b2)]) (st := []) C LRX7_220 (m_X7_countCrossings (kL κ) (kad κ) (kD κ) (kca κ) C.ado b2 hb2 s1 _ hp) rfl (by decide) rfl (Nat.le_of_ble_eq_true rfl) (dX7_crossings_p0 9 rfl) (fun r5 s4 hp => ?_)
    exact hret _ _ _ _ (dX7_crossings_p0 10 rfl) (nar_i _) hp)
def P_X7_depth (p1 : Int32) (p2 : Int32) (σ : St) (K : Int32 → St → Prop) : Prop := P_X7_find p1 σ (fun r3 s1 => (r3 = none → (K (-1000001) s1)) ∧ (∀ b2 : Nat, r3 = some b2 → sOk b2 ∧ P_X0_hasWord b2 p2 s1 (fun r5 s4 => (r5 = 0 → (K (-1000001) s4)) ∧ (¬ (r5 = 0) → (P_X7_countStepsToRoot (b2 + 2) (s4.1 b2 0) p2 s4 (fun r7 s6 => K r7 s6))))))
set_option maxHeartbeats 4000000 in
set_option maxRecDepth 100000 in
theorem m_X7_depth (l : Launch) (ad : Nat → Nat) (D : va_G) (ca : Nat → ClassId) (had : adOk ad) (p1 : Int32) (p2 : Int32)  (σ : St) (K : Int32 → St → Prop) (hp : P_X7_depth p1 p2 σ K) : CtI l ad D ca yX7_depth cX7_depth 4 .int 1 [.ref (ad 0), .int p1, .int p2] σ K := CtI_of (av := fun ad => [.ref (ad 0), .int p1, .int p2]) (plainFor_of_name (by decide)) had (Nat.le_of_ble_eq_true rfl) (fun κ C hret => by
  have C : Ok κ RX7 cX7_depth 4 1 := C
  show GG κ 0 [(0, .ref (kad κ 0)), (1, .int p1), (2, .int p2)] [] σ
  unfold P_X7_depth at hp
  refine x_aload_n 0 C rfl (dX7_depth_p0 0 rfl) ?_
  refine x_iload_n 1 C rfl (dX7_depth_p0 1 rfl) ?_
  refine x_cvQ (As := [.int p1]) (st := []) C LRX7_101 (ci := 7) rfl rfl (by decide) (by decide) (m_X7_find (kL κ) (kad κ) (kD κ) (kca κ) C.ado p1  σ _ hp) rfl (by decide) rfl (Nat.le_of_ble_eq_true rfl) (dX7_depth_p0 2 rfl) (fun s1 hp => ?_) (fun b2 s1 hp => ?_)
  · have hp := hp.1 rfl
    refine x_astore_nN (loc' := [(3, .null), (0, .ref (kad κ 0)), (1, .int p1), (2, .int p2)]) C rfl (by decide) rfl (dX7_depth_p0 3 rfl) ?_
    refine x_aload_nN 0 C rfl (dX7_depth_p0 4 rfl) ?_
    refine x_ifnullN (tgt := 18) C (dX7_depth_p0 5 rfl) (by decide) ?_
    refine x_ldc C tw_326 (dX7_depth_p0 10 rfl) ?_
    refine x_goto (tgt := 35) C (dX7_depth_p0 11 rfl) (by decide) ?_
    exact hret _ _ _ _ (dX7_depth_p0 18 rfl) (nar_i _) hp
  · obtain ⟨hb2, hp⟩ := hp.2 b2 rfl
    refine x_astore_n (loc' := [(3, .ref (kad κ b2)), (0, .ref (kad κ 0)), (1, .int p1), (2, .int p2)]) C rfl (by decide) rfl (dX7_depth_p0 3 rfl) ?_
    refine x_aload_n 0 C rfl (dX7_depth_p0 4 rfl) ?_
    refine x_ifnull C (dX7_depth_p0 5 rfl) ?_
    refine x_aload_n 0 C rfl (dX7_depth_p0 6 rfl) ?_
    refine x_iload_n 3 C rfl (dX7_depth_p0 7 rfl) ?_
    refine x_cvI (As := [.int p2]) (st := []) C LRX7_112 (ci := 0) rfl (s_kd hb2) (by decide) (s_lt hb2) (m_X0_hasWord (kL κ) (kad κ) (kD κ) (kca κ) C.ado b2 p2 hb2 s1 _ hp) rfl (by decide) rfl (Nat.le_of_ble_eq_true rfl) (dX7_depth_p0 8 rfl) (fun r5 s4 hp => ?_)
    refine x_if_ne (tgt := 23) C (dX7_depth_p0 9 rfl) (by decide) (fun hc => ?_) (fun hc => ?_)
    · have hp := hp.2 hc
      refine x_aload_n 0 C rfl (dX7_depth_p0 12 rfl) ?_
      refine gX0_2 (b := b2 + 2) C (s_kd hb2) (s_lt hb2) (s_m2 hb2) tw_57 (dX7_depth_p0 13 rfl) ?_
      refine x_aload_n 0 C rfl (dX7_depth_p0 14 rfl) ?_
      refine gX0_0 C (s_kd hb2) (s_lt hb2) tw_51 (dX7_depth_p0 15 rfl) ?_
      refine x_iload_n 3 C rfl (dX7_depth_p0 16 rfl) ?_
      refine x_csI (As := [.ref (kad κ (b2 + 2)), .int (s4.1 b2 0), .int p2]) (st := []) C LRX7_223 (m_X7_countStepsToRoot (kL κ) (kad κ) (kD κ) (kca κ) C.ado (b2 + 2) (s4.1 b2 0) p2 (s_kd2 hb2) (s_lt2 hb2) s4 _ hp) rfl (by decide) rfl (Nat.le_of_ble_eq_true rfl) (dX7_depth_p0 17 rfl) (fun r7 s6 hp => ?_)
      exact hret _ _ _ _ (dX7_depth_p0 18 rfl) (nar_i _) hp
    · have hp := hp.1 hc
      refine x_ldc C tw_326 (dX7_depth_p0 10 rfl) ?_
      refine x_goto (tgt := 35) C (dX7_depth_p0 11 rfl) (by decide) ?_
      exact hret _ _ _ _ (dX7_depth_p0 18 rfl) (nar_i _) hp)
def J_X7_isDistance_9 (K : Int32 → St → Prop)  (u1 : Int32) (σ : St) : Prop := (u1 < 1 → (K 0 σ)) ∧ (¬ (u1 < 1) → ((6 < u1 → (K 0 σ)) ∧ (¬ (6 < u1) → (K 1 σ))))
set_option maxHeartbeats 4000000 in
set_option maxRecDepth 100000 in
theorem J_X7_isDistance_9_w {κ : Kap} {K : Int32 → St → Prop}  (C : Ok κ RX7 cX7_isDistance 2 0) (hret : RetI κ cX7_isDistance .boolean K) (u1 : Int32)  (σ : St)  (hp : J_X7_isDistance_9 K  u1 σ) : GG κ 9 [(1, .int u1)] [] σ := by
  unfold J_X7_isDistance_9 at hp
  refine x_iload_n 0 C rfl (dX7_isDistance_p0 5 rfl) ?_
  refine x_iconst (v := 1) C (by decide) (dX7_isDistance_p0 6 rfl) ?_
  refine x_icmp_lt (tgt := 24) C (dX7_isDistance_p0 7 rfl) (by decide) (fun hc => ?_) (fun hc => ?_)
  · have hp := hp.1 hc
    refine x_iconst (v := 0) C (by decide) (dX7_isDistance_p0 13 rfl) ?_
    exact hret _ _ _ _ (dX7_isDistance_p0 14 rfl) (nar_z isB0) hp
  · have hp := hp.2 hc
    refine x_iload_n 0 C rfl (dX7_isDistance_p0 8 rfl) ?_
    refine x_bipush (v := 6) C (by decide) (dX7_isDistance_p0 9 rfl) ?_
    refine x_icmp_gt (tgt := 24) C (dX7_isDistance_p0 10 rfl) (by decide) (fun hc => ?_) (fun hc => ?_)
    · have hp := hp.1 hc
      refine x_iconst (v := 0) C (by decide) (dX7_isDistance_p0 13 rfl) ?_
      exact hret _ _ _ _ (dX7_isDistance_p0 14 rfl) (nar_z isB0) hp
    · have hp := hp.2 hc
      refine x_iconst (v := 1) C (by decide) (dX7_isDistance_p0 11 rfl) ?_
      refine x_goto (tgt := 25) C (dX7_isDistance_p0 12 rfl) (by decide) ?_
      exact hret _ _ _ _ (dX7_isDistance_p0 14 rfl) (nar_z isB1) hp
def P_X7_isDistance (p0 : Int32) (p1 : Int32) (σ : St) (K : Int32 → St → Prop) : Prop := (p0 = 0 → (J_X7_isDistance_9 K  p1 σ)) ∧ (¬ (p0 = 0) → ((p0 = 1 → (J_X7_isDistance_9 K  p1 σ)) ∧ (¬ (p0 = 1) → (K 0 σ))))
set_option maxHeartbeats 4000000 in
set_option maxRecDepth 100000 in
theorem m_X7_isDistance (l : Launch) (ad : Nat → Nat) (D : va_G) (ca : Nat → ClassId) (had : adOk ad) (p0 : Int32) (p1 : Int32)  (σ : St) (K : Int32 → St → Prop) (hp : P_X7_isDistance p0 p1 σ K) : CtI l ad D ca yX7_isDistance cX7_isDistance 2 .boolean 0 [.int p0, .int p1] σ K := CtI_of (av := fun ad => [.int p0, .int p1]) (plainFor_of_name (by decide)) had (Nat.le_of_ble_eq_true rfl) (fun κ C hret => by
  have C : Ok κ RX7 cX7_isDistance 2 0 := C
  show GG κ 0 [(0, .int p0), (1, .int p1)] [] σ
  unfold P_X7_isDistance at hp
  refine x_iload_n 0 C rfl (dX7_isDistance_p0 0 rfl) ?_
  refine x_if_eq (tgt := 9) C (dX7_isDistance_p0 1 rfl) (by decide) (fun hc => ?_) (fun hc => ?_)
  · have hp := hp.1 hc
    refine x_loc (loc' := [(1, .int p1)]) [1] rfl ?_
    exact J_X7_isDistance_9_w C hret p1  σ  hp
  · have hp := hp.2 hc
    refine x_iload_n 0 C rfl (dX7_isDistance_p0 2 rfl) ?_
    refine x_iconst (v := 1) C (by decide) (dX7_isDistance_p0 3 rfl) ?_
    refine x_icmp_ne (tgt := 24) C (dX7_isDistance_p0 4 rfl) (by decide) (fun hc => ?_) (fun hc => ?_)
    · have hp := hp.2 hc
      refine x_iconst (v := 0) C (by decide) (dX7_isDistance_p0 13 rfl) ?_
      exact hret _ _ _ _ (dX7_isDistance_p0 14 rfl) (nar_z isB0) hp
    · have hp := hp.1 hc
      refine x_loc (loc' := [(1, .int p1)]) [1] rfl ?_
      exact J_X7_isDistance_9_w C hret p1  σ  hp)
def P_X7_distanceWeight (p1 : Int32) (p2 : Int32) (σ : St) (K : Int32 → St → Prop) : Prop := P_X7_isDistance p1 p2 σ (fun r2 s1 => (r2 = 0 → (K (-1000001) s1)) ∧ (¬ (r2 = 0) → vp_in p1 2 ∧ vp_in p2 7 ∧ (K (s1.1 ((81 + 11) + 1 + ix p1) (ix p2)) s1)))
set_option maxHeartbeats 4000000 in
set_option maxRecDepth 100000 in
theorem m_X7_distanceWeight (l : Launch) (ad : Nat → Nat) (D : va_G) (ca : Nat → ClassId) (had : adOk ad) (p1 : Int32) (p2 : Int32)  (σ : St) (K : Int32 → St → Prop) (hp : P_X7_distanceWeight p1 p2 σ K) : CtI l ad D ca yX7_distanceWeight cX7_distanceWeight 3 .int 1 [.ref (ad 0), .int p1, .int p2] σ K := CtI_of (av := fun ad => [.ref (ad 0), .int p1, .int p2]) (plainFor_of_name (by decide)) had (Nat.le_of_ble_eq_true rfl) (fun κ C hret => by
  have C : Ok κ RX7 cX7_distanceWeight 3 1 := C
  show GG κ 0 [(0, .ref (kad κ 0)), (1, .int p1), (2, .int p2)] [] σ
  unfold P_X7_distanceWeight at hp
  refine x_iload_n 1 C rfl (dX7_distanceWeight_p0 0 rfl) ?_
  refine x_iload_n 2 C rfl (dX7_distanceWeight_p0 1 rfl) ?_
  refine x_csI (As := [.int p1, .int p2]) (st := []) C LRX7_154 (m_X7_isDistance (kL κ) (kad κ) (kD κ) (kca κ) C.ado p1 p2  σ _ hp) rfl (by decide) rfl (Nat.le_of_ble_eq_true rfl) (dX7_distanceWeight_p0 2 rfl) (fun r2 s1 hp => ?_)
  refine x_if_eq (tgt := 22) C (dX7_distanceWeight_p0 3 rfl) (by decide) (fun hc => ?_) (fun hc => ?_)
  · have hp := hp.1 hc
    refine x_ldc C tw_326 (dX7_distanceWeight_p0 12 rfl) ?_
    exact hret _ _ _ _ (dX7_distanceWeight_p0 13 rfl) (nar_i _) hp
  · have hp := hp.2 hc
    refine x_aload_n 0 C rfl (dX7_distanceWeight_p0 4 rfl) ?_
    refine gX7_3 (b := 81) C rfl (by decide) rfl tw_237 (dX7_distanceWeight_p0 5 rfl) ?_
    refine gX6_1 (b := 81 + 11) C (w_kd (Or.inl rfl)) (w_lt (Or.inl rfl)) (w_m1 (Or.inl rfl)) tw_83 (dX7_distanceWeight_p0 6 rfl) ?_
    refine x_iload_n 1 C rfl (dX7_distanceWeight_p0 7 rfl) ?_
    obtain ⟨h3, hp⟩ := hp
    refine x_aald (c := 13) (b := (81 + 11) + 1 + ix p1) C (w_kd1 (Or.inl rfl)) (by decide) rfl rfl (w_lt1 (Or.inl rfl)) (vp_ln (w_ln1 (Or.inl rfl)) h3) (row_mr13 (w_kd1 (Or.inl rfl)) (w_lt1 (Or.inl rfl)) (vp_ln (w_ln1 (Or.inl rfl)) h3)) (dX7_distanceWeight_p0 8 rfl) ?_
    refine x_iload_n 2 C rfl (dX7_distanceWeight_p0 9 rfl) ?_
    obtain ⟨h4, hp⟩ := hp
    refine x_iald C (row_kd13 (w_kd1 (Or.inl rfl)) (w_lt1 (Or.inl rfl)) (vp_ln (w_ln1 (Or.inl rfl)) h3)) (row_lt13 (w_kd1 (Or.inl rfl)) (w_lt1 (Or.inl rfl)) (vp_ln (w_ln1 (Or.inl rfl)) h3)) (vp_ln ((row_ln13 (w_kd1 (Or.inl rfl)) (w_lt1 (Or.inl rfl)) (vp_ln (w_ln1 (Or.inl rfl)) h3)).trans (w_iln1 (Or.inl rfl))) h4) (dX7_distanceWeight_p0 10 rfl) ?_
    refine x_goto (tgt := 24) C (dX7_distanceWeight_p0 11 rfl) (by decide) ?_
    exact hret _ _ _ _ (dX7_distanceWeight_p0 13 rfl) (nar_i _) hp)
def P_X7_faultPosition  (σ : St) (K : Int32 → St → Prop) : Prop := P_X2_findFault  σ (fun r2 s1 => K r2 s1)
set_option maxHeartbeats 4000000 in
set_option maxRecDepth 100000 in
theorem m_X7_faultPosition (l : Launch) (ad : Nat → Nat) (D : va_G) (ca : Nat → ClassId) (had : adOk ad)   (σ : St) (K : Int32 → St → Prop) (hp : P_X7_faultPosition  σ K) : CtI l ad D ca yX7_faultPosition cX7_faultPosition 1 .int 3 [.ref (ad 0)] σ K := CtI_of (av := fun ad => [.ref (ad 0)]) (plainFor_of_name (by decide)) had (Nat.le_of_ble_eq_true rfl) (fun κ C hret => by
  have C : Ok κ RX7 cX7_faultPosition 1 3 := C
  show GG κ 0 [(0, .ref (kad κ 0))] [] σ
  unfold P_X7_faultPosition at hp
  refine x_aload_n 0 C rfl (dX7_faultPosition_p0 0 rfl) ?_
  refine gX7_0 (b := 1) C rfl (by decide) rfl tw_234 (dX7_faultPosition_p0 1 rfl) ?_
  refine x_cvI (As := []) (st := []) C LRX7_81 (ci := 2) rfl rfl (by decide) (by decide) (m_X2_findFault (kL κ) (kad κ) (kD κ) (kca κ) C.ado   σ _ hp) rfl (by decide) rfl (Nat.le_of_ble_eq_true rfl) (dX7_faultPosition_p0 2 rfl) (fun r2 s1 hp => ?_)
  exact hret _ _ _ _ (dX7_faultPosition_p0 3 rfl) (nar_i _) hp)
def P_X7_isTagPair (p0 : Int32) (p1 : Int32) (σ : St) (K : Int32 → St → Prop) : Prop := (p0 < 0 → (K 0 σ)) ∧ (¬ (p0 < 0) → ((8 < p0 → (K 0 σ)) ∧ (¬ (8 < p0) → ((p1 < 0 → (K 0 σ)) ∧ (¬ (p1 < 0) → ((8 ≤ p1 → (K 0 σ)) ∧ (¬ (8 ≤ p1) → (K 1 σ))))))))
set_option maxHeartbeats 4000000 in
set_option maxRecDepth 100000 in
theorem m_X7_isTagPair (l : Launch) (ad : Nat → Nat) (D : va_G) (ca : Nat → ClassId) (had : adOk ad) (p0 : Int32) (p1 : Int32)  (σ : St) (K : Int32 → St → Prop) (hp : P_X7_isTagPair p0 p1 σ K) : CtI l ad D ca yX7_isTagPair cX7_isTagPair 2 .boolean 0 [.int p0, .int p1] σ K := CtI_of (av := fun ad => [.int p0, .int p1]) (plainFor_of_name (by decide)) had (Nat.le_of_ble_eq_true rfl) (fun κ C hret => by
  have C : Ok κ RX7 cX7_isTagPair 2 0 := C
  show GG κ 0 [(0, .int p0), (1, .int p1)] [] σ
  unfold P_X7_isTagPair at hp
  refine x_iload_n 0 C rfl (dX7_isTagPair_p0 0 rfl) ?_
  refine x_if_lt (tgt := 24) C (dX7_isTagPair_p0 1 rfl) (by decide) (fun hc => ?_) (fun hc => ?_)
  · have hp := hp.1 hc
    refine x_iconst (v := 0) C (by decide) (dX7_isTagPair_p0 12 rfl) ?_
    exact hret _ _ _ _ (dX7_isTagPair_p0 13 rfl) (nar_z isB0) hp
  · have hp := hp.2 hc
    refine x_iload_n 0 C rfl (dX7_isTagPair_p0 2 rfl) ?_
    refine x_bipush (v := 8) C (by decide) (dX7_isTagPair_p0 3 rfl) ?_
    refine x_icmp_gt (tgt := 24) C (dX7_isTagPair_p0 4 rfl) (by decide) (fun hc => ?_) (fun hc => ?_)
    · have hp := hp.1 hc
      refine x_iconst (v := 0) C (by decide) (dX7_isTagPair_p0 12 rfl) ?_
      exact hret _ _ _ _ (dX7_isTagPair_p0 13 rfl) (nar_z isB0) hp
    · have hp := hp.2 hc
      refine x_iload_n 1 C rfl (dX7_isTagPair_p0 5 rfl) ?_
      refine x_if_lt (tgt := 24) C (dX7_isTagPair_p0 6 rfl) (by decide) (fun hc => ?_) (fun hc => ?_)
      · have hp := hp.1 hc
        refine x_iconst (v := 0) C (by decide) (dX7_isTagPair_p0 12 rfl) ?_
        exact hret _ _ _ _ (dX7_isTagPair_p0 13 rfl) (nar_z isB0) hp
      · have hp := hp.2 hc
        refine x_iload_n 1 C rfl (dX7_isTagPair_p0 7 rfl) ?_
        refine x_bipush (v := 8) C (by decide) (dX7_isTagPair_p0 8 rfl) ?_
        refine x_icmp_ge (tgt := 24) C (dX7_isTagPair_p0 9 rfl) (by decide) (fun hc => ?_) (fun hc => ?_)
        · have hp := hp.1 hc
          refine x_iconst (v := 0) C (by decide) (dX7_isTagPair_p0 12 rfl) ?_
          exact hret _ _ _ _ (dX7_isTagPair_p0 13 rfl) (nar_z isB0) hp
        · have hp := hp.2 hc
          refine x_iconst (v := 1) C (by decide) (dX7_isTagPair_p0 10 rfl) ?_
          refine x_goto (tgt := 25) C (dX7_isTagPair_p0 11 rfl) (by decide) ?_
          exact hret _ _ _ _ (dX7_isTagPair_p0 13 rfl) (nar_z isB1) hp)
def P_X7_isWithin (p0 : Int32) (p1 : Int32) (σ : St) (K : Int32 → St → Prop) : Prop := (p0 < (-p1) → (K 0 σ)) ∧ (¬ (p0 < (-p1)) → ((p1 < p0 → (K 0 σ)) ∧ (¬ (p1 < p0) → (K 1 σ))))
set_option maxHeartbeats 4000000 in
set_option maxRecDepth 100000 in
theorem m_X7_isWithin (l : Launch) (ad : Nat → Nat) (D : va_G) (ca : Nat → ClassId) (had : adOk ad) (p0 : Int32) (p1 : Int32)  (σ : St) (K : Int32 → St → Prop) (hp : P_X7_isWithin p0 p1 σ K) : CtI l ad D ca yX7_isWithin cX7_isWithin 2 .boolean 0 [.int p0, .int p1] σ K := CtI_of (av := fun ad => [.int p0, .int p1]) (plainFor_of_name (by decide)) had (Nat.le_of_ble_eq_true rfl) (fun κ C hret => by
  have C : Ok κ RX7 cX7_isWithin 2 0 := C
  show GG κ 0 [(0, .int p0), (1, .int p1)] [] σ
  unfold P_X7_isWithin at hp
  refine x_iload_n 0 C rfl (dX7_isWithin_p0 0 rfl) ?_
  refine x_iload_n 1 C rfl (dX7_isWithin_p0 1 rfl) ?_
  refine x_ineg C (dX7_isWithin_p0 2 rfl) ?_
  refine x_icmp_lt (tgt := 15) C (dX7_isWithin_p0 3 rfl) (by decide) (fun hc => ?_) (fun hc => ?_)
  · have hp := hp.1 hc
    refine x_iconst (v := 0) C (by decide) (dX7_isWithin_p0 9 rfl) ?_
    exact hret _ _ _ _ (dX7_isWithin_p0 10 rfl) (nar_z isB0) hp
  · have hp := hp.2 hc
    refine x_iload_n 0 C rfl (dX7_isWithin_p0 4 rfl) ?_
    refine x_iload_n 1 C rfl (dX7_isWithin_p0 5 rfl) ?_
    refine x_icmp_gt (tgt := 15) C (dX7_isWithin_p0 6 rfl) (by decide) (fun hc => ?_) (fun hc => ?_)
    · have hp := hp.1 hc
      refine x_iconst (v := 0) C (by decide) (dX7_isWithin_p0 9 rfl) ?_
      exact hret _ _ _ _ (dX7_isWithin_p0 10 rfl) (nar_z isB0) hp
    · have hp := hp.2 hc
      refine x_iconst (v := 1) C (by decide) (dX7_isWithin_p0 7 rfl) ?_
      refine x_goto (tgt := 16) C (dX7_isWithin_p0 8 rfl) (by decide) ?_
      exact hret _ _ _ _ (dX7_isWithin_p0 10 rfl) (nar_z isB1) hp)
def F_X7_learn_23 (K : Int32 → St → Prop) (c23 : (Int32 × Int32 × St) → Prop) (u1 : Nat) (u2 : Int32) (u3 : Int32) (σ : St) : Prop := ((σ.1 u1 0) < u3 → (K u2 σ)) ∧ (¬ ((σ.1 u1 0) < u3) → P_X4_headAt 0 u3 σ (fun r3 s2 => vp_in u3 7 ∧ ((r3 = (s2.1 (u1 + 2) (ix u3)) → ∀ v5 : Int32, v5 = u3 + 1 → c23 (u2, v5, s2)) ∧ (¬ (r3 = (s2.1 (u1 + 2) (ix u3))) → vp_in u3 7 ∧ (P_X6_nudge 81 u1 (s2.1 (u1 + 2) (ix u3)) u3 1 s2 (fun s7 => P_X6_nudge 81 u1 r3 u3 (-1) s7 (fun s8 => ∀ v9 : Int32, v9 = u2 + 1 → ∀ v10 : Int32, v10 = u3 + 1 → c23 (v9, v10, s8))))))))
set_option maxHeartbeats 4000000 in
set_option maxRecDepth 100000 in
theorem F_X7_learn_23_w {κ : Kap} {K : Int32 → St → Prop} {c23 : (Int32 × Int32 × St) → Prop} (C : Ok κ RX7 cX7_learn 5 13) (hret : RetI κ cX7_learn .int K) (u1 : Nat) (u2 : Int32) (u3 : Int32)  (hu1 : sOk u1)   (σ : St) (hc23 : ∀ (u2 : Int32) (u3 : Int32) (σ : St), c23 (u2, u3, σ) → GG κ 23 [(0, .ref (kad κ 0)), (1, .ref (kad κ u1)), (2, .int u2), (3, .int u3)] [] σ) (hp : F_X7_learn_23 K c23 u1 u2 u3 σ) : GG κ 23 [(0, .ref (kad κ 0)), (1, .ref (kad κ u1)), (2, .int u2), (3, .int u3)] [] σ := by
  unfold F_X7_learn_23 at hp
  refine x_iload_n 3 C rfl (dX7_learn_p0 14 rfl) ?_
  refine x_aload_n 1 C rfl (dX7_learn_p0 15 rfl) ?_
  refine gX0_0 C (s_kd hu1) (s_lt hu1) tw_51 (dX7_learn_p0 16 rfl) ?_
  refine x_icmp_gt (tgt := 90) C (dX7_learn_p0 17 rfl) (by decide) (fun hc => ?_) (fun hc => ?_)
  · have hp := hp.1 hc
    refine x_iload_n 2 C rfl (dX7_learn_p0 50 rfl) ?_
    exact hret _ _ _ _ (dX7_learn_p0 51 rfl) (nar_i _) hp
  · have hp := hp.2 hc
    refine x_aload_n 0 C rfl (dX7_learn_p0 18 rfl) ?_
    refine gX7_7 (b := 126) C rfl (by decide) rfl tw_241 (dX7_learn_p0 19 rfl) ?_
    refine x_iconst (v := 0) C (by decide) (dX7_learn_p0 20 rfl) ?_
    refine x_iload_n 3 C rfl (dX7_learn_p0 21 rfl) ?_
    refine x_cvI (As := [.int 0, .int u3]) (st := []) C LRX7_140 (ci := 4) rfl rfl (by decide) (by decide) (m_X4_headAt (kL κ) (kad κ) (kD κ) (kca κ) C.ado 0 u3  σ _ hp) rfl (by decide) rfl (Nat.le_of_ble_eq_true rfl) (dX7_learn_p0 22 rfl) (fun r3 s2 hp => ?_)
    refine x_istore (loc' := [(4, .int r3), (0, .ref (kad κ 0)), (1, .ref (kad κ u1)), (2, .int u2), (3, .int u3)]) C (by decide) rfl (dX7_learn_p0 23 rfl) ?_
    refine x_iload 0 C rfl (dX7_learn_p0 24 rfl) ?_
    refine x_aload_n 2 C rfl (dX7_learn_p0 25 rfl) ?_
    refine gX0_2 (b := u1 + 2) C (s_kd hu1) (s_lt hu1) (s_m2 hu1) tw_57 (dX7_learn_p0 26 rfl) ?_
    refine x_iload_n 4 C rfl (dX7_learn_p0 27 rfl) ?_
    obtain ⟨h4, hp⟩ := hp
    refine x_iald C (s_kd2 hu1) (s_lt2 hu1) (vp_ln (s_ln2 hu1) h4) (dX7_learn_p0 28 rfl) ?_
    refine x_icmp_eq (tgt := 84) C (dX7_learn_p0 29 rfl) (by decide) (fun hc => ?_) (fun hc => ?_)
    · have hp := hp.1 hc
      obtain ⟨v5, ev5⟩ : ∃ z : Int32, z = u3 + 1 := ⟨_, rfl⟩
      have hp := hp v5 ev5
      refine x_iinc (v := v5) (loc' := [(3, .int v5), (4, .int r3), (0, .ref (kad κ 0)), (1, .ref (kad κ u1)), (2, .int u2)]) 4 C rfl (by rw [ev5]; rfl) (by decide) rfl (dX7_learn_p0 48 rfl) ?_
      refine x_goto (tgt := 23) C (dX7_learn_p0 49 rfl) (by decide) ?_
      refine x_loc (loc' := [(0, .ref (kad κ 0)), (1, .ref (kad κ u1)), (2, .int u2), (3, .int v5)]) [2, 3, 4, 0] rfl ?_
      exact hc23 u2 v5 s2 hp
    · have hp := hp.2 hc
      refine x_aload_n 1 C rfl (dX7_learn_p0 30 rfl) ?_
      refine gX7_3 (b := 81) C rfl (by decide) rfl tw_237 (dX7_learn_p0 31 rfl) ?_
      refine x_aload_n 2 C rfl (dX7_learn_p0 32 rfl) ?_
      refine x_aload_n 2 C rfl (dX7_learn_p0 33 rfl) ?_
      refine gX0_2 (b := u1 + 2) C (s_kd hu1) (s_lt hu1) (s_m2 hu1) tw_57 (dX7_learn_p0 34 rfl) ?_
      refine x_iload_n 4 C rfl (dX7_learn_p0 35 rfl) ?_
      obtain ⟨h6, hp⟩ := hp
      refine x_iald C (s_kd2 hu1) (s_lt2 hu1) (vp_ln (s_ln2 hu1) h6) (dX7_learn_p0 36 rfl) ?_
      refine x_iload_n 4 C rfl (dX7_learn_p0 37 rfl) ?_
      refine x_iconst (v := 1) C (by decide) (dX7_learn_p0 38 rfl) ?_
      refine x_cvV (As := [.ref (kad κ u1), .int (s2.1 (u1 + 2) (ix u3)), .int u3, .int 1]) (st := []) C LRX7_310 (ci := 6) rfl (w_kd (Or.inl rfl)) (by decide) (w_lt (Or.inl rfl)) (m_X6_nudge (kL κ) (kad κ) (kD κ) (kca κ) C.ado 81 u1 (s2.1 (u1 + 2) (ix u3)) u3 1 (Or.inl rfl) hu1 s2 _ hp) rfl (by decide) rfl (Nat.le_of_ble_eq_true rfl) (dX7_learn_p0 39 rfl) (fun s7 hp => ?_)
      refine x_aload_n 1 C rfl (dX7_learn_p0 40 rfl) ?_
      refine gX7_3 (b := 81) C rfl (by decide) rfl tw_237 (dX7_learn_p0 41 rfl) ?_
      refine x_aload_n 2 C rfl (dX7_learn_p0 42 rfl) ?_
      refine x_iload 0 C rfl (dX7_learn_p0 43 rfl) ?_
      refine x_iload_n 4 C rfl (dX7_learn_p0 44 rfl) ?_
      refine x_iconst (v := -1) C (by decide) (dX7_learn_p0 45 rfl) ?_
      refine x_cvV (As := [.ref (kad κ u1), .int r3, .int u3, .int (-1)]) (st := []) C LRX7_310 (ci := 6) rfl (w_kd (Or.inl rfl)) (by decide) (w_lt (Or.inl rfl)) (m_X6_nudge (kL κ) (kad κ) (kD κ) (kca κ) C.ado 81 u1 r3 u3 (-1) (Or.inl rfl) hu1 s7 _ hp) rfl (by decide) rfl (Nat.le_of_ble_eq_true rfl) (dX7_learn_p0 46 rfl) (fun s8 hp => ?_)
      obtain ⟨v9, ev9⟩ : ∃ z : Int32, z = u2 + 1 := ⟨_, rfl⟩
      have hp := hp v9 ev9
      refine x_iinc (v := v9) (loc' := [(2, .int v9), (4, .int r3), (0, .ref (kad κ 0)), (1, .ref (kad κ u1)), (3, .int u3)]) 3 C rfl (by rw [ev9]; rfl) (by decide) rfl (dX7_learn_p0 47 rfl) ?_
      obtain ⟨v10, ev10⟩ : ∃ z : Int32, z = u3 + 1 := ⟨_, rfl⟩
      have hp := hp v10 ev10
      refine x_iinc (v := v10) (loc' := [(3, .int v10), (2, .int v9), (4, .int r3), (0, .ref (kad κ 0)), (1, .ref (kad κ u1))]) 4 C rfl (by rw [ev10]; rfl) (by decide) rfl (dX7_learn_p0 48 rfl) ?_
      refine x_goto (tgt := 23) C (dX7_learn_p0 49 rfl) (by decide) ?_
      refine x_loc (loc' := [(0, .ref (kad κ 0)), (1, .ref (kad κ u1)), (2, .int v9), (3, .int v10)]) [3, 4, 1, 0] rfl ?_
      exact hc23 v9 v10 s8 hp
def P_X7_learn (p1 : Nat) (σ : St) (K : Int32 → St → Prop) : Prop := P_X7_rankTrees p1 1 σ (fun s1 => ((s1.1 126 9) = 0 → (K (-1000004) s1)) ∧ (¬ ((s1.1 126 9) = 0) → (LpE (fun c s => F_X7_learn_23 K  c p1 s.1 s.2.1 s.2.2) (0, 1, s1))))
set_option maxHeartbeats 4000000 in
set_option maxRecDepth 100000 in
theorem m_X7_learn (l : Launch) (ad : Nat → Nat) (D : va_G) (ca : Nat → ClassId) (had : adOk ad) (p1 : Nat) (hp1 : sOk p1) (σ : St) (K : Int32 → St → Prop) (hp : P_X7_learn p1 σ K) : CtI l ad D ca yX7_learn cX7_learn 5 .int 13 [.ref (ad 0), .ref (ad p1)] σ K := CtI_of (av := fun ad => [.ref (ad 0), .ref (ad p1)]) (plainFor_of_name (by decide)) had (Nat.le_of_ble_eq_true rfl) (fun κ C hret => by
  have C : Ok κ RX7 cX7_learn 5 13 := C
  show GG κ 0 [(0, .ref (kad κ 0)), (1, .ref (kad κ p1))] [] σ
  unfold P_X7_learn at hp
  refine x_aload_n 0 C rfl (dX7_learn_p0 0 rfl) ?_
  refine x_aload_n 1 C rfl (dX7_learn_p0 1 rfl) ?_
  refine x_iconst (v := 1) C (by decide) (dX7_learn_p0 2 rfl) ?_
  refine x_cvV (As := [.ref (kad κ p1), .int 1]) (st := []) C LRX7_129 (ci := 7) rfl rfl (by decide) (by decide) (m_X7_rankTrees (kL κ) (kad κ) (kD κ) (kca κ) C.ado p1 1 hp1 σ _ hp) rfl (by decide) rfl (Nat.le_of_ble_eq_true rfl) (dX7_learn_p0 3 rfl) (fun s1 hp => ?_)
  refine x_aload_n 0 C rfl (dX7_learn_p0 4 rfl) ?_
  refine gX7_7 (b := 126) C rfl (by decide) rfl tw_241 (dX7_learn_p0 5 rfl) ?_
  refine gX4_9 C rfl (by decide) tw_133 (dX7_learn_p0 6 rfl) ?_
  refine x_if_ne (tgt := 19) C (dX7_learn_p0 7 rfl) (by decide) (fun hc => ?_) (fun hc => ?_)
  · have hp := hp.2 hc
    refine x_iconst (v := 0) C (by decide) (dX7_learn_p0 10 rfl) ?_
    refine x_istore_n (loc' := [(2, .int 0), (0, .ref (kad κ 0)), (1, .ref (kad κ p1))]) C rfl (by decide) rfl (dX7_learn_p0 11 rfl) ?_
    refine x_iconst (v := 1) C (by decide) (dX7_learn_p0 12 rfl) ?_
    refine x_istore_n (loc' := [(3, .int 1), (2, .int 0), (0, .ref (kad κ 0)), (1, .ref (kad κ p1))]) C rfl (by decide) rfl (dX7_learn_p0 13 rfl) ?_
    refine x_loc (loc' := [(0, .ref (kad κ 0)), (1, .ref (kad κ p1)), (2, .int 0), (3, .int 1)]) [2, 3, 1, 0] rfl ?_
    exact LpE_GG (S := (Int32 × Int32 × St)) (F := fun c s => F_X7_learn_23 K  c p1 s.1 s.2.1 s.2.2) (W := fun s => GG κ 23 [(0, .ref (kad κ 0)), (1, .ref (kad κ p1)), (2, .int s.1), (3, .int s.2.1)] [] s.2.2) (fun c s hcc hp => F_X7_learn_23_w C hret p1 s.1 s.2.1 hp1 s.2.2  (fun u2 u3 σ h => hcc (u2, u3, σ) h) hp) hp
  · have hp := hp.1 hc
    refine x_ldc C tw_299 (dX7_learn_p0 8 rfl) ?_
    exact hret _ _ _ _ (dX7_learn_p0 9 rfl) (nar_i _) hp)
def J_X7_margin_56 (K : Int32 → St → Prop)  (u2 : Nat) (t0 : Int32) (σ : St) : Prop := ((σ.1 126 9) ≤ t0 → (K (-1000004) σ)) ∧ (¬ ((σ.1 126 9) ≤ t0) → P_X7_annotationScore u2 σ (fun r6 s5 => P_X4_scoreAt t0 s5 (fun r8 s7 => K (r6 - r8) s7)))
set_option maxHeartbeats 4000000 in
set_option maxRecDepth 100000 in
theorem J_X7_margin_56_w {κ : Kap} {K : Int32 → St → Prop}  (C : Ok κ RX7 cX7_margin 5 13) (hret : RetI κ cX7_margin .int K) (u2 : Nat) (t0 : Int32)  (hu2 : sOk u2)  (σ : St)  (hp : J_X7_margin_56 K  u2 t0 σ) : GG κ 56 [(0, .ref (kad κ 0)), (2, .ref (kad κ u2))] [.int t0] σ := by
  unfold J_X7_margin_56 at hp
  refine x_istore (loc' := [(4, .int t0), (0, .ref (kad κ 0)), (2, .ref (kad κ u2))]) C (by decide) rfl (dX7_margin_p0 31 rfl) ?_
  refine x_iload 0 C rfl (dX7_margin_p0 32 rfl) ?_
  refine x_aload_n 1 C rfl (dX7_margin_p0 33 rfl) ?_
  refine gX7_7 (b := 126) C rfl (by decide) rfl tw_241 (dX7_margin_p0 34 rfl) ?_
  refine gX4_9 C rfl (by decide) tw_133 (dX7_margin_p0 35 rfl) ?_
  refine x_icmp_ge (tgt := 88) C (dX7_margin_p0 36 rfl) (by decide) (fun hc => ?_) (fun hc => ?_)
  · have hp := hp.1 hc
    refine x_ldc C tw_299 (dX7_margin_p0 46 rfl) ?_
    exact hret _ _ _ _ (dX7_margin_p0 47 rfl) (nar_i _) hp
  · have hp := hp.2 hc
    refine x_aload_n 1 C rfl (dX7_margin_p0 37 rfl) ?_
    refine x_aload_n 2 C rfl (dX7_margin_p0 38 rfl) ?_
    refine x_cvI (As := [.ref (kad κ u2)]) (st := []) C LRX7_191 (ci := 7) rfl rfl (by decide) (by decide) (m_X7_annotationScore (kL κ) (kad κ) (kD κ) (kca κ) C.ado u2 hu2 σ _ hp) rfl (by decide) rfl (Nat.le_of_ble_eq_true rfl) (dX7_margin_p0 39 rfl) (fun r6 s5 hp => ?_)
    refine x_aload_n 1 C rfl (dX7_margin_p0 40 rfl) ?_
    refine gX7_7 (b := 126) C rfl (by decide) rfl tw_241 (dX7_margin_p0 41 rfl) ?_
    refine x_iload 0 C rfl (dX7_margin_p0 42 rfl) ?_
    refine x_cvI (As := [.int t0]) (st := [.int r6]) C LRX7_180 (ci := 4) rfl rfl (by decide) (by decide) (m_X4_scoreAt (kL κ) (kad κ) (kD κ) (kca κ) C.ado t0  s5 _ hp) rfl (by decide) rfl (Nat.le_of_ble_eq_true rfl) (dX7_margin_p0 43 rfl) (fun r8 s7 hp => ?_)
    refine x_isub C (dX7_margin_p0 44 rfl) ?_
    refine x_goto (tgt := 90) C (dX7_margin_p0 45 rfl) (by decide) ?_
    exact hret _ _ _ _ (dX7_margin_p0 47 rfl) (nar_i _) hp
def J_X7_margin_46 (K : Int32 → St → Prop)  (u2 : Nat) (t0 : Int32) (σ : St) : Prop := (t0 = 0 → (J_X7_margin_56 K  u2 0 σ)) ∧ (¬ (t0 = 0) → (J_X7_margin_56 K  u2 1 σ))
set_option maxHeartbeats 4000000 in
set_option maxRecDepth 100000 in
theorem J_X7_margin_46_w {κ : Kap} {K : Int32 → St → Prop}  (C : Ok κ RX7 cX7_margin 5 13) (hret : RetI κ cX7_margin .int K) (u2 : Nat) (t0 : Int32)  (hu2 : sOk u2)  (σ : St)  (hp : J_X7_margin_46 K  u2 t0 σ) : GG κ 46 [(0, .ref (kad κ 0)), (2, .ref (kad κ u2))] [.int t0] σ := by
  unfold J_X7_margin_46 at hp
  refine x_istore_n (loc' := [(3, .int t0), (0, .ref (kad κ 0)), (2, .ref (kad κ u2))]) C rfl (by decide) rfl (dX7_margin_p0 25 rfl) ?_
  refine x_iload_n 0 C rfl (dX7_margin_p0 26 rfl) ?_
  refine x_if_eq (tgt := 55) C (dX7_margin_p0 27 rfl) (by decide) (fun hc => ?_) (fun hc => ?_)
  · have hp := hp.1 hc
    refine x_iconst (v := 0) C (by decide) (dX7_margin_p0 30 rfl) ?_
    refine x_loc (loc' := [(0, .ref (kad κ 0)), (2, .ref (kad κ u2))]) [1, 2] rfl ?_
    exact J_X7_margin_56_w C hret u2 0 hu2 σ  hp
  · have hp := hp.2 hc
    refine x_iconst (v := 1) C (by decide) (dX7_margin_p0 28 rfl) ?_
    refine x_goto (tgt := 56) C (dX7_margin_p0 29 rfl) (by decide) ?_
    refine x_loc (loc' := [(0, .ref (kad κ 0)), (2, .ref (kad κ u2))]) [1, 2] rfl ?_
    exact J_X7_margin_56_w C hret u2 1 hu2 σ  hp
def J_X7_margin_45 (K : Int32 → St → Prop)  (u2 : Nat) (σ : St) : Prop := J_X7_margin_46 K  u2 0 σ
set_option maxHeartbeats 4000000 in
set_option maxRecDepth 100000 in
theorem J_X7_margin_45_w {κ : Kap} {K : Int32 → St → Prop}  (C : Ok κ RX7 cX7_margin 5 13) (hret : RetI κ cX7_margin .int K) (u2 : Nat)  (hu2 : sOk u2) (σ : St)  (hp : J_X7_margin_45 K  u2 σ) : GG κ 45 [(0, .ref (kad κ 0)), (2, .ref (kad κ u2))] [] σ := by
  unfold J_X7_margin_45 at hp
  refine x_iconst (v := 0) C (by decide) (dX7_margin_p0 24 rfl) ?_
  exact J_X7_margin_46_w C hret u2 0 hu2 σ  hp
def P_X7_margin (p1 : Int32) (σ : St) (K : Int32 → St → Prop) : Prop := P_X7_find p1 σ (fun r3 s1 => (r3 = none → (K (-1000001) s1)) ∧ (∀ b2 : Nat, r3 = some b2 → sOk b2 ∧ P_X7_rankTrees b2 2 s1 (fun s4 => ((s4.1 126 9) ≤ 0 → (J_X7_margin_45 K  b2 s4)) ∧ (¬ ((s4.1 126 9) ≤ 0) → P_X7_countAgreeing b2 s4 (fun r10 s9 => (r10 = (s9.1 b2 0) → (J_X7_margin_46 K  b2 1 s9)) ∧ (¬ (r10 = (s9.1 b2 0)) → (J_X7_margin_45 K  b2 s9)))))))
set_option maxHeartbeats 4000000 in
set_option maxRecDepth 100000 in
theorem m_X7_margin (l : Launch) (ad : Nat → Nat) (D : va_G) (ca : Nat → ClassId) (had : adOk ad) (p1 : Int32)  (σ : St) (K : Int32 → St → Prop) (hp : P_X7_margin p1 σ K) : CtI l ad D ca yX7_margin cX7_margin 5 .int 13 [.ref (ad 0), .int p1] σ K := CtI_of (av := fun ad => [.ref (ad 0), .int p1]) (plainFor_of_name (by decide)) had (Nat.le_of_ble_eq_true rfl) (fun κ C hret => by
  have C : Ok κ RX7 cX7_margin 5 13 := C
  show GG κ 0 [(0, .ref (kad κ 0)), (1, .int p1)] [] σ
  unfold P_X7_margin at hp
  refine x_aload_n 0 C rfl (dX7_margin_p0 0 rfl) ?_
  refine x_iload_n 1 C rfl (dX7_margin_p0 1 rfl) ?_
  refine x_cvQ (As := [.int p1]) (st := []) C LRX7_101 (ci := 7) rfl rfl (by decide) (by decide) (m_X7_find (kL κ) (kad κ) (kD κ) (kca κ) C.ado p1  σ _ hp) rfl (by decide) rfl (Nat.le_of_ble_eq_true rfl) (dX7_margin_p0 2 rfl) (fun s1 hp => ?_) (fun b2 s1 hp => ?_)
  · have hp := hp.1 rfl
    refine x_astore_nN (loc' := [(2, .null), (0, .ref (kad κ 0)), (1, .int p1)]) C rfl (by decide) rfl (dX7_margin_p0 3 rfl) ?_
    refine x_aload_nN 0 C rfl (dX7_margin_p0 4 rfl) ?_
    refine x_ifnonnullN C (dX7_margin_p0 5 rfl) ?_
    refine x_ldc C tw_326 (dX7_margin_p0 6 rfl) ?_
    exact hret _ _ _ _ (dX7_margin_p0 7 rfl) (nar_i _) hp
  · obtain ⟨hb2, hp⟩ := hp.2 b2 rfl
    refine x_astore_n (loc' := [(2, .ref (kad κ b2)), (0, .ref (kad κ 0)), (1, .int p1)]) C rfl (by decide) rfl (dX7_margin_p0 3 rfl) ?_
    refine x_aload_n 0 C rfl (dX7_margin_p0 4 rfl) ?_
    refine x_ifnonnull (tgt := 13) C (dX7_margin_p0 5 rfl) (by decide) ?_
    refine x_aload_n 1 C rfl (dX7_margin_p0 8 rfl) ?_
    refine x_aload_n 0 C rfl (dX7_margin_p0 9 rfl) ?_
    refine x_iconst (v := 2) C (by decide) (dX7_margin_p0 10 rfl) ?_
    refine x_cvV (As := [.ref (kad κ b2), .int 2]) (st := []) C LRX7_129 (ci := 7) rfl rfl (by decide) (by decide) (m_X7_rankTrees (kL κ) (kad κ) (kD κ) (kca κ) C.ado b2 2 hb2 s1 _ hp) rfl (by decide) rfl (Nat.le_of_ble_eq_true rfl) (dX7_margin_p0 11 rfl) (fun s4 hp => ?_)
    refine x_aload_n 1 C rfl (dX7_margin_p0 12 rfl) ?_
    refine gX7_7 (b := 126) C rfl (by decide) rfl tw_241 (dX7_margin_p0 13 rfl) ?_
    refine gX4_9 C rfl (by decide) tw_133 (dX7_margin_p0 14 rfl) ?_
    refine x_if_le (tgt := 45) C (dX7_margin_p0 15 rfl) (by decide) (fun hc => ?_) (fun hc => ?_)
    · have hp := hp.1 hc
      refine x_loc (loc' := [(0, .ref (kad κ 0)), (2, .ref (kad κ b2))]) [1, 0] rfl ?_
      exact J_X7_margin_45_w C hret b2 hb2 s4  hp
    · have hp := hp.2 hc
      refine x_aload_n 1 C rfl (dX7_margin_p0 16 rfl) ?_
      refine x_aload_n 0 C rfl (dX7_margin_p0 17 rfl) ?_
      refine x_cvI (As := [.ref (kad κ b2)]) (st := []) C LRX7_136 (ci := 7) rfl rfl (by decide) (by decide) (m_X7_countAgreeing (kL κ) (kad κ) (kD κ) (kca κ) C.ado b2 hb2 s4 _ hp) rfl (by decide) rfl (Nat.le_of_ble_eq_true rfl) (dX7_margin_p0 18 rfl) (fun r10 s9 hp => ?_)
      refine x_aload_n 0 C rfl (dX7_margin_p0 19 rfl) ?_
      refine gX0_0 C (s_kd hb2) (s_lt hb2) tw_51 (dX7_margin_p0 20 rfl) ?_
      refine x_icmp_ne (tgt := 45) C (dX7_margin_p0 21 rfl) (by decide) (fun hc => ?_) (fun hc => ?_)
      · have hp := hp.2 hc
        refine x_loc (loc' := [(0, .ref (kad κ 0)), (2, .ref (kad κ b2))]) [1, 0] rfl ?_
        exact J_X7_margin_45_w C hret b2 hb2 s9  hp
      · have hp := hp.1 hc
        refine x_iconst (v := 1) C (by decide) (dX7_margin_p0 22 rfl) ?_
        refine x_goto (tgt := 46) C (dX7_margin_p0 23 rfl) (by decide) ?_
        refine x_loc (loc' := [(0, .ref (kad κ 0)), (2, .ref (kad κ b2))]) [1, 0] rfl ?_
        exact J_X7_margin_46_w C hret b2 1 hb2 s9  hp)
def P_X7_projectiveOrder (p1 : Int32) (p2 : Int32) (σ : St) (K : Int32 → St → Prop) : Prop := P_X7_find p1 σ (fun r3 s1 => (r3 = none → (K (-1000001) s1)) ∧ (∀ b2 : Nat, r3 = some b2 → sOk b2 ∧ ((p2 < 0 → (K (-1000001) s1)) ∧ (¬ (p2 < 0) → ((p2 < (s1.1 b2 0) → P_X3_arrange b2 s1 (fun s4 => vp_in (p2 + 1) 7 ∧ (K (s4.1 198 (ix (p2 + 1))) s4))) ∧ (¬ (p2 < (s1.1 b2 0)) → (K (-1000001) s1)))))))
set_option maxHeartbeats 4000000 in
set_option maxRecDepth 100000 in
theorem m_X7_projectiveOrder (l : Launch) (ad : Nat → Nat) (D : va_G) (ca : Nat → ClassId) (had : adOk ad) (p1 : Int32) (p2 : Int32)  (σ : St) (K : Int32 → St → Prop) (hp : P_X7_projectiveOrder p1 p2 σ K) : CtI l ad D ca yX7_projectiveOrder cX7_projectiveOrder 4 .int 12 [.ref (ad 0), .int p1, .int p2] σ K := CtI_of (av := fun ad => [.ref (ad 0), .int p1, .int p2]) (plainFor_of_name (by decide)) had (Nat.le_of_ble_eq_true rfl) (fun κ C hret => by
  have C : Ok κ RX7 cX7_projectiveOrder 4 12 := C
  show GG κ 0 [(0, .ref (kad κ 0)), (1, .int p1), (2, .int p2)] [] σ
  unfold P_X7_projectiveOrder at hp
  refine x_aload_n 0 C rfl (dX7_projectiveOrder_p0 0 rfl) ?_
  refine x_iload_n 1 C rfl (dX7_projectiveOrder_p0 1 rfl) ?_
  refine x_cvQ (As := [.int p1]) (st := []) C LRX7_101 (ci := 7) rfl rfl (by decide) (by decide) (m_X7_find (kL κ) (kad κ) (kD κ) (kca κ) C.ado p1  σ _ hp) rfl (by decide) rfl (Nat.le_of_ble_eq_true rfl) (dX7_projectiveOrder_p0 2 rfl) (fun s1 hp => ?_) (fun b2 s1 hp => ?_)
  · have hp := hp.1 rfl
    refine x_astore_nN (loc' := [(3, .null), (0, .ref (kad κ 0)), (1, .int p1), (2, .int p2)]) C rfl (by decide) rfl (dX7_projectiveOrder_p0 3 rfl) ?_
    refine x_aload_nN 0 C rfl (dX7_projectiveOrder_p0 4 rfl) ?_
    refine x_ifnullN (tgt := 22) C (dX7_projectiveOrder_p0 5 rfl) (by decide) ?_
    refine x_ldc C tw_326 (dX7_projectiveOrder_p0 12 rfl) ?_
    exact hret _ _ _ _ (dX7_projectiveOrder_p0 13 rfl) (nar_i _) hp
  · obtain ⟨hb2, hp⟩ := hp.2 b2 rfl
    refine x_astore_n (loc' := [(3, .ref (kad κ b2)), (0, .ref (kad κ 0)), (1, .int p1), (2, .int p2)]) C rfl (by decide) rfl (dX7_projectiveOrder_p0 3 rfl) ?_
    refine x_aload_n 0 C rfl (dX7_projectiveOrder_p0 4 rfl) ?_
    refine x_ifnull C (dX7_projectiveOrder_p0 5 rfl) ?_
    refine x_iload_n 3 C rfl (dX7_projectiveOrder_p0 6 rfl) ?_
    refine x_if_lt (tgt := 22) C (dX7_projectiveOrder_p0 7 rfl) (by decide) (fun hc => ?_) (fun hc => ?_)
    · have hp := hp.1 hc
      refine x_ldc C tw_326 (dX7_projectiveOrder_p0 12 rfl) ?_
      exact hret _ _ _ _ (dX7_projectiveOrder_p0 13 rfl) (nar_i _) hp
    · have hp := hp.2 hc
      refine x_iload_n 3 C rfl (dX7_projectiveOrder_p0 8 rfl) ?_
      refine x_aload_n 0 C rfl (dX7_projectiveOrder_p0 9 rfl) ?_
      refine gX0_0 C (s_kd hb2) (s_lt hb2) tw_51 (dX7_projectiveOrder_p0 10 rfl) ?_
      refine x_icmp_lt (tgt := 25) C (dX7_projectiveOrder_p0 11 rfl) (by decide) (fun hc => ?_) (fun hc => ?_)
      · have hp := hp.1 hc
        refine x_aload_n 1 C rfl (dX7_projectiveOrder_p0 14 rfl) ?_
        refine gX7_9 (b := 196) C rfl (by decide) rfl tw_243 (dX7_projectiveOrder_p0 15 rfl) ?_
        refine x_aload_n 0 C rfl (dX7_projectiveOrder_p0 16 rfl) ?_
        refine x_cvV (As := [.ref (kad κ b2)]) (st := []) C LRX7_227 (ci := 3) rfl rfl (by decide) (by decide) (m_X3_arrange (kL κ) (kad κ) (kD κ) (kca κ) C.ado b2 hb2 s1 _ hp) rfl (by decide) rfl (Nat.le_of_ble_eq_true rfl) (dX7_projectiveOrder_p0 17 rfl) (fun s4 hp => ?_)
        refine x_aload_n 1 C rfl (dX7_projectiveOrder_p0 18 rfl) ?_
        refine gX7_9 (b := 196) C rfl (by decide) rfl tw_243 (dX7_projectiveOrder_p0 19 rfl) ?_
        refine gX3_2 (b := 198) C rfl (by decide) rfl tw_197 (dX7_projectiveOrder_p0 20 rfl) ?_
        refine x_iload_n 3 C rfl (dX7_projectiveOrder_p0 21 rfl) ?_
        refine x_iconst (v := 1) C (by decide) (dX7_projectiveOrder_p0 22 rfl) ?_
        refine x_iadd C (dX7_projectiveOrder_p0 23 rfl) ?_
        obtain ⟨h5, hp⟩ := hp
        refine x_iald C rfl (by decide) h5 (dX7_projectiveOrder_p0 24 rfl) ?_
        exact hret _ _ _ _ (dX7_projectiveOrder_p0 25 rfl) (nar_i _) hp
      · have hp := hp.2 hc
        refine x_ldc C tw_326 (dX7_projectiveOrder_p0 12 rfl) ?_
        exact hret _ _ _ _ (dX7_projectiveOrder_p0 13 rfl) (nar_i _) hp)
