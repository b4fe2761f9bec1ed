def J_X7_cross_69 (K : Int32 → St → Prop)  (u4 : Int32) (u5 : Int32) (u6 : Int32) (u7 : Int32) (σ : St) : Prop := (u4 ≤ u6 → (K 0 σ)) ∧ (¬ (u4 ≤ u6) → ((u7 ≤ u4 → (K 0 σ)) ∧ (¬ (u7 ≤ u4) → ((u5 ≤ u7 → (K 0 σ)) ∧ (¬ (u5 ≤ u7) → (K 1 σ))))))
set_option maxHeartbeats 4000000 in
set_option maxRecDepth 100000 in
theorem J_X7_cross_69_w {κ : Kap} {K : Int32 → St → Prop}  (C : Ok κ RX7 cX7_cross 8 0) (hret : RetI κ cX7_cross .boolean K) (u4 : Int32) (u5 : Int32) (u6 : Int32) (u7 : Int32)     (σ : St)  (hp : J_X7_cross_69 K  u4 u5 u6 u7 σ) : GG κ 69 [(4, .int u4), (5, .int u5), (6, .int u6), (7, .int u7)] [] σ := by
  unfold J_X7_cross_69 at hp
  refine x_iload 2 C rfl (dX7_cross_p0 37 rfl) ?_
  refine x_iload 0 C rfl (dX7_cross_p0 38 rfl) ?_
  refine x_icmp_ge (tgt := 94) C (dX7_cross_p0 39 rfl) (by decide) (fun hc => ?_) (fun hc => ?_)
  · have hp := hp.1 hc
    refine x_iconst (v := 0) C (by decide) (dX7_cross_p0 48 rfl) ?_
    exact hret _ _ _ _ (dX7_cross_p0 49 rfl) (nar_z isB0) hp
  · have hp := hp.2 hc
    refine x_iload 0 C rfl (dX7_cross_p0 40 rfl) ?_
    refine x_iload 3 C rfl (dX7_cross_p0 41 rfl) ?_
    refine x_icmp_ge (tgt := 94) C (dX7_cross_p0 42 rfl) (by decide) (fun hc => ?_) (fun hc => ?_)
    · have hp := hp.1 hc
      refine x_iconst (v := 0) C (by decide) (dX7_cross_p0 48 rfl) ?_
      exact hret _ _ _ _ (dX7_cross_p0 49 rfl) (nar_z isB0) hp
    · have hp := hp.2 hc
      refine x_iload 3 C rfl (dX7_cross_p0 43 rfl) ?_
      refine x_iload 1 C rfl (dX7_cross_p0 44 rfl) ?_
      refine x_icmp_ge (tgt := 94) C (dX7_cross_p0 45 rfl) (by decide) (fun hc => ?_) (fun hc => ?_)
      · have hp := hp.1 hc
        refine x_iconst (v := 0) C (by decide) (dX7_cross_p0 48 rfl) ?_
        exact hret _ _ _ _ (dX7_cross_p0 49 rfl) (nar_z isB0) hp
      · have hp := hp.2 hc
        refine x_iconst (v := 1) C (by decide) (dX7_cross_p0 46 rfl) ?_
        refine x_goto (tgt := 95) C (dX7_cross_p0 47 rfl) (by decide) ?_
        exact hret _ _ _ _ (dX7_cross_p0 49 rfl) (nar_z isB1) hp
def J_X7_cross_46 (K : Int32 → St → Prop)  (u4 : Int32) (u5 : Int32) (u6 : Int32) (t0 : Int32) (σ : St) : Prop := (u6 ≤ u4 → (J_X7_cross_69 K  u4 u5 u6 t0 σ)) ∧ (¬ (u6 ≤ u4) → ((u5 ≤ u6 → (J_X7_cross_69 K  u4 u5 u6 t0 σ)) ∧ (¬ (u5 ≤ u6) → ((u5 < t0 → (K 1 σ)) ∧ (¬ (u5 < t0) → (J_X7_cross_69 K  u4 u5 u6 t0 σ))))))
set_option maxHeartbeats 4000000 in
set_option maxRecDepth 100000 in
theorem J_X7_cross_46_w {κ : Kap} {K : Int32 → St → Prop}  (C : Ok κ RX7 cX7_cross 8 0) (hret : RetI κ cX7_cross .boolean K) (u4 : Int32) (u5 : Int32) (u6 : Int32) (t0 : Int32)     (σ : St)  (hp : J_X7_cross_46 K  u4 u5 u6 t0 σ) : GG κ 46 [(4, .int u4), (5, .int u5), (6, .int u6)] [.int t0] σ := by
  unfold J_X7_cross_46 at hp
  refine x_istore (loc' := [(7, .int t0), (4, .int u4), (5, .int u5), (6, .int u6)]) C (by decide) rfl (dX7_cross_p0 27 rfl) ?_
  refine x_iload 1 C rfl (dX7_cross_p0 28 rfl) ?_
  refine x_iload 3 C rfl (dX7_cross_p0 29 rfl) ?_
  refine x_icmp_ge (tgt := 69) C (dX7_cross_p0 30 rfl) (by decide) (fun hc => ?_) (fun hc => ?_)
  · have hp := hp.1 hc
    refine x_loc (loc' := [(4, .int u4), (5, .int u5), (6, .int u6), (7, .int t0)]) [1, 2, 3, 0] rfl ?_
    exact J_X7_cross_69_w C hret u4 u5 u6 t0  σ  hp
  · have hp := hp.2 hc
    refine x_iload 3 C rfl (dX7_cross_p0 31 rfl) ?_
    refine x_iload 2 C rfl (dX7_cross_p0 32 rfl) ?_
    refine x_icmp_ge (tgt := 69) C (dX7_cross_p0 33 rfl) (by decide) (fun hc => ?_) (fun hc => ?_)
    · have hp := hp.1 hc
      refine x_loc (loc' := [(4, .int u4), (5, .int u5), (6, .int u6), (7, .int t0)]) [1, 2, 3, 0] rfl ?_
      exact J_X7_cross_69_w C hret u4 u5 u6 t0  σ  hp
    · have hp := hp.2 hc
      refine x_iload 2 C rfl (dX7_cross_p0 34 rfl) ?_
      refine x_iload 0 C rfl (dX7_cross_p0 35 rfl) ?_
      refine x_icmp_lt (tgt := 90) C (dX7_cross_p0 36 rfl) (by decide) (fun hc => ?_) (fun hc => ?_)
      · have hp := hp.1 hc
        refine x_iconst (v := 1) C (by decide) (dX7_cross_p0 46 rfl) ?_
        refine x_goto (tgt := 95) C (dX7_cross_p0 47 rfl) (by decide) ?_
        exact hret _ _ _ _ (dX7_cross_p0 49 rfl) (nar_z isB1) hp
      · have hp := hp.2 hc
        refine x_loc (loc' := [(4, .int u4), (5, .int u5), (6, .int u6), (7, .int t0)]) [1, 2, 3, 0] rfl ?_
        exact J_X7_cross_69_w C hret u4 u5 u6 t0  σ  hp
def J_X7_cross_34 (K : Int32 → St → Prop)  (u2 : Int32) (u3 : Int32) (u4 : Int32) (u5 : Int32) (t0 : Int32) (σ : St) : Prop := (u3 ≤ u2 → (J_X7_cross_46 K  u4 u5 t0 u2 σ)) ∧ (¬ (u3 ≤ u2) → (J_X7_cross_46 K  u4 u5 t0 u3 σ))
set_option maxHeartbeats 4000000 in
set_option maxRecDepth 100000 in
theorem J_X7_cross_34_w {κ : Kap} {K : Int32 → St → Prop}  (C : Ok κ RX7 cX7_cross 8 0) (hret : RetI κ cX7_cross .boolean K) (u2 : Int32) (u3 : Int32) (u4 : Int32) (u5 : Int32) (t0 : Int32)      (σ : St)  (hp : J_X7_cross_34 K  u2 u3 u4 u5 t0 σ) : GG κ 34 [(2, .int u2), (3, .int u3), (4, .int u4), (5, .int u5)] [.int t0] σ := by
  unfold J_X7_cross_34 at hp
  refine x_istore (loc' := [(6, .int t0), (2, .int u2), (3, .int u3), (4, .int u4), (5, .int u5)]) C (by decide) rfl (dX7_cross_p0 20 rfl) ?_
  refine x_iload_n 1 C rfl (dX7_cross_p0 21 rfl) ?_
  refine x_iload_n 2 C rfl (dX7_cross_p0 22 rfl) ?_
  refine x_icmp_ge (tgt := 45) C (dX7_cross_p0 23 rfl) (by decide) (fun hc => ?_) (fun hc => ?_)
  · have hp := hp.1 hc
    refine x_iload_n 1 C rfl (dX7_cross_p0 26 rfl) ?_
    refine x_loc (loc' := [(4, .int u4), (5, .int u5), (6, .int t0)]) [3, 4, 0] rfl ?_
    exact J_X7_cross_46_w C hret u4 u5 t0 u2  σ  hp
  · have hp := hp.2 hc
    refine x_iload_n 2 C rfl (dX7_cross_p0 24 rfl) ?_
    refine x_goto (tgt := 46) C (dX7_cross_p0 25 rfl) (by decide) ?_
    refine x_loc (loc' := [(4, .int u4), (5, .int u5), (6, .int t0)]) [3, 4, 0] rfl ?_
    exact J_X7_cross_46_w C hret u4 u5 t0 u3  σ  hp
def J_X7_cross_22 (K : Int32 → St → Prop)  (u2 : Int32) (u3 : Int32) (u4 : Int32) (t0 : Int32) (σ : St) : Prop := (u3 ≤ u2 → (J_X7_cross_34 K  u2 u3 u4 t0 u3 σ)) ∧ (¬ (u3 ≤ u2) → (J_X7_cross_34 K  u2 u3 u4 t0 u2 σ))
set_option maxHeartbeats 4000000 in
set_option maxRecDepth 100000 in
theorem J_X7_cross_22_w {κ : Kap} {K : Int32 → St → Prop}  (C : Ok κ RX7 cX7_cross 8 0) (hret : RetI κ cX7_cross .boolean K) (u2 : Int32) (u3 : Int32) (u4 : Int32) (t0 : Int32)     (σ : St)  (hp : J_X7_cross_22 K  u2 u3 u4 t0 σ) : GG κ 22 [(2, .int u2), (3, .int u3), (4, .int u4)] [.int t0] σ := by
  unfold J_X7_cross_22 at hp
  refine x_istore (loc' := [(5, .int t0), (2, .int u2), (3, .int u3), (4, .int u4)]) C (by decide) rfl (dX7_cross_p0 13 rfl) ?_
  refine x_iload_n 1 C rfl (dX7_cross_p0 14 rfl) ?_
  refine x_iload_n 2 C rfl (dX7_cross_p0 15 rfl) ?_
  refine x_icmp_ge (tgt := 33) C (dX7_cross_p0 16 rfl) (by decide) (fun hc => ?_) (fun hc => ?_)
  · have hp := hp.1 hc
    refine x_iload_n 2 C rfl (dX7_cross_p0 19 rfl) ?_
    refine x_loc (loc' := [(2, .int u2), (3, .int u3), (4, .int u4), (5, .int t0)]) [1, 2, 3, 0] rfl ?_
    exact J_X7_cross_34_w C hret u2 u3 u4 t0 u3  σ  hp
  · have hp := hp.2 hc
    refine x_iload_n 1 C rfl (dX7_cross_p0 17 rfl) ?_
    refine x_goto (tgt := 34) C (dX7_cross_p0 18 rfl) (by decide) ?_
    refine x_loc (loc' := [(2, .int u2), (3, .int u3), (4, .int u4), (5, .int t0)]) [1, 2, 3, 0] rfl ?_
    exact J_X7_cross_34_w C hret u2 u3 u4 t0 u2  σ  hp
def J_X7_cross_10 (K : Int32 → St → Prop)  (u0 : Int32) (u1 : Int32) (u2 : Int32) (u3 : Int32) (t0 : Int32) (σ : St) : Prop := (u1 ≤ u0 → (J_X7_cross_22 K  u2 u3 t0 u0 σ)) ∧ (¬ (u1 ≤ u0) → (J_X7_cross_22 K  u2 u3 t0 u1 σ))
set_option maxHeartbeats 4000000 in
set_option maxRecDepth 100000 in
theorem J_X7_cross_10_w {κ : Kap} {K : Int32 → St → Prop}  (C : Ok κ RX7 cX7_cross 8 0) (hret : RetI κ cX7_cross .boolean K) (u0 : Int32) (u1 : Int32) (u2 : Int32) (u3 : Int32) (t0 : Int32)      (σ : St)  (hp : J_X7_cross_10 K  u0 u1 u2 u3 t0 σ) : GG κ 10 [(0, .int u0), (1, .int u1), (2, .int u2), (3, .int u3)] [.int t0] σ := by
  unfold J_X7_cross_10 at hp
  refine x_istore (loc' := [(4, .int t0), (0, .int u0), (1, .int u1), (2, .int u2), (3, .int u3)]) C (by decide) rfl (dX7_cross_p0 6 rfl) ?_
  refine x_iload_n 1 C rfl (dX7_cross_p0 7 rfl) ?_
  refine x_iload_n 2 C rfl (dX7_cross_p0 8 rfl) ?_
  refine x_icmp_ge (tgt := 21) C (dX7_cross_p0 9 rfl) (by decide) (fun hc => ?_) (fun hc => ?_)
  · have hp := hp.1 hc
    refine x_iload_n 1 C rfl (dX7_cross_p0 12 rfl) ?_
    refine x_loc (loc' := [(2, .int u2), (3, .int u3), (4, .int t0)]) [3, 4, 0] rfl ?_
    exact J_X7_cross_22_w C hret u2 u3 t0 u0  σ  hp
  · have hp := hp.2 hc
    refine x_iload_n 2 C rfl (dX7_cross_p0 10 rfl) ?_
    refine x_goto (tgt := 22) C (dX7_cross_p0 11 rfl) (by decide) ?_
    refine x_loc (loc' := [(2, .int u2), (3, .int u3), (4, .int t0)]) [3, 4, 0] rfl ?_
    exact J_X7_cross_22_w C hret u2 u3 t0 u1  σ  hp
def P_X7_cross (p0 : Int32) (p1 : Int32) (p2 : Int32) (p3 : Int32) (σ : St) (K : Int32 → St → Prop) : Prop := (p1 ≤ p0 → (J_X7_cross_10 K  p0 p1 p2 p3 p1 σ)) ∧ (¬ (p1 ≤ p0) → (J_X7_cross_10 K  p0 p1 p2 p3 p0 σ))
set_option maxHeartbeats 4000000 in
set_option maxRecDepth 100000 in
theorem m_X7_cross (l : Launch) (ad : Nat → Nat) (D : va_G) (ca : Nat → ClassId) (had : adOk ad) (p0 : Int32) (p1 : Int32) (p2 : Int32) (p3 : Int32)  (σ : St) (K : Int32 → St → Prop) (hp : P_X7_cross p0 p1 p2 p3 σ K) : CtI l ad D ca yX7_cross cX7_cross 8 .boolean 0 [.int p0, .int p1, .int p2, .int p3] σ K := CtI_of (av := fun ad => [.int p0, .int p1, .int p2, .int p3]) (plainFor_of_name (by decide)) had (Nat.le_of_ble_eq_true rfl) (fun κ C hret => by
  have C : Ok κ RX7 cX7_cross 8 0 := C
  show GG κ 0 [(0, .int p0), (1, .int p1), (2, .int p2), (3, .int p3)] [] σ
  unfold P_X7_cross at hp
  refine x_iload_n 0 C rfl (dX7_cross_p0 0 rfl) ?_
  refine x_iload_n 1 C rfl (dX7_cross_p0 1 rfl) ?_
  refine x_icmp_ge (tgt := 9) C (dX7_cross_p0 2 rfl) (by decide) (fun hc => ?_) (fun hc => ?_)
  · have hp := hp.1 hc
    refine x_iload_n 1 C rfl (dX7_cross_p0 5 rfl) ?_
    exact J_X7_cross_10_w C hret p0 p1 p2 p3 p1  σ  hp
  · have hp := hp.2 hc
    refine x_iload_n 0 C rfl (dX7_cross_p0 3 rfl) ?_
    refine x_goto (tgt := 10) C (dX7_cross_p0 4 rfl) (by decide) ?_
    exact J_X7_cross_10_w C hret p0 p1 p2 p3 p0  σ  hp)
def F_X4_crossesEarlier_2 (K : Int32 → St → Prop) (c2 : (Int32 × St) → Prop) (u1 : Int32) (u2 : Int32) (u3 : Int32) (σ : St) : Prop := (u2 ≤ u3 → (K 0 σ)) ∧ (¬ (u2 ≤ u3) → vp_in u3 7 ∧ (P_X7_cross u1 u2 (σ.1 145 (ix u3)) u3 σ (fun r3 s2 => (r3 = 0 → ∀ v4 : Int32, v4 = u3 + 1 → c2 (v4, s2)) ∧ (¬ (r3 = 0) → (K 1 s2)))))
set_option maxHeartbeats 4000000 in
set_option maxRecDepth 100000 in
theorem F_X4_crossesEarlier_2_w {κ : Kap} {K : Int32 → St → Prop} {c2 : (Int32 × St) → Prop} (C : Ok κ RX4 cX4_crossesEarlier 4 1) (hret : RetI κ cX4_crossesEarlier .boolean K) (u1 : Int32) (u2 : Int32) (u3 : Int32)     (σ : St) (hc2 : ∀ (u3 : Int32) (σ : St), c2 (u3, σ) → GG κ 2 [(0, .ref (kad κ 126)), (1, .int u1), (2, .int u2), (3, .int u3)] [] σ) (hp : F_X4_crossesEarlier_2 K c2 u1 u2 u3 σ) : GG κ 2 [(0, .ref (kad κ 126)), (1, .int u1), (2, .int u2), (3, .int u3)] [] σ := by
  unfold F_X4_crossesEarlier_2 at hp
  refine x_iload_n 3 C rfl (dX4_crossesEarlier_p0 2 rfl) ?_
  refine x_iload_n 2 C rfl (dX4_crossesEarlier_p0 3 rfl) ?_
  refine x_icmp_ge (tgt := 30) C (dX4_crossesEarlier_p0 4 rfl) (by decide) (fun hc => ?_) (fun hc => ?_)
  · have hp := hp.1 hc
    refine x_iconst (v := 0) C (by decide) (dX4_crossesEarlier_p0 18 rfl) ?_
    exact hret _ _ _ _ (dX4_crossesEarlier_p0 19 rfl) (nar_z isB0) hp
  · have hp := hp.2 hc
    refine x_iload_n 1 C rfl (dX4_crossesEarlier_p0 5 rfl) ?_
    refine x_iload_n 2 C rfl (dX4_crossesEarlier_p0 6 rfl) ?_
    refine x_aload_n 0 C rfl (dX4_crossesEarlier_p0 7 rfl) ?_
    refine gX4_6 (b := 145) C rfl (by decide) rfl tw_129 (dX4_crossesEarlier_p0 8 rfl) ?_
    refine x_iload_n 3 C rfl (dX4_crossesEarlier_p0 9 rfl) ?_
    obtain ⟨h1, hp⟩ := hp
    refine x_iald C rfl (by decide) h1 (dX4_crossesEarlier_p0 10 rfl) ?_
    refine x_iload_n 3 C rfl (dX4_crossesEarlier_p0 11 rfl) ?_
    refine x_cnI (As := [.int u1, .int u2, .int (σ.1 145 (ix u3)), .int u3]) (st := []) C LRX4_87 C.kn.2.1.2.1 (m_X7_cross (kL κ) (kad κ) (kD κ) (kca κ) C.ado u1 u2 (σ.1 145 (ix u3)) u3  σ _ hp) rfl (by decide) rfl (Nat.le_of_ble_eq_true rfl) (dX4_crossesEarlier_p0 12 rfl) (fun r3 s2 hp => ?_)
    refine x_if_eq (tgt := 24) C (dX4_crossesEarlier_p0 13 rfl) (by decide) (fun hc => ?_) (fun hc => ?_)
    · have hp := hp.1 hc
      obtain ⟨v4, ev4⟩ : ∃ z : Int32, z = u3 + 1 := ⟨_, rfl⟩
      have hp := hp v4 ev4
      refine x_iinc (v := v4) (loc' := [(3, .int v4), (0, .ref (kad κ 126)), (1, .int u1), (2, .int u2)]) 3 C rfl (by rw [ev4]; rfl) (by decide) rfl (dX4_crossesEarlier_p0 16 rfl) ?_
      refine x_goto (tgt := 2) C (dX4_crossesEarlier_p0 17 rfl) (by decide) ?_
      refine x_loc (loc' := [(0, .ref (kad κ 126)), (1, .int u1), (2, .int u2), (3, .int v4)]) [1, 2, 3, 0] rfl ?_
      exact hc2 v4 s2 hp
    · have hp := hp.2 hc
      refine x_iconst (v := 1) C (by decide) (dX4_crossesEarlier_p0 14 rfl) ?_
      exact hret _ _ _ _ (dX4_crossesEarlier_p0 15 rfl) (nar_z isB1) hp
def P_X4_crossesEarlier (p1 : Int32) (p2 : Int32) (σ : St) (K : Int32 → St → Prop) : Prop := LpE (fun c s => F_X4_crossesEarlier_2 K  c p1 p2 s.1 s.2) (1, σ)
set_option maxHeartbeats 4000000 in
set_option maxRecDepth 100000 in
theorem m_X4_crossesEarlier (l : Launch) (ad : Nat → Nat) (D : va_G) (ca : Nat → ClassId) (had : adOk ad) (p1 : Int32) (p2 : Int32)  (σ : St) (K : Int32 → St → Prop) (hp : P_X4_crossesEarlier p1 p2 σ K) : CtI l ad D ca yX4_crossesEarlier cX4_crossesEarlier 4 .boolean 1 [.ref (ad 126), .int p1, .int p2] σ K := CtI_of (av := fun ad => [.ref (ad 126), .int p1, .int p2]) (plainFor_of_name (by decide)) had (Nat.le_of_ble_eq_true rfl) (fun κ C hret => by
  have C : Ok κ RX4 cX4_crossesEarlier 4 1 := C
  show GG κ 0 [(0, .ref (kad κ 126)), (1, .int p1), (2, .int p2)] [] σ
  unfold P_X4_crossesEarlier at hp
  refine x_iconst (v := 1) C (by decide) (dX4_crossesEarlier_p0 0 rfl) ?_
  refine x_istore_n (loc' := [(3, .int 1), (0, .ref (kad κ 126)), (1, .int p1), (2, .int p2)]) C rfl (by decide) rfl (dX4_crossesEarlier_p0 1 rfl) ?_
  refine x_loc (loc' := [(0, .ref (kad κ 126)), (1, .int p1), (2, .int p2), (3, .int 1)]) [1, 2, 3, 0] rfl ?_
  exact LpE_GG (S := (Int32 × St)) (F := fun c s => F_X4_crossesEarlier_2 K  c p1 p2 s.1 s.2) (W := fun s => GG κ 2 [(0, .ref (kad κ 126)), (1, .int p1), (2, .int p2), (3, .int s.1)] [] s.2) (fun c s hcc hp => F_X4_crossesEarlier_2_w C hret p1 p2 s.1  s.2  (fun u3 σ h => hcc (u3, σ) h) hp) hp)
def J_X4_keep_62 (K : St → Prop)  (u1 : Int64) (u3 : Int32) (σ : St) : Prop := vp_in u3 6 ∧ ∀ s3 : St, s3 = wL σ 146 (ix u3) u1 → (∀ v4 : Int32, v4 = (if (s3.1 126 8) < ((s3.1 126 9) + 1) then (s3.1 126 8) else ((s3.1 126 9) + 1)) → ∀ s5 : St, s5 = wI s3 126 9 v4 → (K s5))
set_option maxHeartbeats 4000000 in
set_option maxRecDepth 100000 in
theorem J_X4_keep_62_w {κ : Kap} {K : St → Prop}  (C : Ok κ RX4 cX4_keep 4 1) (hret : RetV κ cX4_keep K) (u1 : Int64) (u3 : Int32)    (σ : St)  (hp : J_X4_keep_62 K  u1 u3 σ) : GG κ 62 [(0, .ref (kad κ 126)), (1, .long u1), (3, .int u3)] [] σ := by
  unfold J_X4_keep_62 at hp
  refine x_aload_n 0 C rfl (dX4_keep_p0 36 rfl) ?_
  refine gX4_7 (b := 146) C rfl (by decide) rfl tw_130 (dX4_keep_p0 37 rfl) ?_
  refine x_iload_n 2 C rfl (dX4_keep_p0 38 rfl) ?_
  refine x_lload_n 1 C rfl (dX4_keep_p0 39 rfl) ?_
  obtain ⟨h2, hp⟩ := hp
  refine x_last C rfl (by decide) h2 (dX4_keep_p0 40 rfl) ?_
  refine x_nmS (fun s3 es3 => ?_)
  have hp := hp s3 es3
  refine x_aload_n 0 C rfl (dX4_keep_p0 41 rfl) ?_
  refine x_aload_n 0 C rfl (dX4_keep_p0 42 rfl) ?_
  refine gX4_9 C rfl (by decide) tw_132 (dX4_keep_p0 43 rfl) ?_
  refine x_iconst (v := 1) C (by decide) (dX4_keep_p0 44 rfl) ?_
  refine x_iadd C (dX4_keep_p0 45 rfl) ?_
  refine x_aload_n 0 C rfl (dX4_keep_p0 46 rfl) ?_
  refine gX4_8 C rfl (by decide) tw_131 (dX4_keep_p0 47 rfl) ?_
  refine x_min C tw_419 tw_420 tw_11 tw_421 (by decide) (Nat.le_of_ble_eq_true rfl) (dX4_keep_p0 48 rfl) ?_
  refine x_topI (fun v4 ev4 => ?_)
  have hp := hp v4 ev4
  refine qX4_9 C rfl (by decide) tw_132 (dX4_keep_p0 49 rfl) ?_
  refine x_nmS (fun s5 es5 => ?_)
  have hp := hp s5 es5
  exact hret _ _ _ (dX4_keep_p0 50 rfl) hp
def F_X4_keep_25 (K : St → Prop) (c25 : (Int32 × St) → Prop) (u1 : Int64) (u3 : Int32) (σ : St) : Prop := (u3 ≤ 0 → (J_X4_keep_62 K  u1 u3 σ)) ∧ (¬ (u3 ≤ 0) → (vp_in (u3 - 1) 6 ∧ ((u1 ≤ (σ.2.1 146 (ix (u3 - 1))) → (J_X4_keep_62 K  u1 u3 σ)) ∧ (¬ (u1 ≤ (σ.2.1 146 (ix (u3 - 1)))) → (vp_in (u3 - 1) 6 ∧ (vp_in u3 6 ∧ ∀ s9 : St, s9 = wL σ 146 (ix u3) (σ.2.1 146 (ix (u3 - 1))) → (∀ v10 : Int32, v10 = u3 + (-1) → c25 (v10, s9))))))))
set_option maxHeartbeats 4000000 in
set_option maxRecDepth 100000 in
theorem F_X4_keep_25_w {κ : Kap} {K : St → Prop} {c25 : (Int32 × St) → Prop} (C : Ok κ RX4 cX4_keep 4 1) (hret : RetV κ cX4_keep K) (u1 : Int64) (u3 : Int32)    (σ : St) (hc25 : ∀ (u3 : Int32) (σ : St), c25 (u3, σ) → GG κ 25 [(0, .ref (kad κ 126)), (1, .long u1), (3, .int u3)] [] σ) (hp : F_X4_keep_25 K c25 u1 u3 σ) : GG κ 25 [(0, .ref (kad κ 126)), (1, .long u1), (3, .int u3)] [] σ := by
  unfold F_X4_keep_25 at hp
  refine x_iload_n 2 C rfl (dX4_keep_p0 13 rfl) ?_
  refine x_if_le (tgt := 62) C (dX4_keep_p0 14 rfl) (by decide) (fun hc => ?_) (fun hc => ?_)
  · have hp := hp.1 hc
    exact J_X4_keep_62_w C hret u1 u3  σ  hp
  · have hp := hp.2 hc
    refine x_aload_n 0 C rfl (dX4_keep_p0 15 rfl) ?_
    refine gX4_7 (b := 146) C rfl (by decide) rfl tw_130 (dX4_keep_p0 16 rfl) ?_
    refine x_iload_n 2 C rfl (dX4_keep_p0 17 rfl) ?_
    refine x_iconst (v := 1) C (by decide) (dX4_keep_p0 18 rfl) ?_
    refine x_isub C (dX4_keep_p0 19 rfl) ?_
    obtain ⟨h6, hp⟩ := hp
    refine x_lald C rfl (by decide) h6 (dX4_keep_p0 20 rfl) ?_
    refine x_lload_n 1 C rfl (dX4_keep_p0 21 rfl) ?_
    refine x_lcmp C (dX4_keep_p0 22 rfl) ?_
    refine x_if_ge (tgt := 62) C (dX4_keep_p0 23 rfl) (by decide) (fun hc => ?_) (fun hc => ?_)
    · have hp := hp.1 (lgc_ge.mp hc)
      exact J_X4_keep_62_w C hret u1 u3  σ  hp
    · have hp := hp.2 (fun q => hc (lgc_ge.mpr q))
      refine x_aload_n 0 C rfl (dX4_keep_p0 24 rfl) ?_
      refine gX4_7 (b := 146) C rfl (by decide) rfl tw_130 (dX4_keep_p0 25 rfl) ?_
      refine x_iload_n 2 C rfl (dX4_keep_p0 26 rfl) ?_
      refine x_aload_n 0 C rfl (dX4_keep_p0 27 rfl) ?_
      refine gX4_7 (b := 146) C rfl (by decide) rfl tw_130 (dX4_keep_p0 28 rfl) ?_
      refine x_iload_n 2 C rfl (dX4_keep_p0 29 rfl) ?_
      refine x_iconst (v := 1) C (by decide) (dX4_keep_p0 30 rfl) ?_
      refine x_isub C (dX4_keep_p0 31 rfl) ?_
      obtain ⟨h7, hp⟩ := hp
      refine x_lald C rfl (by decide) h7 (dX4_keep_p0 32 rfl) ?_
      obtain ⟨h8, hp⟩ := hp
      refine x_last C rfl (by decide) h8 (dX4_keep_p0 33 rfl) ?_
      refine x_nmS (fun s9 es9 => ?_)
      have hp := hp s9 es9
      obtain ⟨v10, ev10⟩ : ∃ z : Int32, z = u3 + (-1) := ⟨_, rfl⟩
      have hp := hp v10 ev10
      refine x_iinc (v := v10) (loc' := [(3, .int v10), (0, .ref (kad κ 126)), (1, .long u1)]) 2 C rfl (by rw [ev10]; rfl) (by decide) rfl (dX4_keep_p0 34 rfl) ?_
      refine x_goto (tgt := 25) C (dX4_keep_p0 35 rfl) (by decide) ?_
      refine x_loc (loc' := [(0, .ref (kad κ 126)), (1, .long u1), (3, .int v10)]) [1, 2, 0] rfl ?_
      exact hc25 v10 s9 hp
def P_X4_keep (p1 : Int64) (σ : St) (K : St → Prop) : Prop := ((σ.1 126 8) ≤ (σ.1 126 9) → (∀ v1 : Int32, v1 = ((σ.1 126 8) - 1) → (LpE (fun c s => F_X4_keep_25 K  c p1 s.1 s.2) (v1, σ)))) ∧ (¬ ((σ.1 126 8) ≤ (σ.1 126 9)) → (∀ v11 : Int32, v11 = (σ.1 126 9) → (LpE (fun c s => F_X4_keep_25 K  c p1 s.1 s.2) (v11, σ))))
set_option maxHeartbeats 4000000 in
set_option maxRecDepth 100000 in
theorem m_X4_keep (l : Launch) (ad : Nat → Nat) (D : va_G) (ca : Nat → ClassId) (had : adOk ad) (p1 : Int64)  (σ : St) (K : St → Prop) (hp : P_X4_keep p1 σ K) : CtV l ad D ca yX4_keep cX4_keep 4 1 [.ref (ad 126), .long p1] σ K := CtV_of (av := fun ad => [.ref (ad 126), .long p1]) (plainFor_of_name (by decide)) had (Nat.le_of_ble_eq_true rfl) (fun κ C hret => by
  have C : Ok κ RX4 cX4_keep 4 1 := C
  show GG κ 0 [(0, .ref (kad κ 126)), (1, .long p1)] [] σ
  unfold P_X4_keep at hp
  refine x_aload_n 0 C rfl (dX4_keep_p0 0 rfl) ?_
  refine gX4_9 C rfl (by decide) tw_132 (dX4_keep_p0 1 rfl) ?_
  refine x_aload_n 0 C rfl (dX4_keep_p0 2 rfl) ?_
  refine gX4_8 C rfl (by decide) tw_131 (dX4_keep_p0 3 rfl) ?_
  refine x_icmp_ge (tgt := 18) C (dX4_keep_p0 4 rfl) (by decide) (fun hc => ?_) (fun hc => ?_)
  · have hp := hp.1 hc
    refine x_aload_n 0 C rfl (dX4_keep_p0 8 rfl) ?_
    refine gX4_8 C rfl (by decide) tw_131 (dX4_keep_p0 9 rfl) ?_
    refine x_iconst (v := 1) C (by decide) (dX4_keep_p0 10 rfl) ?_
    refine x_isub C (dX4_keep_p0 11 rfl) ?_
    refine x_topI (fun v1 ev1 => ?_)
    have hp := hp v1 ev1
    refine x_istore_n (loc' := [(3, .int v1), (0, .ref (kad κ 126)), (1, .long p1)]) C rfl (by decide) rfl (dX4_keep_p0 12 rfl) ?_
    refine x_loc (loc' := [(0, .ref (kad κ 126)), (1, .long p1), (3, .int v1)]) [1, 2, 0] rfl ?_
    exact LpE_GG (S := (Int32 × St)) (F := fun c s => F_X4_keep_25 K  c p1 s.1 s.2) (W := fun s => GG κ 25 [(0, .ref (kad κ 126)), (1, .long p1), (3, .int s.1)] [] s.2) (fun c s hcc hp => F_X4_keep_25_w C hret p1 s.1  s.2  (fun u3 σ h => hcc (u3, σ) h) hp) hp
  · have hp := hp.2 hc
    refine x_aload_n 0 C rfl (dX4_keep_p0 5 rfl) ?_
    refine gX4_9 C rfl (by decide) tw_132 (dX4_keep_p0 6 rfl) ?_
    refine x_goto (tgt := 24) C (dX4_keep_p0 7 rfl) (by decide) ?_
    refine x_topI (fun v11 ev11 => ?_)
    have hp := hp v11 ev11
    refine x_istore_n (loc' := [(3, .int v11), (0, .ref (kad κ 126)), (1, .long p1)]) C rfl (by decide) rfl (dX4_keep_p0 12 rfl) ?_
    refine x_loc (loc' := [(0, .ref (kad κ 126)), (1, .long p1), (3, .int v11)]) [1, 2, 0] rfl ?_
    exact LpE_GG (S := (Int32 × St)) (F := fun c s => F_X4_keep_25 K  c p1 s.1 s.2) (W := fun s => GG κ 25 [(0, .ref (kad κ 126)), (1, .long p1), (3, .int s.1)] [] s.2) (fun c s hcc hp => F_X4_keep_25_w C hret p1 s.1  s.2  (fun u3 σ h => hcc (u3, σ) h) hp) hp)
def J_X4_descend_181 (rc : Int32 → Int64 → Int32 → St → (St → Prop) → Prop) (K : St → Prop) (c17 : (Int32 × St) → Prop) (u1 : Int32) (u2 : Int64) (u4 : Int32) (u5 : Int32) (t1 : Int32) (t2 : Int64) (t3 : Int32) (σ : St) : Prop := rc t1 t2 t3 σ (fun s14 => ∀ v15 : Int32, v15 = u5 + 1 → c17 (v15, s14))
set_option maxHeartbeats 4000000 in
set_option maxRecDepth 100000 in
theorem J_X4_descend_181_w {κ : Kap} {t : Nat} {K : St → Prop} {rc : Int32 → Int64 → Int32 → St → (St → Prop) → Prop} {c17 : (Int32 × St) → Prop} (C : Ok κ RX4 cX4_descend 10 (2 + t + 1)) (hret : RetV κ cX4_descend K) (hrc : ∀ (p1 : Int32) (p2 : Int64) (p4 : Int32)  (σ : St) (K : St → Prop), rc p1 p2 p4 σ K → CtV (kL κ) (kad κ) (kD κ) (kca κ) yX4_descend cX4_descend 10 (2 + t) [.ref (kad κ 126), .int p1, .long p2, .int p4] σ K) (u1 : Int32) (u2 : Int64) (u4 : Int32) (u5 : Int32) (t1 : Int32) (t2 : Int64) (t3 : Int32)          (σ : St) (hc17 : ∀ (u5 : Int32) (σ : St), c17 (u5, σ) → GG κ 17 [(0, .ref (kad κ 126)), (1, .int u1), (2, .long u2), (4, .int u4), (5, .int u5)] [] σ) (hp : J_X4_descend_181 rc K c17 u1 u2 u4 u5 t1 t2 t3 σ) : GG κ 181 [(0, .ref (kad κ 126)), (1, .int u1), (2, .long u2), (4, .int u4), (5, .int u5)] [.int t3, .long t2, .int t1, .ref (kad κ 126)] σ := by
  unfold J_X4_descend_181 at hp
  refine x_cvV (As := [.int t1, .long t2, .int t3]) (st := []) C LRX4_63 (ci := 4) rfl rfl (by decide) (by decide) (hrc t1 t2 t3  σ _ hp) rfl (by omega) rfl (Nat.le_of_ble_eq_true rfl) (dX4_descend_p1 36 rfl) (fun s14 hp => ?_)
  obtain ⟨v15, ev15⟩ : ∃ z : Int32, z = u5 + 1 := ⟨_, rfl⟩
  have hp := hp v15 ev15
  refine x_iinc (v := v15) (loc' := [(5, .int v15), (0, .ref (kad κ 126)), (1, .int u1), (2, .long u2), (4, .int u4)]) 4 C rfl (by rw [ev15]; rfl) (by decide) rfl (dX4_descend_p1 37 rfl) ?_
  refine x_goto (tgt := 17) C (dX4_descend_p1 38 rfl) (by decide) ?_
  refine x_loc (loc' := [(0, .ref (kad κ 126)), (1, .int u1), (2, .long u2), (4, .int u4), (5, .int v15)]) [1, 2, 3, 4, 0] rfl ?_
  exact hc17 v15 s14 hp
def J_X4_descend_176 (rc : Int32 → Int64 → Int32 → St → (St → Prop) → Prop) (K : St → Prop) (c17 : (Int32 × St) → Prop) (u1 : Int32) (u2 : Int64) (u4 : Int32) (u5 : Int32) (t1 : Int32) (t2 : Int64) (σ : St) : Prop := J_X4_descend_181 rc K c17 u1 u2 u4 u5 t1 t2 1 σ
set_option maxHeartbeats 4000000 in
set_option maxRecDepth 100000 in
theorem J_X4_descend_176_w {κ : Kap} {t : Nat} {K : St → Prop} {rc : Int32 → Int64 → Int32 → St → (St → Prop) → Prop} {c17 : (Int32 × St) → Prop} (C : Ok κ RX4 cX4_descend 10 (2 + t + 1)) (hret : RetV κ cX4_descend K) (hrc : ∀ (p1 : Int32) (p2 : Int64) (p4 : Int32)  (σ : St) (K : St → Prop), rc p1 p2 p4 σ K → CtV (kL κ) (kad κ) (kD κ) (kca κ) yX4_descend cX4_descend 10 (2 + t) [.ref (kad κ 126), .int p1, .long p2, .int p4] σ K) (u1 : Int32) (u2 : Int64) (u4 : Int32) (u5 : Int32) (t1 : Int32) (t2 : Int64)         (σ : St) (hc17 : ∀ (u5 : Int32) (σ : St), c17 (u5, σ) → GG κ 17 [(0, .ref (kad κ 126)), (1, .int u1), (2, .long u2), (4, .int u4), (5, .int u5)] [] σ) (hp : J_X4_descend_176 rc K c17 u1 u2 u4 u5 t1 t2 σ) : GG κ 176 [(0, .ref (kad κ 126)), (1, .int u1), (2, .long u2), (4, .int u4), (5, .int u5)] [.long t2, .int t1, .ref (kad κ 126)] σ := by
  unfold J_X4_descend_176 at hp
  refine x_iconst (v := 1) C (by decide) (dX4_descend_p1 33 rfl) ?_
  refine x_goto (tgt := 181) C (dX4_descend_p1 34 rfl) (by decide) ?_
  exact J_X4_descend_181_w C hret hrc u1 u2 u4 u5 t1 t2 1  σ hc17 hp
def J_X4_descend_152 (rc : Int32 → Int64 → Int32 → St → (St → Prop) → Prop) (K : St → Prop) (c17 : (Int32 × St) → Prop) (u1 : Int32) (u2 : Int64) (u4 : Int32) (u5 : Int32) (u6 : Int32) (u7 : Int64) (σ : St) : Prop := vp_in u1 7 ∧ ∀ s13 : St, s13 = wI σ 145 (ix u1) u6 → ((u4 = 0 → ((u6 = 0 → (J_X4_descend_176 rc K c17 u1 u2 u4 u5 (u1 + 1) u7 s13)) ∧ (¬ (u6 = 0) → (J_X4_descend_181 rc K c17 u1 u2 u4 u5 (u1 + 1) u7 0 s13)))) ∧ (¬ (u4 = 0) → (J_X4_descend_176 rc K c17 u1 u2 u4 u5 (u1 + 1) u7 s13)))
set_option maxHeartbeats 4000000 in
set_option maxRecDepth 100000 in
theorem J_X4_descend_152_w {κ : Kap} {t : Nat} {K : St → Prop} {rc : Int32 → Int64 → Int32 → St → (St → Prop) → Prop} {c17 : (Int32 × St) → Prop} (C : Ok κ RX4 cX4_descend 10 (2 + t + 1)) (hret : RetV κ cX4_descend K) (hrc : ∀ (p1 : Int32) (p2 : Int64) (p4 : Int32)  (σ : St) (K : St → Prop), rc p1 p2 p4 σ K → CtV (kL κ) (kad κ) (kD κ) (kca κ) yX4_descend cX4_descend 10 (2 + t) [.ref (kad κ 126), .int p1, .long p2, .int p4] σ K) (u1 : Int32) (u2 : Int64) (u4 : Int32) (u5 : Int32) (u6 : Int32) (u7 : Int64)        (σ : St) (hc17 : ∀ (u5 : Int32) (σ : St), c17 (u5, σ) → GG κ 17 [(0, .ref (kad κ 126)), (1, .int u1), (2, .long u2), (4, .int u4), (5, .int u5)] [] σ) (hp : J_X4_descend_152 rc K c17 u1 u2 u4 u5 u6 u7 σ) : GG κ 152 [(0, .ref (kad κ 126)), (1, .int u1), (2, .long u2), (4, .int u4), (5, .int u5), (6, .int u6), (7, .long u7)] [] σ := by
  unfold J_X4_descend_152 at hp
  refine x_aload_n 0 C rfl (dX4_descend_p1 19 rfl) ?_
  refine gX4_6 (b := 145) C rfl (by decide) rfl tw_129 (dX4_descend_p1 20 rfl) ?_
  refine x_iload_n 1 C rfl (dX4_descend_p1 21 rfl) ?_
  refine x_iload 5 C rfl (dX4_descend_p1 22 rfl) ?_
  obtain ⟨h12, hp⟩ := hp
  refine x_iast C rfl (by decide) h12 (dX4_descend_p1 23 rfl) ?_
  refine x_nmS (fun s13 es13 => ?_)
  have hp := hp s13 es13
  refine x_aload_n 0 C rfl (dX4_descend_p1 24 rfl) ?_
  refine x_iload_n 1 C rfl (dX4_descend_p1 25 rfl) ?_
  refine x_iconst (v := 1) C (by decide) (dX4_descend_p1 26 rfl) ?_
  refine x_iadd C (dX4_descend_p1 27 rfl) ?_
  refine x_lload 6 C rfl (dX4_descend_p1 28 rfl) ?_
  refine x_iload 3 C rfl (dX4_descend_p1 29 rfl) ?_
  refine x_if_ne (tgt := 176) C (dX4_descend_p1 30 rfl) (by decide) (fun hc => ?_) (fun hc => ?_)
  · have hp := hp.2 hc
    refine x_loc (loc' := [(0, .ref (kad κ 126)), (1, .int u1), (2, .long u2), (4, .int u4), (5, .int u5)]) [0, 1, 2, 3, 4] rfl ?_
    exact J_X4_descend_176_w C hret hrc u1 u2 u4 u5 (u1 + 1) u7  s13 hc17 hp
  · have hp := hp.1 hc
    refine x_iload 5 C rfl (dX4_descend_p1 31 rfl) ?_
    refine x_if_ne (tgt := 180) C (dX4_descend_p1 32 rfl) (by decide) (fun hc => ?_) (fun hc => ?_)
    · have hp := hp.2 hc
      refine x_iconst (v := 0) C (by decide) (dX4_descend_p1 35 rfl) ?_
      refine x_loc (loc' := [(0, .ref (kad κ 126)), (1, .int u1), (2, .long u2), (4, .int u4), (5, .int u5)]) [0, 1, 2, 3, 4] rfl ?_
      exact J_X4_descend_181_w C hret hrc u1 u2 u4 u5 (u1 + 1) u7 0  s13 hc17 hp
    · have hp := hp.1 hc
      refine x_loc (loc' := [(0, .ref (kad κ 126)), (1, .int u1), (2, .long u2), (4, .int u4), (5, .int u5)]) [0, 1, 2, 3, 4] rfl ?_
      exact J_X4_descend_176_w C hret hrc u1 u2 u4 u5 (u1 + 1) u7  s13 hc17 hp
def J_X4_descend_115 (rc : Int32 → Int64 → Int32 → St → (St → Prop) → Prop) (K : St → Prop) (c17 : (Int32 × St) → Prop) (u1 : Int32) (u2 : Int64) (u4 : Int32) (u5 : Int32) (u6 : Int32) (u7 : Int64) (t0 : Int32) (σ : St) : Prop := (t0 = 0 → P_X4_closesCycle u6 u1 σ (fun r10 s9 => (r10 = 0 → (((s9.1 125 1) = 0 → (J_X4_descend_152 rc K c17 u1 u2 u4 u5 u6 u7 s9)) ∧ (¬ ((s9.1 125 1) = 0) → P_X4_crossesEarlier u6 u1 s9 (fun r17 s16 => (r17 = 0 → (J_X4_descend_152 rc K c17 u1 u2 u4 u5 u6 u7 s16)) ∧ (¬ (r17 = 0) → ∀ v18 : Int32, v18 = u5 + 1 → c17 (v18, s16)))))) ∧ (¬ (r10 = 0) → ∀ v11 : Int32, v11 = u5 + 1 → c17 (v11, s9)))) ∧ (¬ (t0 = 0) → ∀ v8 : Int32, v8 = u5 + 1 → c17 (v8, σ))
set_option maxHeartbeats 4000000 in
set_option maxRecDepth 100000 in
theorem J_X4_descend_115_w {κ : Kap} {t : Nat} {K : St → Prop} {rc : Int32 → Int64 → Int32 → St → (St → Prop) → Prop} {c17 : (Int32 × St) → Prop} (C : Ok κ RX4 cX4_descend 10 (2 + t + 1)) (hret : RetV κ cX4_descend K) (hrc : ∀ (p1 : Int32) (p2 : Int64) (p4 : Int32)  (σ : St) (K : St → Prop), rc p1 p2 p4 σ K → CtV (kL κ) (kad κ) (kD κ) (kca κ) yX4_descend cX4_descend 10 (2 + t) [.ref (kad κ 126), .int p1, .long p2, .int p4] σ K) (u1 : Int32) (u2 : Int64) (u4 : Int32) (u5 : Int32) (u6 : Int32) (u7 : Int64) (t0 : Int32)         (σ : St) (hc17 : ∀ (u5 : Int32) (σ : St), c17 (u5, σ) → GG κ 17 [(0, .ref (kad κ 126)), (1, .int u1), (2, .long u2), (4, .int u4), (5, .int u5)] [] σ) (hp : J_X4_descend_115 rc K c17 u1 u2 u4 u5 u6 u7 t0 σ) : GG κ 115 [(0, .ref (kad κ 126)), (1, .int u1), (2, .long u2), (4, .int u4), (5, .int u5), (6, .int u6), (7, .long u7)] [.int t0] σ := by
  unfold J_X4_descend_115 at hp
  refine x_istore (loc' := [(9, .int t0), (0, .ref (kad κ 126)), (1, .int u1), (2, .long u2), (4, .int u4), (5, .int u5), (6, .int u6), (7, .long u7)]) C (by decide) rfl (dX4_descend_p1 2 rfl) ?_
  refine x_iload 0 C rfl (dX4_descend_p1 3 rfl) ?_
  refine x_if_ne (tgt := 184) C (dX4_descend_p1 4 rfl) (by decide) (fun hc => ?_) (fun hc => ?_)
  · have hp := hp.2 hc
    obtain ⟨v8, ev8⟩ : ∃ z : Int32, z = u5 + 1 := ⟨_, rfl⟩
    have hp := hp v8 ev8
    refine x_iinc (v := v8) (loc' := [(5, .int v8), (9, .int t0), (0, .ref (kad κ 126)), (1, .int u1), (2, .long u2), (4, .int u4), (6, .int u6), (7, .long u7)]) 5 C rfl (by rw [ev8]; rfl) (by decide) rfl (dX4_descend_p1 37 rfl) ?_
    refine x_goto (tgt := 17) C (dX4_descend_p1 38 rfl) (by decide) ?_
    refine x_loc (loc' := [(0, .ref (kad κ 126)), (1, .int u1), (2, .long u2), (4, .int u4), (5, .int v8)]) [2, 3, 4, 5, 0] rfl ?_
    exact hc17 v8 σ hp
  · have hp := hp.1 hc
    refine x_aload_n 1 C rfl (dX4_descend_p1 5 rfl) ?_
    refine x_iload 6 C rfl (dX4_descend_p1 6 rfl) ?_
    refine x_iload_n 2 C rfl (dX4_descend_p1 7 rfl) ?_
    refine x_cvI (As := [.int u6, .int u1]) (st := []) C LRX4_77 (ci := 4) rfl rfl (by decide) (by decide) (m_X4_closesCycle (kL κ) (kad κ) (kD κ) (kca κ) C.ado u6 u1  σ _ hp) rfl (by omega) rfl (Nat.le_of_ble_eq_true rfl) (dX4_descend_p1 8 rfl) (fun r10 s9 hp => ?_)
    refine x_if_ne (tgt := 184) C (dX4_descend_p1 9 rfl) (by decide) (fun hc => ?_) (fun hc => ?_)
    · have hp := hp.2 hc
      obtain ⟨v11, ev11⟩ : ∃ z : Int32, z = u5 + 1 := ⟨_, rfl⟩
      have hp := hp v11 ev11
      refine x_iinc (v := v11) (loc' := [(5, .int v11), (9, .int t0), (0, .ref (kad κ 126)), (1, .int u1), (2, .long u2), (4, .int u4), (6, .int u6), (7, .long u7)]) 5 C rfl (by rw [ev11]; rfl) (by decide) rfl (dX4_descend_p1 37 rfl) ?_
      refine x_goto (tgt := 17) C (dX4_descend_p1 38 rfl) (by decide) ?_
      refine x_loc (loc' := [(0, .ref (kad κ 126)), (1, .int u1), (2, .long u2), (4, .int u4), (5, .int v11)]) [2, 3, 4, 5, 0] rfl ?_
      exact hc17 v11 s9 hp
    · have hp := hp.1 hc
      refine x_aload_n 1 C rfl (dX4_descend_p1 10 rfl) ?_
      refine gX4_0 (b := 125) C rfl (by decide) rfl tw_123 (dX4_descend_p1 11 rfl) ?_
      refine gX1_1 C rfl (by decide) tw_101 (dX4_descend_p1 12 rfl) ?_
      refine x_if_eq (tgt := 152) C (dX4_descend_p1 13 rfl) (by decide) (fun hc => ?_) (fun hc => ?_)
      · have hp := hp.1 hc
        refine x_loc (loc' := [(0, .ref (kad κ 126)), (1, .int u1), (2, .long u2), (4, .int u4), (5, .int u5), (6, .int u6), (7, .long u7)]) [1, 2, 3, 4, 5, 6, 7] rfl ?_
        exact J_X4_descend_152_w C hret hrc u1 u2 u4 u5 u6 u7  s9 hc17 hp
      · have hp := hp.2 hc
        refine x_aload_n 1 C rfl (dX4_descend_p1 14 rfl) ?_
        refine x_iload 6 C rfl (dX4_descend_p1 15 rfl) ?_
        refine x_iload_n 2 C rfl (dX4_descend_p1 16 rfl) ?_
        refine x_cvI (As := [.int u6, .int u1]) (st := []) C LRX4_84 (ci := 4) rfl rfl (by decide) (by decide) (m_X4_crossesEarlier (kL κ) (kad κ) (kD κ) (kca κ) C.ado u6 u1  s9 _ hp) rfl (by omega) rfl (Nat.le_of_ble_eq_true rfl) (dX4_descend_p1 17 rfl) (fun r17 s16 hp => ?_)
        refine x_if_ne (tgt := 184) C (dX4_descend_p1 18 rfl) (by decide) (fun hc => ?_) (fun hc => ?_)
        · have hp := hp.2 hc
          obtain ⟨v18, ev18⟩ : ∃ z : Int32, z = u5 + 1 := ⟨_, rfl⟩
          have hp := hp v18 ev18
          refine x_iinc (v := v18) (loc' := [(5, .int v18), (9, .int t0), (0, .ref (kad κ 126)), (1, .int u1), (2, .long u2), (4, .int u4), (6, .int u6), (7, .long u7)]) 5 C rfl (by rw [ev18]; rfl) (by decide) rfl (dX4_descend_p1 37 rfl) ?_
          refine x_goto (tgt := 17) C (dX4_descend_p1 38 rfl) (by decide) ?_
          refine x_loc (loc' := [(0, .ref (kad κ 126)), (1, .int u1), (2, .long u2), (4, .int u4), (5, .int v18)]) [2, 3, 4, 5, 0] rfl ?_
          exact hc17 v18 s16 hp
        · have hp := hp.1 hc
          refine x_loc (loc' := [(0, .ref (kad κ 126)), (1, .int u1), (2, .long u2), (4, .int u4), (5, .int u5), (6, .int u6), (7, .long u7)]) [1, 2, 3, 4, 5, 6, 7] rfl ?_
          exact J_X4_descend_152_w C hret hrc u1 u2 u4 u5 u6 u7  s16 hc17 hp
def J_X4_descend_114 (rc : Int32 → Int64 → Int32 → St → (St → Prop) → Prop) (K : St → Prop) (c17 : (Int32 × St) → Prop) (u1 : Int32) (u2 : Int64) (u4 : Int32) (u5 : Int32) (u6 : Int32) (u7 : Int64) (σ : St) : Prop := J_X4_descend_115 rc K c17 u1 u2 u4 u5 u6 u7 0 σ
set_option maxHeartbeats 4000000 in
set_option maxRecDepth 100000 in
theorem J_X4_descend_114_w {κ : Kap} {t : Nat} {K : St → Prop} {rc : Int32 → Int64 → Int32 → St → (St → Prop) → Prop} {c17 : (Int32 × St) → Prop} (C : Ok κ RX4 cX4_descend 10 (2 + t + 1)) (hret : RetV κ cX4_descend K) (hrc : ∀ (p1 : Int32) (p2 : Int64) (p4 : Int32)  (σ : St) (K : St → Prop), rc p1 p2 p4 σ K → CtV (kL κ) (kad κ) (kD κ) (kca κ) yX4_descend cX4_descend 10 (2 + t) [.ref (kad κ 126), .int p1, .long p2, .int p4] σ K) (u1 : Int32) (u2 : Int64) (u4 : Int32) (u5 : Int32) (u6 : Int32) (u7 : Int64)        (σ : St) (hc17 : ∀ (u5 : Int32) (σ : St), c17 (u5, σ) → GG κ 17 [(0, .ref (kad κ 126)), (1, .int u1), (2, .long u2), (4, .int u4), (5, .int u5)] [] σ) (hp : J_X4_descend_114 rc K c17 u1 u2 u4 u5 u6 u7 σ) : GG κ 114 [(0, .ref (kad κ 126)), (1, .int u1), (2, .long u2), (4, .int u4), (5, .int u5), (6, .int u6), (7, .long u7)] [] σ := by
  unfold J_X4_descend_114 at hp
  refine x_iconst (v := 0) C (by decide) (dX4_descend_p1 1 rfl) ?_
  exact J_X4_descend_115_w C hret hrc u1 u2 u4 u5 u6 u7 0  σ hc17 hp
def J_X4_descend_90 (rc : Int32 → Int64 → Int32 → St → (St → Prop) → Prop) (K : St → Prop) (c17 : (Int32 × St) → Prop) (u1 : Int32) (u2 : Int64) (u4 : Int32) (u5 : Int32) (u6 : Int32) (u7 : Int64) (σ : St) : Prop := (u6 = 0 → ((u4 = 0 → (J_X4_descend_114 rc K c17 u1 u2 u4 u5 u6 u7 σ)) ∧ (¬ (u4 = 0) → (((σ.1 125 0) = 0 → (J_X4_descend_114 rc K c17 u1 u2 u4 u5 u6 u7 σ)) ∧ (¬ ((σ.1 125 0) = 0) → (J_X4_descend_115 rc K c17 u1 u2 u4 u5 u6 u7 1 σ)))))) ∧ (¬ (u6 = 0) → (J_X4_descend_114 rc K c17 u1 u2 u4 u5 u6 u7 σ))
set_option maxHeartbeats 4000000 in
set_option maxRecDepth 100000 in
theorem J_X4_descend_90_w {κ : Kap} {t : Nat} {K : St → Prop} {rc : Int32 → Int64 → Int32 → St → (St → Prop) → Prop} {c17 : (Int32 × St) → Prop} (C : Ok κ RX4 cX4_descend 10 (2 + t + 1)) (hret : RetV κ cX4_descend K) (hrc : ∀ (p1 : Int32) (p2 : Int64) (p4 : Int32)  (σ : St) (K : St → Prop), rc p1 p2 p4 σ K → CtV (kL κ) (kad κ) (kD κ) (kca κ) yX4_descend cX4_descend 10 (2 + t) [.ref (kad κ 126), .int p1, .long p2, .int p4] σ K) (u1 : Int32) (u2 : Int64) (u4 : Int32) (u5 : Int32) (u6 : Int32) (u7 : Int64)        (σ : St) (hc17 : ∀ (u5 : Int32) (σ : St), c17 (u5, σ) → GG κ 17 [(0, .ref (kad κ 126)), (1, .int u1), (2, .long u2), (4, .int u4), (5, .int u5)] [] σ) (hp : J_X4_descend_90 rc K c17 u1 u2 u4 u5 u6 u7 σ) : GG κ 90 [(0, .ref (kad κ 126)), (1, .int u1), (2, .long u2), (4, .int u4), (5, .int u5), (6, .int u6), (7, .long u7)] [] σ := by
  unfold J_X4_descend_90 at hp
  refine x_iload 5 C rfl (dX4_descend_p0 55 rfl) ?_
  refine x_if_ne (tgt := 114) C (dX4_descend_p0 56 rfl) (by decide) (fun hc => ?_) (fun hc => ?_)
  · have hp := hp.2 hc
    exact J_X4_descend_114_w C hret hrc u1 u2 u4 u5 u6 u7  σ hc17 hp
  · have hp := hp.1 hc
    refine x_iload 3 C rfl (dX4_descend_p0 57 rfl) ?_
    refine x_if_eq (tgt := 114) C (dX4_descend_p0 58 rfl) (by decide) (fun hc => ?_) (fun hc => ?_)
    · have hp := hp.1 hc
      exact J_X4_descend_114_w C hret hrc u1 u2 u4 u5 u6 u7  σ hc17 hp
    · have hp := hp.2 hc
      refine x_aload_n 0 C rfl (dX4_descend_p0 59 rfl) ?_
      refine gX4_0 (b := 125) C rfl (by decide) rfl tw_123 (dX4_descend_p0 60 rfl) ?_
      refine gX1_0 C rfl (by decide) tw_98 (dX4_descend_p0 61 rfl) ?_
      refine x_if_eq (tgt := 114) C (dX4_descend_p0 62 rfl) (by decide) (fun hc => ?_) (fun hc => ?_)
      · have hp := hp.1 hc
        exact J_X4_descend_114_w C hret hrc u1 u2 u4 u5 u6 u7  σ hc17 hp
      · have hp := hp.2 hc
        refine x_iconst (v := 1) C (by decide) (dX4_descend_p0 63 rfl) ?_
        refine x_goto (tgt := 115) C (dX4_descend_p1 0 rfl) (by decide) ?_
        exact J_X4_descend_115_w C hret hrc u1 u2 u4 u5 u6 u7 1  σ hc17 hp
def F_X4_descend_17 (rc : Int32 → Int64 → Int32 → St → (St → Prop) → Prop) (K : St → Prop) (c17 : (Int32 × St) → Prop) (u1 : Int32) (u2 : Int64) (u4 : Int32) (u5 : Int32) (σ : St) : Prop := vp_in u1 7 ∧ (((σ.1 143 (ix u1)) ≤ u5 → (K σ)) ∧ (¬ ((σ.1 143 (ix u1)) ≤ u5) → vp_in u1 7 ∧ vp_in u5 7 ∧ (∀ v4 : Int32, v4 = (σ.1 (135 + 1 + ix u1) (ix u5)) → vp_in v4 7 ∧ vp_in u1 7 ∧ (∀ v7 : Int64, v7 = (u2 + (σ.2.1 (127 + 1 + ix v4) (ix u1))) → (((σ.1 126 9) = (σ.1 126 8) → (vp_in (u1 + 1) 8 ∧ (vp_in ((σ.1 126 8) - 1) 6 ∧ (((σ.2.1 146 (ix ((σ.1 126 8) - 1))) < (v7 + (σ.2.1 144 (ix (u1 + 1)))) → (J_X4_descend_90 rc K c17 u1 u2 u4 u5 v4 v7 σ)) ∧ (¬ ((σ.2.1 146 (ix ((σ.1 126 8) - 1))) < (v7 + (σ.2.1 144 (ix (u1 + 1))))) → (K σ)))))) ∧ (¬ ((σ.1 126 9) = (σ.1 126 8)) → (J_X4_descend_90 rc K c17 u1 u2 u4 u5 v4 v7 σ)))))))
set_option maxHeartbeats 4000000 in
set_option maxRecDepth 100000 in
theorem F_X4_descend_17_w {κ : Kap} {t : Nat} {K : St → Prop} {rc : Int32 → Int64 → Int32 → St → (St → Prop) → Prop} {c17 : (Int32 × St) → Prop} (C : Ok κ RX4 cX4_descend 10 (2 + t + 1)) (hret : RetV κ cX4_descend K) (hrc : ∀ (p1 : Int32) (p2 : Int64) (p4 : Int32)  (σ : St) (K : St → Prop), rc p1 p2 p4 σ K → CtV (kL κ) (kad κ) (kD κ) (kca κ) yX4_descend cX4_descend 10 (2 + t) [.ref (kad κ 126), .int p1, .long p2, .int p4] σ K) (u1 : Int32) (u2 : Int64) (u4 : Int32) (u5 : Int32)      (σ : St) (hc17 : ∀ (u5 : Int32) (σ : St), c17 (u5, σ) → GG κ 17 [(0, .ref (kad κ 126)), (1, .int u1), (2, .long u2), (4, .int u4), (5, .int u5)] [] σ) (hp : F_X4_descend_17 rc K c17 u1 u2 u4 u5 σ) : GG κ 17 [(0, .ref (kad κ 126)), (1, .int u1), (2, .long u2), (4, .int u4), (5, .int u5)] [] σ := by
  unfold F_X4_descend_17 at hp
  refine x_iload 4 C rfl (dX4_descend_p0 10 rfl) ?_
  refine x_aload_n 0 C rfl (dX4_descend_p0 11 rfl) ?_
  refine gX4_4 (b := 143) C rfl (by decide) rfl tw_127 (dX4_descend_p0 12 rfl) ?_
  refine x_iload_n 1 C rfl (dX4_descend_p0 13 rfl) ?_
  obtain ⟨h1, hp⟩ := hp
  refine x_iald C rfl (by decide) h1 (dX4_descend_p0 14 rfl) ?_
  refine x_icmp_ge (tgt := 190) C (dX4_descend_p0 15 rfl) (by decide) (fun hc => ?_) (fun hc => ?_)
  · have hp := hp.1 hc
    exact hret _ _ _ (dX4_descend_p1 39 rfl) hp
  · have hp := hp.2 hc
    refine x_aload_n 0 C rfl (dX4_descend_p0 16 rfl) ?_
    refine gX4_3 (b := 135) C rfl (by decide) rfl tw_126 (dX4_descend_p0 17 rfl) ?_
    refine x_iload_n 1 C rfl (dX4_descend_p0 18 rfl) ?_
    obtain ⟨h2, hp⟩ := hp
    refine x_aald (c := 13) (b := 135 + 1 + ix u1) C rfl (by decide) rfl rfl (by decide) h2 (row_mr13 rfl (by decide) h2) (dX4_descend_p0 19 rfl) ?_
    refine x_iload 4 C rfl (dX4_descend_p0 20 rfl) ?_
    obtain ⟨h3, hp⟩ := hp
    refine x_iald C (row_kd13 rfl (by decide) h2) (row_lt13 rfl (by decide) h2) (vp_ln ((row_ln13 rfl (by decide) h2).trans rfl) h3) (dX4_descend_p0 21 rfl) ?_
    refine x_topI (fun v4 ev4 => ?_)
    have hp := hp v4 ev4
    refine x_istore (loc' := [(6, .int v4), (0, .ref (kad κ 126)), (1, .int u1), (2, .long u2), (4, .int u4), (5, .int u5)]) C (by decide) rfl (dX4_descend_p0 22 rfl) ?_
    refine x_lload_n 3 C rfl (dX4_descend_p0 23 rfl) ?_
    refine x_aload_n 1 C rfl (dX4_descend_p0 24 rfl) ?_
    refine gX4_2 (b := 127) C rfl (by decide) rfl tw_125 (dX4_descend_p0 25 rfl) ?_
    refine x_iload 0 C rfl (dX4_descend_p0 26 rfl) ?_
    obtain ⟨h5, hp⟩ := hp
    refine x_aald (c := 14) (b := 127 + 1 + ix v4) C rfl (by decide) rfl rfl (by decide) h5 (row_mr14 rfl (by decide) h5) (dX4_descend_p0 27 rfl) ?_
    refine x_iload_n 2 C rfl (dX4_descend_p0 28 rfl) ?_
    obtain ⟨h6, hp⟩ := hp
    refine x_lald C (row_kd14 rfl (by decide) h5) (row_lt14 rfl (by decide) h5) (vp_ln ((row_ln14 rfl (by decide) h5).trans rfl) h6) (dX4_descend_p0 29 rfl) ?_
    refine x_ladd C (dX4_descend_p0 30 rfl) ?_
    refine x_topL (fun v7 ev7 => ?_)
    have hp := hp v7 ev7
    refine x_lstore (loc' := [(7, .long v7), (6, .int v4), (0, .ref (kad κ 126)), (1, .int u1), (2, .long u2), (4, .int u4), (5, .int u5)]) C (by decide) rfl (dX4_descend_p0 31 rfl) ?_
    refine x_aload_n 2 C rfl (dX4_descend_p0 32 rfl) ?_
    refine gX4_9 C rfl (by decide) tw_132 (dX4_descend_p0 33 rfl) ?_
    refine x_aload_n 2 C rfl (dX4_descend_p0 34 rfl) ?_
    refine gX4_8 C rfl (by decide) tw_131 (dX4_descend_p0 35 rfl) ?_
    refine x_icmp_ne (tgt := 90) C (dX4_descend_p0 36 rfl) (by decide) (fun hc => ?_) (fun hc => ?_)
    · have hp := hp.2 hc
      refine x_loc (loc' := [(0, .ref (kad κ 126)), (1, .int u1), (2, .long u2), (4, .int u4), (5, .int u5), (6, .int v4), (7, .long v7)]) [2, 3, 4, 5, 6, 1, 0] rfl ?_
      exact J_X4_descend_90_w C hret hrc u1 u2 u4 u5 v4 v7  σ hc17 hp
    · have hp := hp.1 hc
      refine x_lload 0 C rfl (dX4_descend_p0 37 rfl) ?_
      refine x_aload_n 2 C rfl (dX4_descend_p0 38 rfl) ?_
      refine gX4_5 (b := 144) C rfl (by decide) rfl tw_128 (dX4_descend_p0 39 rfl) ?_
      refine x_iload_n 3 C rfl (dX4_descend_p0 40 rfl) ?_
      refine x_iconst (v := 1) C (by decide) (dX4_descend_p0 41 rfl) ?_
      refine x_iadd C (dX4_descend_p0 42 rfl) ?_
      obtain ⟨h19, hp⟩ := hp
      refine x_lald C rfl (by decide) h19 (dX4_descend_p0 43 rfl) ?_
      refine x_ladd C (dX4_descend_p0 44 rfl) ?_
      refine x_aload_n 2 C rfl (dX4_descend_p0 45 rfl) ?_
      refine gX4_7 (b := 146) C rfl (by decide) rfl tw_130 (dX4_descend_p0 46 rfl) ?_
      refine x_aload_n 2 C rfl (dX4_descend_p0 47 rfl) ?_
      refine gX4_8 C rfl (by decide) tw_131 (dX4_descend_p0 48 rfl) ?_
      refine x_iconst (v := 1) C (by decide) (dX4_descend_p0 49 rfl) ?_
      refine x_isub C (dX4_descend_p0 50 rfl) ?_
      obtain ⟨h20, hp⟩ := hp
      refine x_lald C rfl (by decide) h20 (dX4_descend_p0 51 rfl) ?_
      refine x_lcmp C (dX4_descend_p0 52 rfl) ?_
      refine x_if_gt (tgt := 90) C (dX4_descend_p0 53 rfl) (by decide) (fun hc => ?_) (fun hc => ?_)
      · have hp := hp.1 (lgc_gt.mp hc)
        refine x_loc (loc' := [(0, .ref (kad κ 126)), (1, .int u1), (2, .long u2), (4, .int u4), (5, .int u5), (6, .int v4), (7, .long v7)]) [2, 3, 4, 5, 6, 1, 0] rfl ?_
        exact J_X4_descend_90_w C hret hrc u1 u2 u4 u5 v4 v7  σ hc17 hp
      · have hp := hp.2 (fun q => hc (lgc_gt.mpr q))
        exact hret _ _ _ (dX4_descend_p0 54 rfl) hp
def B_X4_descend (rc : Int32 → Int64 → Int32 → St → (St → Prop) → Prop) (p1 : Int32) (p2 : Int64) (p4 : Int32) (σ : St) (K : St → Prop) : Prop := (p1 ≤ (σ.1 126 1) → (LpE (fun c s => F_X4_descend_17 rc K  c p1 p2 p4 s.1 s.2) (0, σ))) ∧ (¬ (p1 ≤ (σ.1 126 1)) → P_X4_keep p2 σ (fun s21 => K s21))
def P_X4_descend : Nat → Int32 → Int64 → Int32 → St → (St → Prop) → Prop
  | 0 => fun _ _ _ _ _ => False
  | t + 1 => B_X4_descend (P_X4_descend t)
set_option maxHeartbeats 4000000 in
set_option maxRecDepth 100000 in
theorem b_X4_descend {κ : Kap} {t : Nat} {rc : Int32 → Int64 → Int32 → St → (St → Prop) → Prop} {K : St → Prop} (C : Ok κ RX4 cX4_descend 10 (2 + t + 1)) (hret : RetV κ cX4_descend K) (hrc : ∀ (p1 : Int32) (p2 : Int64) (p4 : Int32)  (σ : St) (K : St → Prop), rc p1 p2 p4 σ K → CtV (kL κ) (kad κ) (kD κ) (kca κ) yX4_descend cX4_descend 10 (2 + t) [.ref (kad κ 126), .int p1, .long p2, .int p4] σ K) (p1 : Int32) (p2 : Int64) (p4 : Int32)  (σ : St) (hp : B_X4_descend rc p1 p2 p4 σ K) : GG κ 0 [(0, .ref (kad κ 126)), (1, .int p1), (2, .long p2), (4, .int p4)] [] σ := by
  unfold B_X4_descend at hp
  refine x_iload_n 1 C rfl (dX4_descend_p0 0 rfl) ?_
  refine x_aload_n 0 C rfl (dX4_descend_p0 1 rfl) ?_
  refine gX4_1 C rfl (by decide) tw_124 (dX4_descend_p0 2 rfl) ?_
  refine x_icmp_le (tgt := 14) C (dX4_descend_p0 3 rfl) (by decide) (fun hc => ?_) (fun hc => ?_)
  · have hp := hp.1 hc
    refine x_iconst (v := 0) C (by decide) (dX4_descend_p0 8 rfl) ?_
    refine x_istore (loc' := [(5, .int 0), (0, .ref (kad κ 126)), (1, .int p1), (2, .long p2), (4, .int p4)]) C (by decide) rfl (dX4_descend_p0 9 rfl) ?_
    refine x_loc (loc' := [(0, .ref (kad κ 126)), (1, .int p1), (2, .long p2), (4, .int p4), (5, .int 0)]) [1, 2, 3, 4, 0] rfl ?_
    exact LpE_GG (S := (Int32 × St)) (F := fun c s => F_X4_descend_17 rc K  c p1 p2 p4 s.1 s.2) (W := fun s => GG κ 17 [(0, .ref (kad κ 126)), (1, .int p1), (2, .long p2), (4, .int p4), (5, .int s.1)] [] s.2) (fun c s hcc hp => F_X4_descend_17_w C hret hrc p1 p2 p4 s.1  s.2  (fun u5 σ h => hcc (u5, σ) h) hp) hp
  · have hp := hp.2 hc
    refine x_aload_n 0 C rfl (dX4_descend_p0 4 rfl) ?_
    refine x_lload_n 2 C rfl (dX4_descend_p0 5 rfl) ?_
    refine x_cvV (As := [.long p2]) (st := []) C LRX4_67 (ci := 4) rfl rfl (by decide) (by decide) (m_X4_keep (kL κ) (kad κ) (kD κ) (kca κ) C.ado p2  σ _ hp) rfl (by omega) rfl (Nat.le_of_ble_eq_true rfl) (dX4_descend_p0 6 rfl) (fun s21 hp => ?_)
    exact hret _ _ _ (dX4_descend_p0 7 rfl) hp
theorem m_X4_descend_t : ∀ (t : Nat) (l : Launch) (ad : Nat → Nat) (D : va_G) (ca : Nat → ClassId) (had : adOk ad) (p1 : Int32) (p2 : Int64) (p4 : Int32)  (σ : St) (K : St → Prop) (hp : P_X4_descend t p1 p2 p4 σ K), CtV l ad D ca yX4_descend cX4_descend 10 (2 + t) [.ref (ad 126), .int p1, .long p2, .int p4] σ K := by
  intro t
  induction t with
  | zero => intro l ad D ca had p1 p2 p4 σ K hp; exact hp.elim
  | succ t ih =>
    intro l ad D ca had p1 p2 p4 σ K hp
    exact CtV_of (d := 2 + t + 1) (av := fun ad => [.ref (ad 126), .int p1, .long p2, .int p4]) (plainFor_of_name (by decide)) had (Nat.le_of_ble_eq_true rfl) (fun κ C hret => b_X4_descend C hret (fun p1 p2 p4 σ K h => ih (kL κ) (kad κ) (kD κ) (kca κ) C.ado p1 p2 p4 σ K h) p1 p2 p4 σ hp)
theorem m_X4_descend (l : Launch) (ad : Nat → Nat) (D : va_G) (ca : Nat → ClassId) (had : adOk ad) (t : Nat) (p1 : Int32) (p2 : Int64) (p4 : Int32)  (σ : St) (K : St → Prop) (hp : P_X4_descend t p1 p2 p4 σ K) : CtV l ad D ca yX4_descend cX4_descend 10 (2 + t) [.ref (ad 126), .int p1, .long p2, .int p4] σ K := m_X4_descend_t t l ad D ca had p1 p2 p4 σ K hp
def F_X4_headAt_19 (K : Int32 → St → Prop) (c19 : (Int32 × Int32 × St) → Prop) (u2 : Int32) (u3 : Int32) (u4 : Int32) (σ : St) : Prop := (u4 ≤ u2 → (K (u3 - u3 / 7 * 7) σ)) ∧ (¬ (u4 ≤ u2) → (∀ v5 : Int32, v5 = (u3 / 7) → (∀ v6 : Int32, v6 = u4 + (-1) → c19 (v5, v6, σ))))
set_option maxHeartbeats 4000000 in
set_option maxRecDepth 100000 in
theorem F_X4_headAt_19_w {κ : Kap} {K : Int32 → St → Prop} {c19 : (Int32 × Int32 × St) → Prop} (C : Ok κ RX4 cX4_headAt 5 1) (hret : RetI κ cX4_headAt .int K) (u2 : Int32) (u3 : Int32) (u4 : Int32)    (σ : St) (hc19 : ∀ (u3 : Int32) (u4 : Int32) (σ : St), c19 (u3, u4, σ) → GG κ 19 [(2, .int u2), (3, .int u3), (4, .int u4)] [] σ) (hp : F_X4_headAt_19 K c19 u2 u3 u4 σ) : GG κ 19 [(2, .int u2), (3, .int u3), (4, .int u4)] [] σ := by
  unfold F_X4_headAt_19 at hp
  refine x_iload 2 C rfl (dX4_headAt_p0 11 rfl) ?_
  refine x_iload_n 0 C rfl (dX4_headAt_p0 12 rfl) ?_
  refine x_icmp_le (tgt := 36) C (dX4_headAt_p0 13 rfl) (by decide) (fun hc => ?_) (fun hc => ?_)
  · have hp := hp.1 hc
    refine x_iload_n 1 C rfl (dX4_headAt_p0 20 rfl) ?_
    refine x_bipush (v := 7) C (by decide) (dX4_headAt_p0 21 rfl) ?_
    refine x_irem C (by decide) (dX4_headAt_p0 22 rfl) ?_
    exact hret _ _ _ _ (dX4_headAt_p0 23 rfl) (nar_i _) hp
  · have hp := hp.2 hc
    refine x_iload_n 1 C rfl (dX4_headAt_p0 14 rfl) ?_
    refine x_bipush (v := 7) C (by decide) (dX4_headAt_p0 15 rfl) ?_
    refine x_idiv C (by decide) (dX4_headAt_p0 16 rfl) ?_
    refine x_topI (fun v5 ev5 => ?_)
    have hp := hp v5 ev5
    refine x_istore_n (loc' := [(3, .int v5), (2, .int u2), (4, .int u4)]) C rfl (by decide) rfl (dX4_headAt_p0 17 rfl) ?_
    obtain ⟨v6, ev6⟩ : ∃ z : Int32, z = u4 + (-1) := ⟨_, rfl⟩
    have hp := hp v6 ev6
    refine x_iinc (v := v6) (loc' := [(4, .int v6), (3, .int v5), (2, .int u2)]) 2 C rfl (by rw [ev6]; rfl) (by decide) rfl (dX4_headAt_p0 18 rfl) ?_
    refine x_goto (tgt := 19) C (dX4_headAt_p0 19 rfl) (by decide) ?_
    refine x_loc (loc' := [(2, .int u2), (3, .int v5), (4, .int v6)]) [2, 1, 0] rfl ?_
    exact hc19 v5 v6 σ hp
def P_X4_headAt (p1 : Int32) (p2 : Int32) (σ : St) (K : Int32 → St → Prop) : Prop := vp_in p1 6 ∧ (P_J9_floorMod_f86c9 (-(σ.2.1 146 (ix p1))) 117649 σ (fun r3 s2 => ∀ v4 : Int32, v4 = (Int64.toInt32 r3) → (LpE (fun c s => F_X4_headAt_19 K  c p2 s.1 s.2.1 s.2.2) (v4, 6, s2))))
set_option maxHeartbeats 4000000 in
set_option maxRecDepth 100000 in
theorem m_X4_headAt (l : Launch) (ad : Nat → Nat) (D : va_G) (ca : Nat → ClassId) (had : adOk ad) (p1 : Int32) (p2 : Int32)  (σ : St) (K : Int32 → St → Prop) (hp : P_X4_headAt p1 p2 σ K) : CtI l ad D ca yX4_headAt cX4_headAt 5 .int 1 [.ref (ad 126), .int p1, .int p2] σ K := CtI_of (av := fun ad => [.ref (ad 126), .int p1, .int p2]) (plainFor_of_name (by decide)) had (Nat.le_of_ble_eq_true rfl) (fun κ C hret => by
  have C : Ok κ RX4 cX4_headAt 5 1 := C
  show GG κ 0 [(0, .ref (kad κ 126)), (1, .int p1), (2, .int p2)] [] σ
  unfold P_X4_headAt at hp
  refine x_aload_n 0 C rfl (dX4_headAt_p0 0 rfl) ?_
  refine gX4_7 (b := 146) C rfl (by decide) rfl tw_130 (dX4_headAt_p0 1 rfl) ?_
  refine x_iload_n 1 C rfl (dX4_headAt_p0 2 rfl) ?_
  obtain ⟨h1, hp⟩ := hp
  refine x_lald C rfl (by decide) h1 (dX4_headAt_p0 3 rfl) ?_
  refine x_lneg C (dX4_headAt_p0 4 rfl) ?_
  refine x_ldc2 C tw_412 (dX4_headAt_p0 5 rfl) ?_
  refine x_csL (As := [.long (-(σ.2.1 146 (ix p1))), .long 117649]) (st := []) C LRX4_95 (m_J9_floorMod_f86c9 (kL κ) (kad κ) (kD κ) (kca κ) C.ado (-(σ.2.1 146 (ix p1))) 117649  σ _ hp) rfl (by decide) rfl (Nat.le_of_ble_eq_true rfl) (dX4_headAt_p0 6 rfl) (fun r3 s2 hp => ?_)
  refine x_l2i C (dX4_headAt_p0 7 rfl) ?_
  refine x_topI (fun v4 ev4 => ?_)
  have hp := hp v4 ev4
  refine x_istore_n (loc' := [(3, .int v4), (0, .ref (kad κ 126)), (1, .int p1), (2, .int p2)]) C rfl (by decide) rfl (dX4_headAt_p0 8 rfl) ?_
  refine x_bipush (v := 6) C (by decide) (dX4_headAt_p0 9 rfl) ?_
  refine x_istore (loc' := [(4, .int 6), (3, .int v4), (0, .ref (kad κ 126)), (1, .int p1), (2, .int p2)]) C (by decide) rfl (dX4_headAt_p0 10 rfl) ?_
  refine x_loc (loc' := [(2, .int p2), (3, .int v4), (4, .int 6)]) [4, 1, 0] rfl ?_
  exact LpE_GG (S := (Int32 × Int32 × St)) (F := fun c s => F_X4_headAt_19 K  c p2 s.1 s.2.1 s.2.2) (W := fun s => GG κ 19 [(2, .int p2), (3, .int s.1), (4, .int s.2.1)] [] s.2.2) (fun c s hcc hp => F_X4_headAt_19_w C hret p2 s.1 s.2.1  s.2.2  (fun u3 u4 σ h => hcc (u3, u4, σ) h) hp) hp)
def F_X4_keepOnly_5 (K : St → Prop) (c5 : (Int32 × Int32 × St) → Prop) (u1 : Int32) (u2 : Int32) (u3 : Int32) (u4 : Int32) (σ : St) : Prop := vp_in u2 7 ∧ (((σ.1 143 (ix u2)) ≤ u4 → vp_in u2 7 ∧ (∀ s3 : St, s3 = wI σ (135 + 1 + ix u2) (ix 0) u1 → (vp_in u2 7 ∧ ∀ s5 : St, s5 = wI s3 143 (ix u2) u3 → (K s5)))) ∧ (¬ ((σ.1 143 (ix u2)) ≤ u4) → vp_in u2 7 ∧ vp_in u4 7 ∧ (((σ.1 (135 + 1 + ix u2) (ix u4)) = u1 → ∀ v9 : Int32, v9 = u4 + 1 → c5 (1, v9, σ)) ∧ (¬ ((σ.1 (135 + 1 + ix u2) (ix u4)) = u1) → ∀ v8 : Int32, v8 = u4 + 1 → c5 (u3, v8, σ)))))
set_option maxHeartbeats 4000000 in
set_option maxRecDepth 100000 in
theorem F_X4_keepOnly_5_w {κ : Kap} {K : St → Prop} {c5 : (Int32 × Int32 × St) → Prop} (C : Ok κ RX4 cX4_keepOnly 5 0) (hret : RetV κ cX4_keepOnly K) (u1 : Int32) (u2 : Int32) (u3 : Int32) (u4 : Int32)      (σ : St) (hc5 : ∀ (u3 : Int32) (u4 : Int32) (σ : St), c5 (u3, u4, σ) → GG κ 5 [(0, .ref (kad κ 126)), (1, .int u1), (2, .int u2), (3, .int u3), (4, .int u4)] [] σ) (hp : F_X4_keepOnly_5 K c5 u1 u2 u3 u4 σ) : GG κ 5 [(0, .ref (kad κ 126)), (1, .int u1), (2, .int u2), (3, .int u3), (4, .int u4)] [] σ := by
  unfold F_X4_keepOnly_5 at hp
  refine x_iload 4 C rfl (dX4_keepOnly_p0 4 rfl) ?_
  refine x_aload_n 0 C rfl (dX4_keepOnly_p0 5 rfl) ?_
  refine gX4_4 (b := 143) C rfl (by decide) rfl tw_127 (dX4_keepOnly_p0 6 rfl) ?_
  refine x_iload_n 2 C rfl (dX4_keepOnly_p0 7 rfl) ?_
  obtain ⟨h1, hp⟩ := hp
  refine x_iald C rfl (by decide) h1 (dX4_keepOnly_p0 8 rfl) ?_
  refine x_icmp_ge (tgt := 37) C (dX4_keepOnly_p0 9 rfl) (by decide) (fun hc => ?_) (fun hc => ?_)
  · have hp := hp.1 hc
    refine x_aload_n 0 C rfl (dX4_keepOnly_p0 22 rfl) ?_
    refine gX4_3 (b := 135) C rfl (by decide) rfl tw_126 (dX4_keepOnly_p0 23 rfl) ?_
    refine x_iload_n 2 C rfl (dX4_keepOnly_p0 24 rfl) ?_
    obtain ⟨h2, hp⟩ := hp
    refine x_aald (c := 13) (b := 135 + 1 + ix u2) C rfl (by decide) rfl rfl (by decide) h2 (row_mr13 rfl (by decide) h2) (dX4_keepOnly_p0 25 rfl) ?_
    refine x_iconst (v := 0) C (by decide) (dX4_keepOnly_p0 26 rfl) ?_
    refine x_iload_n 1 C rfl (dX4_keepOnly_p0 27 rfl) ?_
    refine x_iast C (row_kd13 rfl (by decide) h2) (row_lt13 rfl (by decide) h2) (vp_ln ((row_ln13 rfl (by decide) h2).trans rfl) (vp_lit (by decide) (by decide))) (dX4_keepOnly_p0 28 rfl) ?_
    refine x_nmS (fun s3 es3 => ?_)
    have hp := hp s3 es3
    refine x_aload_n 0 C rfl (dX4_keepOnly_p0 29 rfl) ?_
    refine gX4_4 (b := 143) C rfl (by decide) rfl tw_127 (dX4_keepOnly_p0 30 rfl) ?_
    refine x_iload_n 2 C rfl (dX4_keepOnly_p0 31 rfl) ?_
    refine x_iload_n 3 C rfl (dX4_keepOnly_p0 32 rfl) ?_
    obtain ⟨h4, hp⟩ := hp
    refine x_iast C rfl (by decide) h4 (dX4_keepOnly_p0 33 rfl) ?_
    refine x_nmS (fun s5 es5 => ?_)
    have hp := hp s5 es5
    exact hret _ _ _ (dX4_keepOnly_p0 34 rfl) hp
  · have hp := hp.2 hc
    refine x_aload_n 0 C rfl (dX4_keepOnly_p0 10 rfl) ?_
    refine gX4_3 (b := 135) C rfl (by decide) rfl tw_126 (dX4_keepOnly_p0 11 rfl) ?_
    refine x_iload_n 2 C rfl (dX4_keepOnly_p0 12 rfl) ?_
    obtain ⟨h6, hp⟩ := hp
    refine x_aald (c := 13) (b := 135 + 1 + ix u2) C rfl (by decide) rfl rfl (by decide) h6 (row_mr13 rfl (by decide) h6) (dX4_keepOnly_p0 13 rfl) ?_
    refine x_iload 4 C rfl (dX4_keepOnly_p0 14 rfl) ?_
    obtain ⟨h7, hp⟩ := hp
    refine x_iald C (row_kd13 rfl (by decide) h6) (row_lt13 rfl (by decide) h6) (vp_ln ((row_ln13 rfl (by decide) h6).trans rfl) h7) (dX4_keepOnly_p0 15 rfl) ?_
    refine x_iload_n 1 C rfl (dX4_keepOnly_p0 16 rfl) ?_
    refine x_icmp_ne (tgt := 31) C (dX4_keepOnly_p0 17 rfl) (by decide) (fun hc => ?_) (fun hc => ?_)
    · have hp := hp.2 hc
      obtain ⟨v8, ev8⟩ : ∃ z : Int32, z = u4 + 1 := ⟨_, rfl⟩
      have hp := hp v8 ev8
      refine x_iinc (v := v8) (loc' := [(4, .int v8), (0, .ref (kad κ 126)), (1, .int u1), (2, .int u2), (3, .int u3)]) 4 C rfl (by rw [ev8]; rfl) (by decide) rfl (dX4_keepOnly_p0 20 rfl) ?_
      refine x_goto (tgt := 5) C (dX4_keepOnly_p0 21 rfl) (by decide) ?_
      refine x_loc (loc' := [(0, .ref (kad κ 126)), (1, .int u1), (2, .int u2), (3, .int u3), (4, .int v8)]) [1, 2, 3, 4, 0] rfl ?_
      exact hc5 u3 v8 σ hp
    · have hp := hp.1 hc
      refine x_iconst (v := 1) C (by decide) (dX4_keepOnly_p0 18 rfl) ?_
      refine x_istore_n (loc' := [(3, .int 1), (0, .ref (kad κ 126)), (1, .int u1), (2, .int u2), (4, .int u4)]) C rfl (by decide) rfl (dX4_keepOnly_p0 19 rfl) ?_
      obtain ⟨v9, ev9⟩ : ∃ z : Int32, z = u4 + 1 := ⟨_, rfl⟩
      have hp := hp v9 ev9
      refine x_iinc (v := v9) (loc' := [(4, .int v9), (3, .int 1), (0, .ref (kad κ 126)), (1, .int u1), (2, .int u2)]) 4 C rfl (by rw [ev9]; rfl) (by decide) rfl (dX4_keepOnly_p0 20 rfl) ?_
      refine x_goto (tgt := 5) C (dX4_keepOnly_p0 21 rfl) (by decide) ?_
      refine x_loc (loc' := [(0, .ref (kad κ 126)), (1, .int u1), (2, .int u2), (3, .int 1), (4, .int v9)]) [2, 3, 4, 1, 0] rfl ?_
      exact hc5 1 v9 σ hp
def P_X4_keepOnly (p1 : Int32) (p2 : Int32) (σ : St) (K : St → Prop) : Prop := LpE (fun c s => F_X4_keepOnly_5 K  c p1 p2 s.1 s.2.1 s.2.2) (0, 0, σ)
set_option maxHeartbeats 4000000 in
set_option maxRecDepth 100000 in
theorem m_X4_keepOnly (l : Launch) (ad : Nat → Nat) (D : va_G) (ca : Nat → ClassId) (had : adOk ad) (p1 : Int32) (p2 : Int32)  (σ : St) (K : St → Prop) (hp : P_X4_keepOnly p1 p2 σ K) : CtV l ad D ca yX4_keepOnly cX4_keepOnly 5 0 [.ref (ad 126), .int p1, .int p2] σ K := CtV_of (av := fun ad => [.ref (ad 126), .int p1, .int p2]) (plainFor_of_name (by decide)) had (Nat.le_of_ble_eq_true rfl) (fun κ C hret => by
  have C : Ok κ RX4 cX4_keepOnly 5 0 := C
  show GG κ 0 [(0, .ref (kad κ 126)), (1, .int p1), (2, .int p2)] [] σ
  unfold P_X4_keepOnly at hp
  refine x_iconst (v := 0) C (by decide) (dX4_keepOnly_p0 0 rfl) ?_
  refine x_istore_n (loc' := [(3, .int 0), (0, .ref (kad κ 126)), (1, .int p1), (2, .int p2)]) C rfl (by decide) rfl (dX4_keepOnly_p0 1 rfl) ?_
  refine x_iconst (v := 0) C (by decide) (dX4_keepOnly_p0 2 rfl) ?_
  refine x_istore (loc' := [(4, .int 0), (3, .int 0), (0, .ref (kad κ 126)), (1, .int p1), (2, .int p2)]) C (by decide) rfl (dX4_keepOnly_p0 3 rfl) ?_
  refine x_loc (loc' := [(0, .ref (kad κ 126)), (1, .int p1), (2, .int p2), (3, .int 0), (4, .int 0)]) [2, 3, 4, 1, 0] rfl ?_
  exact LpE_GG (S := (Int32 × Int32 × St)) (F := fun c s => F_X4_keepOnly_5 K  c p1 p2 s.1 s.2.1 s.2.2) (W := fun s => GG κ 5 [(0, .ref (kad κ 126)), (1, .int p1), (2, .int p2), (3, .int s.1), (4, .int s.2.1)] [] s.2.2) (fun c s hcc hp => F_X4_keepOnly_5_w C hret p1 p2 s.1 s.2.1  s.2.2  (fun u3 u4 σ h => hcc (u3, u4, σ) h) hp) hp)
def J_X4_offer_75 (K : St → Prop)  (u1 : Int32) (u2 : Int32) (u5 : Int64) (u7 : Nat) (u8 : Int32) (σ : St) : Prop := vp_in u8 7 ∧ ∀ s8 : St, s8 = wI σ u7 (ix u8) u1 → vp_in u1 7 ∧ (vp_in u2 7 ∧ ∀ s11 : St, s11 = wL s8 (127 + 1 + ix u1) (ix u2) u5 → vp_in u2 7 ∧ (vp_in u2 7 ∧ ∀ s14 : St, s14 = wI s11 143 (ix u2) ((s11.1 143 (ix u2)) + 1) → (K s14)))
set_option maxHeartbeats 4000000 in
set_option maxRecDepth 100000 in
theorem J_X4_offer_75_w {κ : Kap} {K : St → Prop}  (C : Ok κ RX4 cX4_offer 9 0) (hret : RetV κ cX4_offer K) (u1 : Int32) (u2 : Int32) (u5 : Int64) (u7 : Nat) (u8 : Int32)     (hu7k : kd u7 = 10) (hu7l : u7 < NC) (hu7n : ln u7 = 7)  (σ : St)  (hp : J_X4_offer_75 K  u1 u2 u5 u7 u8 σ) : GG κ 75 [(0, .ref (kad κ 126)), (1, .int u1), (2, .int u2), (5, .long u5), (7, .ref (kad κ u7)), (8, .int u8)] [] σ := by
  unfold J_X4_offer_75 at hp
  refine x_aload 4 C rfl (dX4_offer_p0 46 rfl) ?_
  refine x_iload 5 C rfl (dX4_offer_p0 47 rfl) ?_
  refine x_iload_n 1 C rfl (dX4_offer_p0 48 rfl) ?_
  obtain ⟨h7, hp⟩ := hp
  refine x_iast C hu7k hu7l (vp_ln hu7n h7) (dX4_offer_p0 49 rfl) ?_
  refine x_nmS (fun s8 es8 => ?_)
  have hp := hp s8 es8
  refine x_aload_n 0 C rfl (dX4_offer_p0 50 rfl) ?_
  refine gX4_2 (b := 127) C rfl (by decide) rfl tw_125 (dX4_offer_p0 51 rfl) ?_
  refine x_iload_n 1 C rfl (dX4_offer_p0 52 rfl) ?_
  obtain ⟨h9, hp⟩ := hp
  refine x_aald (c := 14) (b := 127 + 1 + ix u1) C rfl (by decide) rfl rfl (by decide) h9 (row_mr14 rfl (by decide) h9) (dX4_offer_p0 53 rfl) ?_
  refine x_iload_n 2 C rfl (dX4_offer_p0 54 rfl) ?_
  refine x_lload 3 C rfl (dX4_offer_p0 55 rfl) ?_
  obtain ⟨h10, hp⟩ := hp
  refine x_last C (row_kd14 rfl (by decide) h9) (row_lt14 rfl (by decide) h9) (vp_ln ((row_ln14 rfl (by decide) h9).trans rfl) h10) (dX4_offer_p0 56 rfl) ?_
  refine x_nmS (fun s11 es11 => ?_)
  have hp := hp s11 es11
  refine x_aload_n 0 C rfl (dX4_offer_p0 57 rfl) ?_
  refine gX4_4 (b := 143) C rfl (by decide) rfl tw_127 (dX4_offer_p0 58 rfl) ?_
  refine x_iload_n 2 C rfl (dX4_offer_p0 59 rfl) ?_
  refine x_dup2 C rfl rfl (dX4_offer_p0 60 rfl) ?_
  obtain ⟨h12, hp⟩ := hp
  refine x_iald C rfl (by decide) h12 (dX4_offer_p0 61 rfl) ?_
  refine x_iconst (v := 1) C (by decide) (dX4_offer_p0 62 rfl) ?_
  refine x_iadd C (dX4_offer_p0 63 rfl) ?_
  obtain ⟨h13, hp⟩ := hp
  refine x_iast C rfl (by decide) h13 (dX4_offer_p1 0 rfl) ?_
  refine x_nmS (fun s14 es14 => ?_)
  have hp := hp s14 es14
  exact hret _ _ _ (dX4_offer_p1 1 rfl) hp
def F_X4_offer_32 (K : St → Prop) (c32 : (Int32 × St) → Prop) (u1 : Int32) (u2 : Int32) (u5 : Int64) (u7 : Nat) (u8 : Int32) (σ : St) : Prop := (u8 ≤ 0 → (J_X4_offer_75 K  u1 u2 u5 u7 u8 σ)) ∧ (¬ (u8 ≤ 0) → (vp_in (u8 - 1) 7 ∧ (vp_in (σ.1 u7 (ix (u8 - 1))) 7 ∧ vp_in u2 7 ∧ ((u5 ≤ (σ.2.1 (127 + 1 + ix (σ.1 u7 (ix (u8 - 1)))) (ix u2)) → (J_X4_offer_75 K  u1 u2 u5 u7 u8 σ)) ∧ (¬ (u5 ≤ (σ.2.1 (127 + 1 + ix (σ.1 u7 (ix (u8 - 1)))) (ix u2))) → (vp_in (u8 - 1) 7 ∧ (vp_in u8 7 ∧ ∀ s20 : St, s20 = wI σ u7 (ix u8) (σ.1 u7 (ix (u8 - 1))) → (∀ v21 : Int32, v21 = u8 + (-1) → c32 (v21, s20)))))))))
set_option maxHeartbeats 4000000 in
set_option maxRecDepth 100000 in
theorem F_X4_offer_32_w {κ : Kap} {K : St → Prop} {c32 : (Int32 × St) → Prop} (C : Ok κ RX4 cX4_offer 9 0) (hret : RetV κ cX4_offer K) (u1 : Int32) (u2 : Int32) (u5 : Int64) (u7 : Nat) (u8 : Int32)     (hu7k : kd u7 = 10) (hu7l : u7 < NC) (hu7n : ln u7 = 7)  (σ : St) (hc32 : ∀ (u8 : Int32) (σ : St), c32 (u8, σ) → GG κ 32 [(0, .ref (kad κ 126)), (1, .int u1), (2, .int u2), (5, .long u5), (7, .ref (kad κ u7)), (8, .int u8)] [] σ) (hp : F_X4_offer_32 K c32 u1 u2 u5 u7 u8 σ) : GG κ 32 [(0, .ref (kad κ 126)), (1, .int u1), (2, .int u2), (5, .long u5), (7, .ref (kad κ u7)), (8, .int u8)] [] σ := by
  unfold F_X4_offer_32 at hp
  refine x_iload 5 C rfl (dX4_offer_p0 21 rfl) ?_
  refine x_if_le (tgt := 75) C (dX4_offer_p0 22 rfl) (by decide) (fun hc => ?_) (fun hc => ?_)
  · have hp := hp.1 hc
    exact J_X4_offer_75_w C hret u1 u2 u5 u7 u8 hu7k hu7l hu7n σ  hp
  · have hp := hp.2 hc
    refine x_aload_n 0 C rfl (dX4_offer_p0 23 rfl) ?_
    refine gX4_2 (b := 127) C rfl (by decide) rfl tw_125 (dX4_offer_p0 24 rfl) ?_
    refine x_aload 4 C rfl (dX4_offer_p0 25 rfl) ?_
    refine x_iload 5 C rfl (dX4_offer_p0 26 rfl) ?_
    refine x_iconst (v := 1) C (by decide) (dX4_offer_p0 27 rfl) ?_
    refine x_isub C (dX4_offer_p0 28 rfl) ?_
    obtain ⟨h15, hp⟩ := hp
    refine x_iald C hu7k hu7l (vp_ln hu7n h15) (dX4_offer_p0 29 rfl) ?_
    obtain ⟨h16, hp⟩ := hp
    refine x_aald (c := 14) (b := 127 + 1 + ix (σ.1 u7 (ix (u8 - 1)))) C rfl (by decide) rfl rfl (by decide) h16 (row_mr14 rfl (by decide) h16) (dX4_offer_p0 30 rfl) ?_
    refine x_iload_n 2 C rfl (dX4_offer_p0 31 rfl) ?_
    obtain ⟨h17, hp⟩ := hp
    refine x_lald C (row_kd14 rfl (by decide) h16) (row_lt14 rfl (by decide) h16) (vp_ln ((row_ln14 rfl (by decide) h16).trans rfl) h17) (dX4_offer_p0 32 rfl) ?_
    refine x_lload 3 C rfl (dX4_offer_p0 33 rfl) ?_
    refine x_lcmp C (dX4_offer_p0 34 rfl) ?_
    refine x_if_ge (tgt := 75) C (dX4_offer_p0 35 rfl) (by decide) (fun hc => ?_) (fun hc => ?_)
    · have hp := hp.1 (lgc_ge.mp hc)
      exact J_X4_offer_75_w C hret u1 u2 u5 u7 u8 hu7k hu7l hu7n σ  hp
    · have hp := hp.2 (fun q => hc (lgc_ge.mpr q))
      refine x_aload 4 C rfl (dX4_offer_p0 36 rfl) ?_
      refine x_iload 5 C rfl (dX4_offer_p0 37 rfl) ?_
      refine x_aload 4 C rfl (dX4_offer_p0 38 rfl) ?_
      refine x_iload 5 C rfl (dX4_offer_p0 39 rfl) ?_
      refine x_iconst (v := 1) C (by decide) (dX4_offer_p0 40 rfl) ?_
      refine x_isub C (dX4_offer_p0 41 rfl) ?_
      obtain ⟨h18, hp⟩ := hp
      refine x_iald C hu7k hu7l (vp_ln hu7n h18) (dX4_offer_p0 42 rfl) ?_
      obtain ⟨h19, hp⟩ := hp
      refine x_iast C hu7k hu7l (vp_ln hu7n h19) (dX4_offer_p0 43 rfl) ?_
      refine x_nmS (fun s20 es20 => ?_)
      have hp := hp s20 es20
      obtain ⟨v21, ev21⟩ : ∃ z : Int32, z = u8 + (-1) := ⟨_, rfl⟩
      have hp := hp v21 ev21
      refine x_iinc (v := v21) (loc' := [(8, .int v21), (0, .ref (kad κ 126)), (1, .int u1), (2, .int u2), (5, .long u5), (7, .ref (kad κ u7))]) 5 C rfl (by rw [ev21]; rfl) (by decide) rfl (dX4_offer_p0 44 rfl) ?_
      refine x_goto (tgt := 32) C (dX4_offer_p0 45 rfl) (by decide) ?_
      refine x_loc (loc' := [(0, .ref (kad κ 126)), (1, .int u1), (2, .int u2), (5, .long u5), (7, .ref (kad κ u7)), (8, .int v21)]) [1, 2, 3, 4, 5, 0] rfl ?_
      exact hc32 v21 s20 hp
def P_X4_offer (p1 : Int32) (p2 : Int32) (p3 : Int64) (σ : St) (K : St → Prop) : Prop := vp_in p2 7 ∧ (∀ v3 : Int64, v3 = ((p3 * 117649) - (Int32.toInt64 (p1 * (plv (ix p2))))) → vp_in p2 7 ∧ vp_in p2 7 ∧ (∀ v6 : Int32, v6 = (σ.1 143 (ix p2)) → (LpE (fun c s => F_X4_offer_32 K  c p1 p2 v3 (135 + 1 + ix p2) s.1 s.2) (v6, σ))))
set_option maxHeartbeats 4000000 in
set_option maxRecDepth 100000 in
theorem m_X4_offer (l : Launch) (ad : Nat → Nat) (D : va_G) (ca : Nat → ClassId) (had : adOk ad) (p1 : Int32) (p2 : Int32) (p3 : Int64)  (σ : St) (K : St → Prop) (hp : P_X4_offer p1 p2 p3 σ K) : CtV l ad D ca yX4_offer cX4_offer 9 0 [.ref (ad 126), .int p1, .int p2, .long p3] σ K := CtV_of (av := fun ad => [.ref (ad 126), .int p1, .int p2, .long p3]) (plainFor_of_name (by decide)) had (Nat.le_of_ble_eq_true rfl) (fun κ C hret => by
  have C : Ok κ RX4 cX4_offer 9 0 := C
  show GG κ 0 [(0, .ref (kad κ 126)), (1, .int p1), (2, .int p2), (3, .long p3)] [] σ
  unfold P_X4_offer at hp
  refine x_lload_n 3 C rfl (dX4_offer_p0 0 rfl) ?_
  refine x_ldc2 C tw_412 (dX4_offer_p0 1 rfl) ?_
  refine x_lmul C (dX4_offer_p0 2 rfl) ?_
  refine x_iload_n 1 C rfl (dX4_offer_p0 3 rfl) ?_
  refine x_plc (i := 0) C tw_413 (dX4_offer_p0 4 rfl) (fun t1 hTt1 => ?_)
  refine x_iload_n 2 C rfl (dX4_offer_p0 5 rfl) ?_
  obtain ⟨h2, hp⟩ := hp
  refine x_pli C hTt1 h2 (dX4_offer_p0 6 rfl) ?_
  refine x_imul C (dX4_offer_p0 7 rfl) ?_
  refine x_i2l C (dX4_offer_p0 8 rfl) ?_
  refine x_lsub C (dX4_offer_p0 9 rfl) ?_
  refine x_topL (fun v3 ev3 => ?_)
  have hp := hp v3 ev3
  refine x_lstore (loc' := [(5, .long v3), (0, .ref (kad κ 126)), (1, .int p1), (2, .int p2), (3, .long p3)]) C (by decide) rfl (dX4_offer_p0 10 rfl) ?_
  refine x_aload_n 1 C rfl (dX4_offer_p0 11 rfl) ?_
  refine gX4_3 (b := 135) C rfl (by decide) rfl tw_126 (dX4_offer_p0 12 rfl) ?_
  refine x_iload_n 3 C rfl (dX4_offer_p0 13 rfl) ?_
  obtain ⟨h4, hp⟩ := hp
  refine x_aald (c := 13) (b := 135 + 1 + ix p2) C rfl (by decide) rfl rfl (by decide) h4 (row_mr13 rfl (by decide) h4) (dX4_offer_p0 14 rfl) ?_
  refine x_astore (loc' := [(7, .ref (kad κ (135 + 1 + ix p2))), (5, .long v3), (0, .ref (kad κ 126)), (1, .int p1), (2, .int p2), (3, .long p3)]) C (by decide) rfl (dX4_offer_p0 15 rfl) ?_
  refine x_aload_n 2 C rfl (dX4_offer_p0 16 rfl) ?_
  refine gX4_4 (b := 143) C rfl (by decide) rfl tw_127 (dX4_offer_p0 17 rfl) ?_
  refine x_iload_n 4 C rfl (dX4_offer_p0 18 rfl) ?_
  obtain ⟨h5, hp⟩ := hp
  refine x_iald C rfl (by decide) h5 (dX4_offer_p0 19 rfl) ?_
  refine x_topI (fun v6 ev6 => ?_)
  have hp := hp v6 ev6
  refine x_istore (loc' := [(8, .int v6), (7, .ref (kad κ (135 + 1 + ix p2))), (5, .long v3), (0, .ref (kad κ 126)), (1, .int p1), (2, .int p2), (3, .long p3)]) C (by decide) rfl (dX4_offer_p0 20 rfl) ?_
  refine x_loc (loc' := [(0, .ref (kad κ 126)), (1, .int p1), (2, .int p2), (5, .long v3), (7, .ref (kad κ (135 + 1 + ix p2))), (8, .int v6)]) [3, 4, 5, 2, 1, 0] rfl ?_
  exact LpE_GG (S := (Int32 × St)) (F := fun c s => F_X4_offer_32 K  c p1 p2 v3 (135 + 1 + ix p2) s.1 s.2) (W := fun s => GG κ 32 [(0, .ref (kad κ 126)), (1, .int p1), (2, .int p2), (5, .long v3), (7, .ref (kad κ (135 + 1 + ix p2))), (8, .int s.1)] [] s.2) (fun c s hcc hp => F_X4_offer_32_w C hret p1 p2 v3 (135 + 1 + ix p2) s.1 (row_kd13 rfl (by decide) h4) (row_lt13 rfl (by decide) h4) ((row_ln13 rfl (by decide) h4).trans rfl) s.2  (fun u8 σ h => hcc (u8, σ) h) hp) hp)
def P_X4_scoreAt (p1 : Int32) (σ : St) (K : Int32 → St → Prop) : Prop := vp_in p1 6 ∧ (P_J9_floorDiv_f86c9 (-(σ.2.1 146 (ix p1))) 117649 σ (fun r3 s2 => K (Int64.toInt32 (-r3)) s2))
set_option maxHeartbeats 4000000 in
set_option maxRecDepth 100000 in
theorem m_X4_scoreAt (l : Launch) (ad : Nat → Nat) (D : va_G) (ca : Nat → ClassId) (had : adOk ad) (p1 : Int32)  (σ : St) (K : Int32 → St → Prop) (hp : P_X4_scoreAt p1 σ K) : CtI l ad D ca yX4_scoreAt cX4_scoreAt 2 .int 1 [.ref (ad 126), .int p1] σ K := CtI_of (av := fun ad => [.ref (ad 126), .int p1]) (plainFor_of_name (by decide)) had (Nat.le_of_ble_eq_true rfl) (fun κ C hret => by
  have C : Ok κ RX4 cX4_scoreAt 2 1 := C
  show GG κ 0 [(0, .ref (kad κ 126)), (1, .int p1)] [] σ
  unfold P_X4_scoreAt at hp
  refine x_aload_n 0 C rfl (dX4_scoreAt_p0 0 rfl) ?_
  refine gX4_7 (b := 146) C rfl (by decide) rfl tw_130 (dX4_scoreAt_p0 1 rfl) ?_
  refine x_iload_n 1 C rfl (dX4_scoreAt_p0 2 rfl) ?_
  obtain ⟨h1, hp⟩ := hp
  refine x_lald C rfl (by decide) h1 (dX4_scoreAt_p0 3 rfl) ?_
  refine x_lneg C (dX4_scoreAt_p0 4 rfl) ?_
  refine x_ldc2 C tw_412 (dX4_scoreAt_p0 5 rfl) ?_
  refine x_csL (As := [.long (-(σ.2.1 146 (ix p1))), .long 117649]) (st := []) C LRX4_91 (m_J9_floorDiv_f86c9 (kL κ) (kad κ) (kD κ) (kca κ) C.ado (-(σ.2.1 146 (ix p1))) 117649  σ _ hp) rfl (by decide) rfl (Nat.le_of_ble_eq_true rfl) (dX4_scoreAt_p0 6 rfl) (fun r3 s2 hp => ?_)
  refine x_lneg C (dX4_scoreAt_p0 7 rfl) ?_
  refine x_l2i C (dX4_scoreAt_p0 8 rfl) ?_
  exact hret _ _ _ _ (dX4_scoreAt_p0 9 rfl) (nar_i _) hp)
def F_X4_seek_36 (K : St → Prop) (c36 : (Int32 × St) → Prop) (u2 : Int32) (σ : St) : Prop := (u2 < 1 → P_X4_descend 8 1 0 0 σ (fun s8 => K s8)) ∧ (¬ (u2 < 1) → vp_in u2 7 ∧ (((σ.1 143 (ix u2)) = 0 → (K σ)) ∧ (¬ ((σ.1 143 (ix u2)) = 0) → (vp_in (u2 + 1) 8 ∧ vp_in u2 7 ∧ (vp_in (σ.1 (135 + 1 + ix u2) (ix 0)) 7 ∧ vp_in u2 7 ∧ (vp_in u2 8 ∧ ∀ s15 : St, s15 = wL σ 144 (ix u2) ((σ.2.1 144 (ix (u2 + 1))) + (σ.2.1 (127 + 1 + ix (σ.1 (135 + 1 + ix u2) (ix 0))) (ix u2))) → (∀ v16 : Int32, v16 = u2 + (-1) → c36 (v16, s15))))))))
set_option maxHeartbeats 4000000 in
set_option maxRecDepth 100000 in
theorem F_X4_seek_36_w {κ : Kap} {K : St → Prop} {c36 : (Int32 × St) → Prop} (C : Ok κ RX4 cX4_seek 3 11) (hret : RetV κ cX4_seek K) (u2 : Int32)   (σ : St) (hc36 : ∀ (u2 : Int32) (σ : St), c36 (u2, σ) → GG κ 36 [(0, .ref (kad κ 126)), (2, .int u2)] [] σ) (hp : F_X4_seek_36 K c36 u2 σ) : GG κ 36 [(0, .ref (kad κ 126)), (2, .int u2)] [] σ := by
  unfold F_X4_seek_36 at hp
  refine x_iload_n 1 C rfl (dX4_seek_p0 21 rfl) ?_
  refine x_iconst (v := 1) C (by decide) (dX4_seek_p0 22 rfl) ?_
  refine x_icmp_lt (tgt := 87) C (dX4_seek_p0 23 rfl) (by decide) (fun hc => ?_) (fun hc => ?_)
  · have hp := hp.1 hc
    refine x_aload_n 0 C rfl (dX4_seek_p0 54 rfl) ?_
    refine x_iconst (v := 1) C (by decide) (dX4_seek_p0 55 rfl) ?_
    refine x_lconst (v := 0) C (by decide) (dX4_seek_p0 56 rfl) ?_
    refine x_iconst (v := 0) C (by decide) (dX4_seek_p0 57 rfl) ?_
    refine x_cvV (As := [.int 1, .long 0, .int 0]) (st := []) C LRX4_63 (ci := 4) rfl rfl (by decide) (by decide) (m_X4_descend (kL κ) (kad κ) (kD κ) (kca κ) C.ado 8 1 0 0  σ _ hp) rfl (by decide) rfl (Nat.le_of_ble_eq_true rfl) (dX4_seek_p0 58 rfl) (fun s8 hp => ?_)
    exact hret _ _ _ (dX4_seek_p0 59 rfl) hp
  · have hp := hp.2 hc
    refine x_aload_n 0 C rfl (dX4_seek_p0 24 rfl) ?_
    refine gX4_4 (b := 143) C rfl (by decide) rfl tw_127 (dX4_seek_p0 25 rfl) ?_
    refine x_iload_n 1 C rfl (dX4_seek_p0 26 rfl) ?_
    obtain ⟨h9, hp⟩ := hp
    refine x_iald C rfl (by decide) h9 (dX4_seek_p0 27 rfl) ?_
    refine x_if_ne (tgt := 51) C (dX4_seek_p0 28 rfl) (by decide) (fun hc => ?_) (fun hc => ?_)
    · have hp := hp.2 hc
      refine x_aload_n 0 C rfl (dX4_seek_p0 30 rfl) ?_
      refine gX4_5 (b := 144) C rfl (by decide) rfl tw_128 (dX4_seek_p0 31 rfl) ?_
      refine x_iload_n 1 C rfl (dX4_seek_p0 32 rfl) ?_
      refine x_aload_n 0 C rfl (dX4_seek_p0 33 rfl) ?_
      refine gX4_5 (b := 144) C rfl (by decide) rfl tw_128 (dX4_seek_p0 34 rfl) ?_
      refine x_iload_n 1 C rfl (dX4_seek_p0 35 rfl) ?_
      refine x_iconst (v := 1) C (by decide) (dX4_seek_p0 36 rfl) ?_
      refine x_iadd C (dX4_seek_p0 37 rfl) ?_
      obtain ⟨h10, hp⟩ := hp
      refine x_lald C rfl (by decide) h10 (dX4_seek_p0 38 rfl) ?_
      refine x_aload_n 0 C rfl (dX4_seek_p0 39 rfl) ?_
      refine gX4_2 (b := 127) C rfl (by decide) rfl tw_125 (dX4_seek_p0 40 rfl) ?_
      refine x_aload_n 0 C rfl (dX4_seek_p0 41 rfl) ?_
      refine gX4_3 (b := 135) C rfl (by decide) rfl tw_126 (dX4_seek_p0 42 rfl) ?_
      refine x_iload_n 1 C rfl (dX4_seek_p0 43 rfl) ?_
      obtain ⟨h11, hp⟩ := hp
      refine x_aald (c := 13) (b := 135 + 1 + ix u2) C rfl (by decide) rfl rfl (by decide) h11 (row_mr13 rfl (by decide) h11) (dX4_seek_p0 44 rfl) ?_
      refine x_iconst (v := 0) C (by decide) (dX4_seek_p0 45 rfl) ?_
      refine x_iald C (row_kd13 rfl (by decide) h11) (row_lt13 rfl (by decide) h11) (vp_ln ((row_ln13 rfl (by decide) h11).trans rfl) (vp_lit (by decide) (by decide))) (dX4_seek_p0 46 rfl) ?_
      obtain ⟨h12, hp⟩ := hp
      refine x_aald (c := 14) (b := 127 + 1 + ix (σ.1 (135 + 1 + ix u2) (ix 0))) C rfl (by decide) rfl rfl (by decide) h12 (row_mr14 rfl (by decide) h12) (dX4_seek_p0 47 rfl) ?_
      refine x_iload_n 1 C rfl (dX4_seek_p0 48 rfl) ?_
      obtain ⟨h13, hp⟩ := hp
      refine x_lald C (row_kd14 rfl (by decide) h12) (row_lt14 rfl (by decide) h12) (vp_ln ((row_ln14 rfl (by decide) h12).trans rfl) h13) (dX4_seek_p0 49 rfl) ?_
      refine x_ladd C (dX4_seek_p0 50 rfl) ?_
      obtain ⟨h14, hp⟩ := hp
      refine x_last C rfl (by decide) h14 (dX4_seek_p0 51 rfl) ?_
      refine x_nmS (fun s15 es15 => ?_)
      have hp := hp s15 es15
      obtain ⟨v16, ev16⟩ : ∃ z : Int32, z = u2 + (-1) := ⟨_, rfl⟩
      have hp := hp v16 ev16
      refine x_iinc (v := v16) (loc' := [(2, .int v16), (0, .ref (kad κ 126))]) 1 C rfl (by rw [ev16]; rfl) (by decide) rfl (dX4_seek_p0 52 rfl) ?_
      refine x_goto (tgt := 36) C (dX4_seek_p0 53 rfl) (by decide) ?_
      refine x_loc (loc' := [(0, .ref (kad κ 126)), (2, .int v16)]) [1, 0] rfl ?_
      exact hc36 v16 s15 hp
    · have hp := hp.1 hc
      exact hret _ _ _ (dX4_seek_p0 29 rfl) hp
def P_X4_seek (p1 : Int32) (σ : St) (K : St → Prop) : Prop := ∀ v1 : Int32, v1 = (if 6 < p1 then 6 else p1) → (∀ v2 : Int32, v2 = (if 1 < v1 then v1 else 1) → ∀ s3 : St, s3 = wI σ 126 8 v2 → ∀ s4 : St, s4 = wI s3 126 9 0 → (vp_in ((s4.1 126 1) + 1) 8 ∧ ∀ s6 : St, s6 = wL s4 144 (ix ((s4.1 126 1) + 1)) 0 → (∀ v7 : Int32, v7 = (s6.1 126 1) → (LpE (fun c s => F_X4_seek_36 K  c s.1 s.2) (v7, s6)))))
set_option maxHeartbeats 4000000 in
set_option maxRecDepth 100000 in
theorem m_X4_seek (l : Launch) (ad : Nat → Nat) (D : va_G) (ca : Nat → ClassId) (had : adOk ad) (p1 : Int32)  (σ : St) (K : St → Prop) (hp : P_X4_seek p1 σ K) : CtV l ad D ca yX4_seek cX4_seek 3 11 [.ref (ad 126), .int p1] σ K := CtV_of (av := fun ad => [.ref (ad 126), .int p1]) (plainFor_of_name (by decide)) had (Nat.le_of_ble_eq_true rfl) (fun κ C hret => by
  have C : Ok κ RX4 cX4_seek 3 11 := C
  show GG κ 0 [(0, .ref (kad κ 126)), (1, .int p1)] [] σ
  unfold P_X4_seek at hp
  refine x_aload_n 0 C rfl (dX4_seek_p0 0 rfl) ?_
  refine x_iconst (v := 1) C (by decide) (dX4_seek_p0 1 rfl) ?_
  refine x_iload_n 1 C rfl (dX4_seek_p0 2 rfl) ?_
  refine x_bipush (v := 6) C (by decide) (dX4_seek_p0 3 rfl) ?_
  refine x_min C tw_419 tw_420 tw_11 tw_421 (by decide) (Nat.le_of_ble_eq_true rfl) (dX4_seek_p0 4 rfl) ?_
  refine x_topI (fun v1 ev1 => ?_)
  have hp := hp v1 ev1
  refine x_max C tw_422 tw_423 tw_11 tw_424 (by decide) (Nat.le_of_ble_eq_true rfl) (dX4_seek_p0 5 rfl) ?_
  refine x_topI (fun v2 ev2 => ?_)
  have hp := hp v2 ev2
  refine qX4_8 C rfl (by decide) tw_131 (dX4_seek_p0 6 rfl) ?_
  refine x_nmS (fun s3 es3 => ?_)
  have hp := hp s3 es3
  refine x_aload_n 0 C rfl (dX4_seek_p0 7 rfl) ?_
  refine x_iconst (v := 0) C (by decide) (dX4_seek_p0 8 rfl) ?_
  refine qX4_9 C rfl (by decide) tw_132 (dX4_seek_p0 9 rfl) ?_
  refine x_nmS (fun s4 es4 => ?_)
  have hp := hp s4 es4
  refine x_aload_n 0 C rfl (dX4_seek_p0 10 rfl) ?_
  refine gX4_5 (b := 144) C rfl (by decide) rfl tw_128 (dX4_seek_p0 11 rfl) ?_
  refine x_aload_n 0 C rfl (dX4_seek_p0 12 rfl) ?_
  refine gX4_1 C rfl (by decide) tw_124 (dX4_seek_p0 13 rfl) ?_
  refine x_iconst (v := 1) C (by decide) (dX4_seek_p0 14 rfl) ?_
  refine x_iadd C (dX4_seek_p0 15 rfl) ?_
  refine x_lconst (v := 0) C (by decide) (dX4_seek_p0 16 rfl) ?_
  obtain ⟨h5, hp⟩ := hp
  refine x_last C rfl (by decide) h5 (dX4_seek_p0 17 rfl) ?_
  refine x_nmS (fun s6 es6 => ?_)
  have hp := hp s6 es6
  refine x_aload_n 0 C rfl (dX4_seek_p0 18 rfl) ?_
  refine gX4_1 C rfl (by decide) tw_124 (dX4_seek_p0 19 rfl) ?_
  refine x_topI (fun v7 ev7 => ?_)
  have hp := hp v7 ev7
  refine x_istore_n (loc' := [(2, .int v7), (0, .ref (kad κ 126)), (1, .int p1)]) C rfl (by decide) rfl (dX4_seek_p0 20 rfl) ?_
  refine x_loc (loc' := [(0, .ref (kad κ 126)), (2, .int v7)]) [1, 0] rfl ?_
  exact LpE_GG (S := (Int32 × St)) (F := fun c s => F_X4_seek_36 K  c s.1 s.2) (W := fun s => GG κ 36 [(0, .ref (kad κ 126)), (2, .int s.1)] [] s.2) (fun c s hcc hp => F_X4_seek_36_w C hret s.1  s.2  (fun u2 σ h => hcc (u2, σ) h) hp) hp)
def P_X5_mayBranch (p1 : Int32) (σ : St) (K : Int32 → St → Prop) : Prop := ((σ.1 125 1) = 0 → (K 1 σ)) ∧ (¬ ((σ.1 125 1) = 0) → (((p1 &&& (p1 + (p1 &&& (-p1)))) = 0 → (K 1 σ)) ∧ (¬ ((p1 &&& (p1 + (p1 &&& (-p1)))) = 0) → (K 0 σ))))
set_option maxHeartbeats 4000000 in
set_option maxRecDepth 100000 in
theorem m_X5_mayBranch (l : Launch) (ad : Nat → Nat) (D : va_G) (ca : Nat → ClassId) (had : adOk ad) (p1 : Int32)  (σ : St) (K : Int32 → St → Prop) (hp : P_X5_mayBranch p1 σ K) : CtI l ad D ca yX5_mayBranch cX5_mayBranch 2 .boolean 0 [.ref (ad 147), .int p1] σ K := CtI_of (av := fun ad => [.ref (ad 147), .int p1]) (plainFor_of_name (by decide)) had (Nat.le_of_ble_eq_true rfl) (fun κ C hret => by
  have C : Ok κ RX5 cX5_mayBranch 2 0 := C
  show GG κ 0 [(0, .ref (kad κ 147)), (1, .int p1)] [] σ
  unfold P_X5_mayBranch at hp
  refine x_aload_n 0 C rfl (dX5_mayBranch_p0 0 rfl) ?_
  refine gX5_0 (b := 125) C rfl (by decide) rfl tw_163 (dX5_mayBranch_p0 1 rfl) ?_
  refine gX1_1 C rfl (by decide) tw_102 (dX5_mayBranch_p0 2 rfl) ?_
  refine x_if_eq (tgt := 21) C (dX5_mayBranch_p0 3 rfl) (by decide) (fun hc => ?_) (fun hc => ?_)
  · have hp := hp.1 hc
    refine x_iconst (v := 1) C (by decide) (dX5_mayBranch_p0 13 rfl) ?_
    refine x_goto (tgt := 26) C (dX5_mayBranch_p0 14 rfl) (by decide) ?_
    exact hret _ _ _ _ (dX5_mayBranch_p0 16 rfl) (nar_z isB1) hp
  · have hp := hp.2 hc
    refine x_iload_n 1 C rfl (dX5_mayBranch_p0 4 rfl) ?_
    refine x_iload_n 1 C rfl (dX5_mayBranch_p0 5 rfl) ?_
    refine x_iload_n 1 C rfl (dX5_mayBranch_p0 6 rfl) ?_
    refine x_iload_n 1 C rfl (dX5_mayBranch_p0 7 rfl) ?_
    refine x_ineg C (dX5_mayBranch_p0 8 rfl) ?_
    refine x_iand C (dX5_mayBranch_p0 9 rfl) ?_
    refine x_iadd C (dX5_mayBranch_p0 10 rfl) ?_
    refine x_iand C (dX5_mayBranch_p0 11 rfl) ?_
    refine x_if_ne (tgt := 25) C (dX5_mayBranch_p0 12 rfl) (by decide) (fun hc => ?_) (fun hc => ?_)
    · have hp := hp.2 hc
      refine x_iconst (v := 0) C (by decide) (dX5_mayBranch_p0 15 rfl) ?_
      exact hret _ _ _ _ (dX5_mayBranch_p0 16 rfl) (nar_z isB0) hp
    · have hp := hp.1 hc
      refine x_iconst (v := 1) C (by decide) (dX5_mayBranch_p0 13 rfl) ?_
      refine x_goto (tgt := 26) C (dX5_mayBranch_p0 14 rfl) (by decide) ?_
      exact hret _ _ _ _ (dX5_mayBranch_p0 16 rfl) (nar_z isB1) hp)
def P_X5_bit (p0 : Int32) (σ : St) (K : Int32 → St → Prop) : Prop := K (1 <<< ((p0 - 1) &&& 31)) σ
set_option maxHeartbeats 4000000 in
set_option maxRecDepth 100000 in
theorem m_X5_bit (l : Launch) (ad : Nat → Nat) (D : va_G) (ca : Nat → ClassId) (had : adOk ad) (p0 : Int32)  (σ : St) (K : Int32 → St → Prop) (hp : P_X5_bit p0 σ K) : CtI l ad D ca yX5_bit cX5_bit 1 .int 0 [.int p0] σ K := CtI_of (av := fun ad => [.int p0]) (plainFor_of_name (by decide)) had (Nat.le_of_ble_eq_true rfl) (fun κ C hret => by
  have C : Ok κ RX5 cX5_bit 1 0 := C
  show GG κ 0 [(0, .int p0)] [] σ
  unfold P_X5_bit at hp
  refine x_iconst (v := 1) C (by decide) (dX5_bit_p0 0 rfl) ?_
  refine x_iload_n 0 C rfl (dX5_bit_p0 1 rfl) ?_
  refine x_iconst (v := 1) C (by decide) (dX5_bit_p0 2 rfl) ?_
  refine x_isub C (dX5_bit_p0 3 rfl) ?_
  refine x_ishl C (dX5_bit_p0 4 rfl) ?_
  exact hret _ _ _ _ (dX5_bit_p0 5 rfl) (nar_i _) hp)
def P_X5_hasNode (p0 : Int32) (p1 : Int32) (σ : St) (K : Int32 → St → Prop) : Prop := (p1 ≤ 0 → (K 0 σ)) ∧ (¬ (p1 ≤ 0) → P_X5_bit p1 σ (fun r2 s1 => ((p0 &&& r2) = 0 → (K 0 s1)) ∧ (¬ ((p0 &&& r2) = 0) → (K 1 s1))))
set_option maxHeartbeats 4000000 in
set_option maxRecDepth 100000 in
theorem m_X5_hasNode (l : Launch) (ad : Nat → Nat) (D : va_G) (ca : Nat → ClassId) (had : adOk ad) (p0 : Int32) (p1 : Int32)  (σ : St) (K : Int32 → St → Prop) (hp : P_X5_hasNode p0 p1 σ K) : CtI l ad D ca yX5_hasNode cX5_hasNode 2 .boolean 1 [.int p0, .int p1] σ K := CtI_of (av := fun ad => [.int p0, .int p1]) (plainFor_of_name (by decide)) had (Nat.le_of_ble_eq_true rfl) (fun κ C hret => by
  have C : Ok κ RX5 cX5_hasNode 2 1 := C
  show GG κ 0 [(0, .int p0), (1, .int p1)] [] σ
  unfold P_X5_hasNode at hp
  refine x_iload_n 1 C rfl (dX5_hasNode_p0 0 rfl) ?_
  refine x_if_le (tgt := 17) C (dX5_hasNode_p0 1 rfl) (by decide) (fun hc => ?_) (fun hc => ?_)
  · have hp := hp.1 hc
    refine x_iconst (v := 0) C (by decide) (dX5_hasNode_p0 9 rfl) ?_
    exact hret _ _ _ _ (dX5_hasNode_p0 10 rfl) (nar_z isB0) hp
  · have hp := hp.2 hc
    refine x_iload_n 0 C rfl (dX5_hasNode_p0 2 rfl) ?_
    refine x_iload_n 1 C rfl (dX5_hasNode_p0 3 rfl) ?_
    refine x_csI (As := [.int p1]) (st := [.int p0]) C LRX5_60 (m_X5_bit (kL κ) (kad κ) (kD κ) (kca κ) C.ado p1  σ _ hp) rfl (by decide) rfl (Nat.le_of_ble_eq_true rfl) (dX5_hasNode_p0 4 rfl) (fun r2 s1 hp => ?_)
    refine x_iand C (dX5_hasNode_p0 5 rfl) ?_
    refine x_if_eq (tgt := 17) C (dX5_hasNode_p0 6 rfl) (by decide) (fun hc => ?_) (fun hc => ?_)
    · have hp := hp.1 hc
      refine x_iconst (v := 0) C (by decide) (dX5_hasNode_p0 9 rfl) ?_
      exact hret _ _ _ _ (dX5_hasNode_p0 10 rfl) (nar_z isB0) hp
    · have hp := hp.2 hc
      refine x_iconst (v := 1) C (by decide) (dX5_hasNode_p0 7 rfl) ?_
      refine x_goto (tgt := 18) C (dX5_hasNode_p0 8 rfl) (by decide) ?_
      exact hret _ _ _ _ (dX5_hasNode_p0 10 rfl) (nar_z isB1) hp)
def F_X5_addBranches_15 (K : Int64 → St → Prop) (c15 : (Int64 × Int32 × St) → Prop) (u1 : Int32) (u2 : Int32) (u3 : Int64) (u5 : Int32) (σ : St) : Prop := ((σ.1 147 1) < u5 → (K u3 σ)) ∧ (¬ ((σ.1 147 1) < u5) → P_X5_hasNode u2 u5 σ (fun r4 s3 => (r4 = 0 → ∀ v5 : Int32, v5 = u5 + 1 → c15 (u3, v5, s3)) ∧ (¬ (r4 = 0) → vp_in u1 7 ∧ vp_in u5 7 ∧ vp_in u5 7 ∧ P_X5_bit u5 s3 (fun r10 s9 => vp_in (u2 ^^^ r10) 64 ∧ (∀ v12 : Int64, v12 = (u3 + ((s3.2.1 (148 + 1 + ix u1) (ix u5)) * (s9.2.1 (164 + 1 + ix u5) (ix (u2 ^^^ r10))))) → ∀ v13 : Int32, v13 = u5 + 1 → c15 (v12, v13, s9))))))
set_option maxHeartbeats 4000000 in
set_option maxRecDepth 100000 in
theorem F_X5_addBranches_15_w {κ : Kap} {K : Int64 → St → Prop} {c15 : (Int64 × Int32 × St) → Prop} (C : Ok κ RX5 cX5_addBranches 6 2) (hret : RetL κ cX5_addBranches K) (u1 : Int32) (u2 : Int32) (u3 : Int64) (u5 : Int32)      (σ : St) (hc15 : ∀ (u3 : Int64) (u5 : Int32) (σ : St), c15 (u3, u5, σ) → GG κ 15 [(0, .ref (kad κ 147)), (1, .int u1), (2, .int u2), (3, .long u3), (5, .int u5)] [] σ) (hp : F_X5_addBranches_15 K c15 u1 u2 u3 u5 σ) : GG κ 15 [(0, .ref (kad κ 147)), (1, .int u1), (2, .int u2), (3, .long u3), (5, .int u5)] [] σ := by
  unfold F_X5_addBranches_15 at hp
  refine x_iload 4 C rfl (dX5_addBranches_p0 10 rfl) ?_
  refine x_aload_n 0 C rfl (dX5_addBranches_p0 11 rfl) ?_
  refine gX5_1 C rfl (by decide) tw_164 (dX5_addBranches_p0 12 rfl) ?_
  refine x_icmp_gt (tgt := 67) C (dX5_addBranches_p0 13 rfl) (by decide) (fun hc => ?_) (fun hc => ?_)
  · have hp := hp.1 hc
    refine x_lload_n 3 C rfl (dX5_addBranches_p0 39 rfl) ?_
    exact hret _ _ _ _ (dX5_addBranches_p0 40 rfl) hp
  · have hp := hp.2 hc
    refine x_iload_n 2 C rfl (dX5_addBranches_p0 14 rfl) ?_
    refine x_iload 4 C rfl (dX5_addBranches_p0 15 rfl) ?_
    refine x_csI (As := [.int u2, .int u5]) (st := []) C LRX5_39 (m_X5_hasNode (kL κ) (kad κ) (kD κ) (kca κ) C.ado u2 u5  σ _ hp) rfl (by decide) rfl (Nat.le_of_ble_eq_true rfl) (dX5_addBranches_p0 16 rfl) (fun r4 s3 hp => ?_)
    refine x_if_eq (tgt := 61) C (dX5_addBranches_p0 17 rfl) (by decide) (fun hc => ?_) (fun hc => ?_)
    · have hp := hp.1 hc
      obtain ⟨v5, ev5⟩ : ∃ z : Int32, z = u5 + 1 := ⟨_, rfl⟩
      have hp := hp v5 ev5
      refine x_iinc (v := v5) (loc' := [(5, .int v5), (0, .ref (kad κ 147)), (1, .int u1), (2, .int u2), (3, .long u3)]) 4 C rfl (by rw [ev5]; rfl) (by decide) rfl (dX5_addBranches_p0 37 rfl) ?_
      refine x_goto (tgt := 15) C (dX5_addBranches_p0 38 rfl) (by decide) ?_
      refine x_loc (loc' := [(0, .ref (kad κ 147)), (1, .int u1), (2, .int u2), (3, .long u3), (5, .int v5)]) [1, 2, 3, 4, 0] rfl ?_
      exact hc15 u3 v5 s3 hp
    · have hp := hp.2 hc
      refine x_lload_n 3 C rfl (dX5_addBranches_p0 18 rfl) ?_
      refine x_aload_n 0 C rfl (dX5_addBranches_p0 19 rfl) ?_
      refine gX5_2 (b := 148) C rfl (by decide) rfl tw_165 (dX5_addBranches_p0 20 rfl) ?_
      refine x_iload_n 1 C rfl (dX5_addBranches_p0 21 rfl) ?_
      obtain ⟨h6, hp⟩ := hp
      refine x_aald (c := 14) (b := 148 + 1 + ix u1) C rfl (by decide) rfl rfl (by decide) h6 (row_mr14 rfl (by decide) h6) (dX5_addBranches_p0 22 rfl) ?_
      refine x_iload 4 C rfl (dX5_addBranches_p0 23 rfl) ?_
      obtain ⟨h7, hp⟩ := hp
      refine x_lald C (row_kd14 rfl (by decide) h6) (row_lt14 rfl (by decide) h6) (vp_ln ((row_ln14 rfl (by decide) h6).trans rfl) h7) (dX5_addBranches_p0 24 rfl) ?_
      refine x_aload_n 0 C rfl (dX5_addBranches_p0 25 rfl) ?_
      refine gX5_4 (b := 164) C rfl (by decide) rfl tw_167 (dX5_addBranches_p0 26 rfl) ?_
      refine x_iload 4 C rfl (dX5_addBranches_p0 27 rfl) ?_
      obtain ⟨h8, hp⟩ := hp
      refine x_aald (c := 14) (b := 164 + 1 + ix u5) C rfl (by decide) rfl rfl (by decide) h8 (row_mr14 rfl (by decide) h8) (dX5_addBranches_p0 28 rfl) ?_
      refine x_iload_n 2 C rfl (dX5_addBranches_p0 29 rfl) ?_
      refine x_iload 4 C rfl (dX5_addBranches_p0 30 rfl) ?_
      refine x_csI (As := [.int u5]) (st := [.int u2, .ref (kad κ (164 + 1 + ix u5)), .long (s3.2.1 (148 + 1 + ix u1) (ix u5)), .long u3]) C LRX5_60 (m_X5_bit (kL κ) (kad κ) (kD κ) (kca κ) C.ado u5  s3 _ hp) rfl (by decide) rfl (Nat.le_of_ble_eq_true rfl) (dX5_addBranches_p0 31 rfl) (fun r10 s9 hp => ?_)
      refine x_ixor C (dX5_addBranches_p0 32 rfl) ?_
      obtain ⟨h11, hp⟩ := hp
      refine x_lald C (row_kd14 rfl (by decide) h8) (row_lt14 rfl (by decide) h8) (vp_ln ((row_ln14 rfl (by decide) h8).trans rfl) h11) (dX5_addBranches_p0 33 rfl) ?_
      refine x_lmul C (dX5_addBranches_p0 34 rfl) ?_
      refine x_ladd C (dX5_addBranches_p0 35 rfl) ?_
      refine x_topL (fun v12 ev12 => ?_)
      have hp := hp v12 ev12
      refine x_lstore_n (loc' := [(3, .long v12), (0, .ref (kad κ 147)), (1, .int u1), (2, .int u2), (5, .int u5)]) C rfl (by decide) rfl (dX5_addBranches_p0 36 rfl) ?_
      obtain ⟨v13, ev13⟩ : ∃ z : Int32, z = u5 + 1 := ⟨_, rfl⟩
      have hp := hp v13 ev13
      refine x_iinc (v := v13) (loc' := [(5, .int v13), (3, .long v12), (0, .ref (kad κ 147)), (1, .int u1), (2, .int u2)]) 4 C rfl (by rw [ev13]; rfl) (by decide) rfl (dX5_addBranches_p0 37 rfl) ?_
      refine x_goto (tgt := 15) C (dX5_addBranches_p0 38 rfl) (by decide) ?_
      refine x_loc (loc' := [(0, .ref (kad κ 147)), (1, .int u1), (2, .int u2), (3, .long v12), (5, .int v13)]) [2, 3, 4, 1, 0] rfl ?_
      exact hc15 v12 v13 s9 hp
def P_X5_addBranches (p1 : Int32) (p2 : Int32) (σ : St) (K : Int64 → St → Prop) : Prop := P_X5_mayBranch p2 σ (fun r2 s1 => (r2 = 0 → (K 0 s1)) ∧ (¬ (r2 = 0) → (LpE (fun c s => F_X5_addBranches_15 K  c p1 p2 s.1 s.2.1 s.2.2) (0, 1, s1))))
set_option maxHeartbeats 4000000 in
set_option maxRecDepth 100000 in
theorem m_X5_addBranches (l : Launch) (ad : Nat → Nat) (D : va_G) (ca : Nat → ClassId) (had : adOk ad) (p1 : Int32) (p2 : Int32)  (σ : St) (K : Int64 → St → Prop) (hp : P_X5_addBranches p1 p2 σ K) : CtL l ad D ca yX5_addBranches cX5_addBranches 6 2 [.ref (ad 147), .int p1, .int p2] σ K := CtL_of (av := fun ad => [.ref (ad 147), .int p1, .int p2]) (plainFor_of_name (by decide)) had (Nat.le_of_ble_eq_true rfl) (fun κ C hret => by
  have C : Ok κ RX5 cX5_addBranches 6 2 := C
  show GG κ 0 [(0, .ref (kad κ 147)), (1, .int p1), (2, .int p2)] [] σ
  unfold P_X5_addBranches at hp
  refine x_aload_n 0 C rfl (dX5_addBranches_p0 0 rfl) ?_
  refine x_iload_n 2 C rfl (dX5_addBranches_p0 1 rfl) ?_
  refine x_cvI (As := [.int p2]) (st := []) C LRX5_56 (ci := 5) rfl rfl (by decide) (by decide) (m_X5_mayBranch (kL κ) (kad κ) (kD κ) (kca κ) C.ado p2  σ _ hp) rfl (by decide) rfl (Nat.le_of_ble_eq_true rfl) (dX5_addBranches_p0 2 rfl) (fun r2 s1 hp => ?_)
  refine x_if_ne (tgt := 10) C (dX5_addBranches_p0 3 rfl) (by decide) (fun hc => ?_) (fun hc => ?_)
  · have hp := hp.2 hc
    refine x_lconst (v := 0) C (by decide) (dX5_addBranches_p0 6 rfl) ?_
    refine x_lstore_n (loc' := [(3, .long 0), (0, .ref (kad κ 147)), (1, .int p1), (2, .int p2)]) C rfl (by decide) rfl (dX5_addBranches_p0 7 rfl) ?_
    refine x_iconst (v := 1) C (by decide) (dX5_addBranches_p0 8 rfl) ?_
    refine x_istore (loc' := [(5, .int 1), (3, .long 0), (0, .ref (kad κ 147)), (1, .int p1), (2, .int p2)]) C (by decide) rfl (dX5_addBranches_p0 9 rfl) ?_
    refine x_loc (loc' := [(0, .ref (kad κ 147)), (1, .int p1), (2, .int p2), (3, .long 0), (5, .int 1)]) [2, 3, 4, 1, 0] rfl ?_
    exact LpE_GG (S := (Int64 × Int32 × St)) (F := fun c s => F_X5_addBranches_15 K  c p1 p2 s.1 s.2.1 s.2.2) (W := fun s => GG κ 15 [(0, .ref (kad κ 147)), (1, .int p1), (2, .int p2), (3, .long s.1), (5, .int s.2.1)] [] s.2.2) (fun c s hcc hp => F_X5_addBranches_15_w C hret p1 p2 s.1 s.2.1  s.2.2  (fun u3 u5 σ h => hcc (u3, u5, σ) h) hp) hp
  · have hp := hp.1 hc
    refine x_lconst (v := 0) C (by decide) (dX5_addBranches_p0 4 rfl) ?_
    exact hret _ _ _ _ (dX5_addBranches_p0 5 rfl) hp)
def J_X5_addForests_49 (K : Int64 → St → Prop) (c11 : (Int64 × Int32 × St) → Prop) (u1 : Int32) (u2 : Int32) (u3 : Int32) (u4 : Int64) (u6 : Int32) (σ : St) : Prop := ∀ v2 : Int32, v2 = ((u6 - 1) &&& u2) → c11 (u4, v2, σ)
set_option maxHeartbeats 4000000 in
set_option maxRecDepth 100000 in
theorem J_X5_addForests_49_w {κ : Kap} {K : Int64 → St → Prop} {c11 : (Int64 × Int32 × St) → Prop} (C : Ok κ RX5 cX5_addForests 7 0) (hret : RetL κ cX5_addForests K) (u1 : Int32) (u2 : Int32) (u3 : Int32) (u4 : Int64) (u6 : Int32)       (σ : St) (hc11 : ∀ (u4 : Int64) (u6 : Int32) (σ : St), c11 (u4, u6, σ) → GG κ 11 [(0, .ref (kad κ 147)), (1, .int u1), (2, .int u2), (3, .int u3), (4, .long u4), (6, .int u6)] [] σ) (hp : J_X5_addForests_49 K c11 u1 u2 u3 u4 u6 σ) : GG κ 49 [(0, .ref (kad κ 147)), (1, .int u1), (2, .int u2), (3, .int u3), (4, .long u4), (6, .int u6)] [] σ := by
  unfold J_X5_addForests_49 at hp
  refine x_iload 5 C rfl (dX5_addForests_p0 33 rfl) ?_
  refine x_iconst (v := 1) C (by decide) (dX5_addForests_p0 34 rfl) ?_
  refine x_isub C (dX5_addForests_p0 35 rfl) ?_
  refine x_iload_n 2 C rfl (dX5_addForests_p0 36 rfl) ?_
  refine x_iand C (dX5_addForests_p0 37 rfl) ?_
  refine x_topI (fun v2 ev2 => ?_)
  have hp := hp v2 ev2
  refine x_istore (loc' := [(6, .int v2), (0, .ref (kad κ 147)), (1, .int u1), (2, .int u2), (3, .int u3), (4, .long u4)]) C (by decide) rfl (dX5_addForests_p0 38 rfl) ?_
  refine x_goto (tgt := 11) C (dX5_addForests_p0 39 rfl) (by decide) ?_
  refine x_loc (loc' := [(0, .ref (kad κ 147)), (1, .int u1), (2, .int u2), (3, .int u3), (4, .long u4), (6, .int v2)]) [1, 2, 3, 4, 5, 0] rfl ?_
  exact hc11 u4 v2 σ hp
def F_X5_addForests_11 (K : Int64 → St → Prop) (c11 : (Int64 × Int32 × St) → Prop) (u1 : Int32) (u2 : Int32) (u3 : Int32) (u4 : Int64) (u6 : Int32) (σ : St) : Prop := (u6 ≤ 0 → (K u4 σ)) ∧ (¬ (u6 ≤ 0) → (((u6 &&& u3) = 0 → (J_X5_addForests_49 K c11 u1 u2 u3 u4 u6 σ)) ∧ (¬ ((u6 &&& u3) = 0) → vp_in u1 7 ∧ vp_in u6 64 ∧ vp_in u1 7 ∧ (vp_in (u2 ^^^ u6) 64 ∧ (∀ v7 : Int64, v7 = (u4 + ((σ.2.1 (156 + 1 + ix u1) (ix u6)) * (σ.2.1 (164 + 1 + ix u1) (ix (u2 ^^^ u6))))) → (J_X5_addForests_49 K c11 u1 u2 u3 v7 u6 σ))))))
set_option maxHeartbeats 4000000 in
set_option maxRecDepth 100000 in
theorem F_X5_addForests_11_w {κ : Kap} {K : Int64 → St → Prop} {c11 : (Int64 × Int32 × St) → Prop} (C : Ok κ RX5 cX5_addForests 7 0) (hret : RetL κ cX5_addForests K) (u1 : Int32) (u2 : Int32) (u3 : Int32) (u4 : Int64) (u6 : Int32)       (σ : St) (hc11 : ∀ (u4 : Int64) (u6 : Int32) (σ : St), c11 (u4, u6, σ) → GG κ 11 [(0, .ref (kad κ 147)), (1, .int u1), (2, .int u2), (3, .int u3), (4, .long u4), (6, .int u6)] [] σ) (hp : F_X5_addForests_11 K c11 u1 u2 u3 u4 u6 σ) : GG κ 11 [(0, .ref (kad κ 147)), (1, .int u1), (2, .int u2), (3, .int u3), (4, .long u4), (6, .int u6)] [] σ := by
  unfold F_X5_addForests_11 at hp
  refine x_iload 5 C rfl (dX5_addForests_p0 9 rfl) ?_
  refine x_if_le (tgt := 60) C (dX5_addForests_p0 10 rfl) (by decide) (fun hc => ?_) (fun hc => ?_)
  · have hp := hp.1 hc
    refine x_lload 4 C rfl (dX5_addForests_p0 40 rfl) ?_
    exact hret _ _ _ _ (dX5_addForests_p0 41 rfl) hp
  · have hp := hp.2 hc
    refine x_iload 5 C rfl (dX5_addForests_p0 11 rfl) ?_
    refine x_iload_n 3 C rfl (dX5_addForests_p0 12 rfl) ?_
    refine x_iand C (dX5_addForests_p0 13 rfl) ?_
    refine x_if_eq (tgt := 49) C (dX5_addForests_p0 14 rfl) (by decide) (fun hc => ?_) (fun hc => ?_)
    · have hp := hp.1 hc
      exact J_X5_addForests_49_w C hret u1 u2 u3 u4 u6  σ hc11 hp
    · have hp := hp.2 hc
      refine x_lload 4 C rfl (dX5_addForests_p0 15 rfl) ?_
      refine x_aload_n 0 C rfl (dX5_addForests_p0 16 rfl) ?_
      refine gX5_3 (b := 156) C rfl (by decide) rfl tw_166 (dX5_addForests_p0 17 rfl) ?_
      refine x_iload_n 1 C rfl (dX5_addForests_p0 18 rfl) ?_
      obtain ⟨h3, hp⟩ := hp
      refine x_aald (c := 14) (b := 156 + 1 + ix u1) C rfl (by decide) rfl rfl (by decide) h3 (row_mr14 rfl (by decide) h3) (dX5_addForests_p0 19 rfl) ?_
      refine x_iload 5 C rfl (dX5_addForests_p0 20 rfl) ?_
      obtain ⟨h4, hp⟩ := hp
      refine x_lald C (row_kd14 rfl (by decide) h3) (row_lt14 rfl (by decide) h3) (vp_ln ((row_ln14 rfl (by decide) h3).trans rfl) h4) (dX5_addForests_p0 21 rfl) ?_
      refine x_aload_n 0 C rfl (dX5_addForests_p0 22 rfl) ?_
      refine gX5_4 (b := 164) C rfl (by decide) rfl tw_167 (dX5_addForests_p0 23 rfl) ?_
      refine x_iload_n 1 C rfl (dX5_addForests_p0 24 rfl) ?_
      obtain ⟨h5, hp⟩ := hp
      refine x_aald (c := 14) (b := 164 + 1 + ix u1) C rfl (by decide) rfl rfl (by decide) h5 (row_mr14 rfl (by decide) h5) (dX5_addForests_p0 25 rfl) ?_
      refine x_iload_n 2 C rfl (dX5_addForests_p0 26 rfl) ?_
      refine x_iload 5 C rfl (dX5_addForests_p0 27 rfl) ?_
      refine x_ixor C (dX5_addForests_p0 28 rfl) ?_
      obtain ⟨h6, hp⟩ := hp
      refine x_lald C (row_kd14 rfl (by decide) h5) (row_lt14 rfl (by decide) h5) (vp_ln ((row_ln14 rfl (by decide) h5).trans rfl) h6) (dX5_addForests_p0 29 rfl) ?_
      refine x_lmul C (dX5_addForests_p0 30 rfl) ?_
      refine x_ladd C (dX5_addForests_p0 31 rfl) ?_
      refine x_topL (fun v7 ev7 => ?_)
      have hp := hp v7 ev7
      refine x_lstore (loc' := [(4, .long v7), (0, .ref (kad κ 147)), (1, .int u1), (2, .int u2), (3, .int u3), (6, .int u6)]) C (by decide) rfl (dX5_addForests_p0 32 rfl) ?_
      refine x_loc (loc' := [(0, .ref (kad κ 147)), (1, .int u1), (2, .int u2), (3, .int u3), (4, .long v7), (6, .int u6)]) [1, 2, 3, 4, 0, 5] rfl ?_
      exact J_X5_addForests_49_w C hret u1 u2 u3 v7 u6  σ hc11 hp
def P_X5_addForests (p1 : Int32) (p2 : Int32) (σ : St) (K : Int64 → St → Prop) : Prop := ∀ v1 : Int32, v1 = (p2 &&& (-p2)) → (LpE (fun c s => F_X5_addForests_11 K  c p1 p2 v1 s.1 s.2.1 s.2.2) (0, p2, σ))
set_option maxHeartbeats 4000000 in
set_option maxRecDepth 100000 in
theorem m_X5_addForests (l : Launch) (ad : Nat → Nat) (D : va_G) (ca : Nat → ClassId) (had : adOk ad) (p1 : Int32) (p2 : Int32)  (σ : St) (K : Int64 → St → Prop) (hp : P_X5_addForests p1 p2 σ K) : CtL l ad D ca yX5_addForests cX5_addForests 7 0 [.ref (ad 147), .int p1, .int p2] σ K := CtL_of (av := fun ad => [.ref (ad 147), .int p1, .int p2]) (plainFor_of_name (by decide)) had (Nat.le_of_ble_eq_true rfl) (fun κ C hret => by
  have C : Ok κ RX5 cX5_addForests 7 0 := C
  show GG κ 0 [(0, .ref (kad κ 147)), (1, .int p1), (2, .int p2)] [] σ
  unfold P_X5_addForests at hp
  refine x_iload_n 2 C rfl (dX5_addForests_p0 0 rfl) ?_
  refine x_iload_n 2 C rfl (dX5_addForests_p0 1 rfl) ?_
  refine x_ineg C (dX5_addForests_p0 2 rfl) ?_
  refine x_iand C (dX5_addForests_p0 3 rfl) ?_
  refine x_topI (fun v1 ev1 => ?_)
  have hp := hp v1 ev1
  refine x_istore_n (loc' := [(3, .int v1), (0, .ref (kad κ 147)), (1, .int p1), (2, .int p2)]) C rfl (by decide) rfl (dX5_addForests_p0 4 rfl) ?_
  refine x_lconst (v := 0) C (by decide) (dX5_addForests_p0 5 rfl) ?_
  refine x_lstore (loc' := [(4, .long 0), (3, .int v1), (0, .ref (kad κ 147)), (1, .int p1), (2, .int p2)]) C (by decide) rfl (dX5_addForests_p0 6 rfl) ?_
  refine x_iload_n 4 C rfl (dX5_addForests_p0 7 rfl) ?_
  refine x_istore (loc' := [(6, .int p2), (4, .long 0), (3, .int v1), (0, .ref (kad κ 147)), (1, .int p1), (2, .int p2)]) C (by decide) rfl (dX5_addForests_p0 8 rfl) ?_
  refine x_loc (loc' := [(0, .ref (kad κ 147)), (1, .int p1), (2, .int p2), (3, .int v1), (4, .long 0), (6, .int p2)]) [3, 4, 5, 2, 1, 0] rfl ?_
  exact LpE_GG (S := (Int64 × Int32 × St)) (F := fun c s => F_X5_addForests_11 K  c p1 p2 v1 s.1 s.2.1 s.2.2) (W := fun s => GG κ 11 [(0, .ref (kad κ 147)), (1, .int p1), (2, .int p2), (3, .int v1), (4, .long s.1), (6, .int s.2.1)] [] s.2.2) (fun c s hcc hp => F_X5_addForests_11_w C hret p1 p2 v1 s.1 s.2.1  s.2.2  (fun u4 u6 σ h => hcc (u4, u6, σ) h) hp) hp)
def F_X5_addUp_43 (K : Int64 → St → Prop) (c36 : (Int32 × St) → Prop) (c43 : (Int32 × St) → Prop) (u1 : Int32) (u2 : Int32) (u3 : Int32) (σ : St) : Prop := ((σ.1 147 1) < u3 → ∀ v4 : Int32, v4 = u2 + 1 → c36 (v4, σ)) ∧ (¬ ((σ.1 147 1) < u3) → P_X5_hasNode u2 u3 σ (fun r6 s5 => (r6 = 0 → vp_in u3 7 ∧ P_X5_addBranches u3 u2 s5 (fun r10 s9 => vp_in u2 64 ∧ ∀ s12 : St, s12 = wL s9 (156 + 1 + ix u3) (ix u2) r10 → vp_in u3 7 ∧ P_X5_addForests u3 u2 s12 (fun r15 s14 => vp_in u2 64 ∧ ∀ s17 : St, s17 = wL s14 (164 + 1 + ix u3) (ix u2) r15 → ∀ v18 : Int32, v18 = u3 + 1 → c43 (v18, s17)))) ∧ (¬ (r6 = 0) → ∀ v7 : Int32, v7 = u3 + 1 → c43 (v7, s5))))
set_option maxHeartbeats 4000000 in
set_option maxRecDepth 100000 in
theorem F_X5_addUp_43_w {κ : Kap} {K : Int64 → St → Prop} {c36 : (Int32 × St) → Prop} {c43 : (Int32 × St) → Prop} (C : Ok κ RX5 cX5_addUp 4 3) (hret : RetL κ cX5_addUp K) (u1 : Int32) (u2 : Int32) (u3 : Int32)     (σ : St) (hc36 : ∀ (u2 : Int32) (σ : St), c36 (u2, σ) → GG κ 36 [(0, .ref (kad κ 147)), (1, .int u1), (2, .int u2)] [] σ) (hc43 : ∀ (u3 : Int32) (σ : St), c43 (u3, σ) → GG κ 43 [(0, .ref (kad κ 147)), (1, .int u1), (2, .int u2), (3, .int u3)] [] σ) (hp : F_X5_addUp_43 K c36 c43 u1 u2 u3 σ) : GG κ 43 [(0, .ref (kad κ 147)), (1, .int u1), (2, .int u2), (3, .int u3)] [] σ := by
  unfold F_X5_addUp_43 at hp
  refine x_iload_n 3 C rfl (dX5_addUp_p0 29 rfl) ?_
  refine x_aload_n 0 C rfl (dX5_addUp_p0 30 rfl) ?_
  refine gX5_1 C rfl (by decide) tw_164 (dX5_addUp_p0 31 rfl) ?_
  refine x_icmp_gt (tgt := 93) C (dX5_addUp_p0 32 rfl) (by decide) (fun hc => ?_) (fun hc => ?_)
  · have hp := hp.1 hc
    obtain ⟨v4, ev4⟩ : ∃ z : Int32, z = u2 + 1 := ⟨_, rfl⟩
    have hp := hp v4 ev4
    refine x_iinc (v := v4) (loc' := [(2, .int v4), (0, .ref (kad κ 147)), (1, .int u1), (3, .int u3)]) 2 C rfl (by rw [ev4]; rfl) (by decide) rfl (dX5_addUp_p0 59 rfl) ?_
    refine x_goto (tgt := 36) C (dX5_addUp_p0 60 rfl) (by decide) ?_
    refine x_loc (loc' := [(0, .ref (kad κ 147)), (1, .int u1), (2, .int v4)]) [1, 2, 0] rfl ?_
    exact hc36 v4 σ hp
  · have hp := hp.2 hc
    refine x_iload_n 2 C rfl (dX5_addUp_p0 33 rfl) ?_
    refine x_iload_n 3 C rfl (dX5_addUp_p0 34 rfl) ?_
    refine x_csI (As := [.int u2, .int u3]) (st := []) C LRX5_39 (m_X5_hasNode (kL κ) (kad κ) (kD κ) (kca κ) C.ado u2 u3  σ _ hp) rfl (by decide) rfl (Nat.le_of_ble_eq_true rfl) (dX5_addUp_p0 35 rfl) (fun r6 s5 hp => ?_)
    refine x_if_ne (tgt := 87) C (dX5_addUp_p0 36 rfl) (by decide) (fun hc => ?_) (fun hc => ?_)
    · have hp := hp.2 hc
      obtain ⟨v7, ev7⟩ : ∃ z : Int32, z = u3 + 1 := ⟨_, rfl⟩
      have hp := hp v7 ev7
      refine x_iinc (v := v7) (loc' := [(3, .int v7), (0, .ref (kad κ 147)), (1, .int u1), (2, .int u2)]) 3 C rfl (by rw [ev7]; rfl) (by decide) rfl (dX5_addUp_p0 57 rfl) ?_
      refine x_goto (tgt := 43) C (dX5_addUp_p0 58 rfl) (by decide) ?_
      refine x_loc (loc' := [(0, .ref (kad κ 147)), (1, .int u1), (2, .int u2), (3, .int v7)]) [1, 2, 3, 0] rfl ?_
      exact hc43 v7 s5 hp
    · have hp := hp.1 hc
      refine x_aload_n 0 C rfl (dX5_addUp_p0 37 rfl) ?_
      refine gX5_3 (b := 156) C rfl (by decide) rfl tw_166 (dX5_addUp_p0 38 rfl) ?_
      refine x_iload_n 3 C rfl (dX5_addUp_p0 39 rfl) ?_
      obtain ⟨h8, hp⟩ := hp
      refine x_aald (c := 14) (b := 156 + 1 + ix u3) C rfl (by decide) rfl rfl (by decide) h8 (row_mr14 rfl (by decide) h8) (dX5_addUp_p0 40 rfl) ?_
      refine x_iload_n 2 C rfl (dX5_addUp_p0 41 rfl) ?_
      refine x_aload_n 0 C rfl (dX5_addUp_p0 42 rfl) ?_
      refine x_iload_n 3 C rfl (dX5_addUp_p0 43 rfl) ?_
      refine x_iload_n 2 C rfl (dX5_addUp_p0 44 rfl) ?_
      refine x_cvL (As := [.int u3, .int u2]) (st := [.int u2, .ref (kad κ (156 + 1 + ix u3))]) C LRX5_43 (ci := 5) rfl rfl (by decide) (by decide) (m_X5_addBranches (kL κ) (kad κ) (kD κ) (kca κ) C.ado u3 u2  s5 _ hp) rfl (by decide) rfl (Nat.le_of_ble_eq_true rfl) (dX5_addUp_p0 45 rfl) (fun r10 s9 hp => ?_)
      obtain ⟨h11, hp⟩ := hp
      refine x_last C (row_kd14 rfl (by decide) h8) (row_lt14 rfl (by decide) h8) (vp_ln ((row_ln14 rfl (by decide) h8).trans rfl) h11) (dX5_addUp_p0 46 rfl) ?_
      refine x_nmS (fun s12 es12 => ?_)
      have hp := hp s12 es12
      refine x_aload_n 0 C rfl (dX5_addUp_p0 47 rfl) ?_
      refine gX5_4 (b := 164) C rfl (by decide) rfl tw_167 (dX5_addUp_p0 48 rfl) ?_
      refine x_iload_n 3 C rfl (dX5_addUp_p0 49 rfl) ?_
      obtain ⟨h13, hp⟩ := hp
      refine x_aald (c := 14) (b := 164 + 1 + ix u3) C rfl (by decide) rfl rfl (by decide) h13 (row_mr14 rfl (by decide) h13) (dX5_addUp_p0 50 rfl) ?_
      refine x_iload_n 2 C rfl (dX5_addUp_p0 51 rfl) ?_
      refine x_aload_n 0 C rfl (dX5_addUp_p0 52 rfl) ?_
      refine x_iload_n 3 C rfl (dX5_addUp_p0 53 rfl) ?_
      refine x_iload_n 2 C rfl (dX5_addUp_p0 54 rfl) ?_
      refine x_cvL (As := [.int u3, .int u2]) (st := [.int u2, .ref (kad κ (164 + 1 + ix u3))]) C LRX5_47 (ci := 5) rfl rfl (by decide) (by decide) (m_X5_addForests (kL κ) (kad κ) (kD κ) (kca κ) C.ado u3 u2  s12 _ hp) rfl (by decide) rfl (Nat.le_of_ble_eq_true rfl) (dX5_addUp_p0 55 rfl) (fun r15 s14 hp => ?_)
      obtain ⟨h16, hp⟩ := hp
      refine x_last C (row_kd14 rfl (by decide) h13) (row_lt14 rfl (by decide) h13) (vp_ln ((row_ln14 rfl (by decide) h13).trans rfl) h16) (dX5_addUp_p0 56 rfl) ?_
      refine x_nmS (fun s17 es17 => ?_)
      have hp := hp s17 es17
      obtain ⟨v18, ev18⟩ : ∃ z : Int32, z = u3 + 1 := ⟨_, rfl⟩
      have hp := hp v18 ev18
      refine x_iinc (v := v18) (loc' := [(3, .int v18), (0, .ref (kad κ 147)), (1, .int u1), (2, .int u2)]) 3 C rfl (by rw [ev18]; rfl) (by decide) rfl (dX5_addUp_p0 57 rfl) ?_
      refine x_goto (tgt := 43) C (dX5_addUp_p0 58 rfl) (by decide) ?_
      refine x_loc (loc' := [(0, .ref (kad κ 147)), (1, .int u1), (2, .int u2), (3, .int v18)]) [1, 2, 3, 0] rfl ?_
      exact hc43 v18 s17 hp
def F_X5_addUp_36 (K : Int64 → St → Prop) (c36 : (Int32 × St) → Prop) (u1 : Int32) (u2 : Int32) (σ : St) : Prop := (u1 < u2 → (((σ.1 125 0) = 0 → vp_in u1 64 ∧ (K (σ.2.1 (164 + 1 + ix 0) (ix u1)) σ)) ∧ (¬ ((σ.1 125 0) = 0) → vp_in u1 64 ∧ (K (σ.2.1 (156 + 1 + ix 0) (ix u1)) σ)))) ∧ (¬ (u1 < u2) → (LpE (fun c s => F_X5_addUp_43 K c36 c u1 u2 s.1 s.2) (0, σ)))
set_option maxHeartbeats 4000000 in
set_option maxRecDepth 100000 in
theorem F_X5_addUp_36_w {κ : Kap} {K : Int64 → St → Prop} {c36 : (Int32 × St) → Prop} (C : Ok κ RX5 cX5_addUp 4 3) (hret : RetL κ cX5_addUp K) (u1 : Int32) (u2 : Int32)    (σ : St) (hc36 : ∀ (u2 : Int32) (σ : St), c36 (u2, σ) → GG κ 36 [(0, .ref (kad κ 147)), (1, .int u1), (2, .int u2)] [] σ) (hp : F_X5_addUp_36 K c36 u1 u2 σ) : GG κ 36 [(0, .ref (kad κ 147)), (1, .int u1), (2, .int u2)] [] σ := by
  unfold F_X5_addUp_36 at hp
  refine x_iload_n 2 C rfl (dX5_addUp_p0 24 rfl) ?_
  refine x_iload_n 1 C rfl (dX5_addUp_p0 25 rfl) ?_
  refine x_icmp_gt (tgt := 99) C (dX5_addUp_p0 26 rfl) (by decide) (fun hc => ?_) (fun hc => ?_)
  · have hp := hp.1 hc
    refine x_aload_n 0 C rfl (dX5_addUp_p0 61 rfl) ?_
    refine gX5_0 (b := 125) C rfl (by decide) rfl tw_163 (dX5_addUp_p0 62 rfl) ?_
    refine gX1_0 C rfl (by decide) tw_97 (dX5_addUp_p0 63 rfl) ?_
    refine x_if_eq (tgt := 120) C (dX5_addUp_p1 0 rfl) (by decide) (fun hc => ?_) (fun hc => ?_)
    · have hp := hp.1 hc
      refine x_aload_n 0 C rfl (dX5_addUp_p1 8 rfl) ?_
      refine gX5_4 (b := 164) C rfl (by decide) rfl tw_167 (dX5_addUp_p1 9 rfl) ?_
      refine x_iconst (v := 0) C (by decide) (dX5_addUp_p1 10 rfl) ?_
      refine x_aald (c := 14) (b := 164 + 1 + ix 0) C rfl (by decide) rfl rfl (by decide) (vp_lit (by decide) (by decide)) (row_mr14 rfl (by decide) (vp_lit (by decide) (by decide))) (dX5_addUp_p1 11 rfl) ?_
      refine x_iload_n 1 C rfl (dX5_addUp_p1 12 rfl) ?_
      obtain ⟨h2, hp⟩ := hp
      refine x_lald C (row_kd14 rfl (by decide) (vp_lit (by decide) (by decide))) (row_lt14 rfl (by decide) (vp_lit (by decide) (by decide))) (vp_ln ((row_ln14 rfl (by decide) (vp_lit (by decide) (by decide))).trans rfl) h2) (dX5_addUp_p1 13 rfl) ?_
      exact hret _ _ _ _ (dX5_addUp_p1 14 rfl) hp
    · have hp := hp.2 hc
      refine x_aload_n 0 C rfl (dX5_addUp_p1 1 rfl) ?_
      refine gX5_3 (b := 156) C rfl (by decide) rfl tw_166 (dX5_addUp_p1 2 rfl) ?_
      refine x_iconst (v := 0) C (by decide) (dX5_addUp_p1 3 rfl) ?_
      refine x_aald (c := 14) (b := 156 + 1 + ix 0) C rfl (by decide) rfl rfl (by decide) (vp_lit (by decide) (by decide)) (row_mr14 rfl (by decide) (vp_lit (by decide) (by decide))) (dX5_addUp_p1 4 rfl) ?_
      refine x_iload_n 1 C rfl (dX5_addUp_p1 5 rfl) ?_
      obtain ⟨h3, hp⟩ := hp
      refine x_lald C (row_kd14 rfl (by decide) (vp_lit (by decide) (by decide))) (row_lt14 rfl (by decide) (vp_lit (by decide) (by decide))) (vp_ln ((row_ln14 rfl (by decide) (vp_lit (by decide) (by decide))).trans rfl) h3) (dX5_addUp_p1 6 rfl) ?_
      refine x_goto (tgt := 128) C (dX5_addUp_p1 7 rfl) (by decide) ?_
      exact hret _ _ _ _ (dX5_addUp_p1 14 rfl) hp
  · have hp := hp.2 hc
    refine x_iconst (v := 0) C (by decide) (dX5_addUp_p0 27 rfl) ?_
    refine x_istore_n (loc' := [(3, .int 0), (0, .ref (kad κ 147)), (1, .int u1), (2, .int u2)]) C rfl (by decide) rfl (dX5_addUp_p0 28 rfl) ?_
    refine x_loc (loc' := [(0, .ref (kad κ 147)), (1, .int u1), (2, .int u2), (3, .int 0)]) [1, 2, 3, 0] rfl ?_
    exact LpE_GG (S := (Int32 × St)) (F := fun c s => F_X5_addUp_43 K c36 c u1 u2 s.1 s.2) (W := fun s => GG κ 43 [(0, .ref (kad κ 147)), (1, .int u1), (2, .int u2), (3, .int s.1)] [] s.2) (fun c s hcc hp => F_X5_addUp_43_w C hret u1 u2 s.1  s.2 hc36 (fun u3 σ h => hcc (u3, σ) h) hp) hp
def F_X5_addUp_11 (K : Int64 → St → Prop) (c11 : (Int32 × St) → Prop) (u1 : Int32) (u2 : Int32) (σ : St) : Prop := ((σ.1 147 1) < u2 → (LpE (fun c s => F_X5_addUp_36 K  c u1 s.1 s.2) (1, σ))) ∧ (¬ ((σ.1 147 1) < u2) → vp_in u2 7 ∧ (∀ s20 : St, s20 = wL σ (164 + 1 + ix u2) (ix 0) 1 → ∀ v21 : Int32, v21 = u2 + 1 → c11 (v21, s20)))
set_option maxHeartbeats 4000000 in
set_option maxRecDepth 100000 in
theorem F_X5_addUp_11_w {κ : Kap} {K : Int64 → St → Prop} {c11 : (Int32 × St) → Prop} (C : Ok κ RX5 cX5_addUp 4 3) (hret : RetL κ cX5_addUp K) (u1 : Int32) (u2 : Int32)    (σ : St) (hc11 : ∀ (u2 : Int32) (σ : St), c11 (u2, σ) → GG κ 11 [(0, .ref (kad κ 147)), (1, .int u1), (2, .int u2)] [] σ) (hp : F_X5_addUp_11 K c11 u1 u2 σ) : GG κ 11 [(0, .ref (kad κ 147)), (1, .int u1), (2, .int u2)] [] σ := by
  unfold F_X5_addUp_11 at hp
  refine x_iload_n 2 C rfl (dX5_addUp_p0 9 rfl) ?_
  refine x_aload_n 0 C rfl (dX5_addUp_p0 10 rfl) ?_
  refine gX5_1 C rfl (by decide) tw_164 (dX5_addUp_p0 11 rfl) ?_
  refine x_icmp_gt (tgt := 34) C (dX5_addUp_p0 12 rfl) (by decide) (fun hc => ?_) (fun hc => ?_)
  · have hp := hp.1 hc
    refine x_iconst (v := 1) C (by decide) (dX5_addUp_p0 22 rfl) ?_
    refine x_istore_n (loc' := [(2, .int 1), (0, .ref (kad κ 147)), (1, .int u1)]) C rfl (by decide) rfl (dX5_addUp_p0 23 rfl) ?_
    refine x_loc (loc' := [(0, .ref (kad κ 147)), (1, .int u1), (2, .int 1)]) [1, 2, 0] rfl ?_
    exact LpE_GG (S := (Int32 × St)) (F := fun c s => F_X5_addUp_36 K  c u1 s.1 s.2) (W := fun s => GG κ 36 [(0, .ref (kad κ 147)), (1, .int u1), (2, .int s.1)] [] s.2) (fun c s hcc hp => F_X5_addUp_36_w C hret u1 s.1  s.2  (fun u2 σ h => hcc (u2, σ) h) hp) hp
  · have hp := hp.2 hc
    refine x_aload_n 0 C rfl (dX5_addUp_p0 13 rfl) ?_
    refine gX5_4 (b := 164) C rfl (by decide) rfl tw_167 (dX5_addUp_p0 14 rfl) ?_
    refine x_iload_n 2 C rfl (dX5_addUp_p0 15 rfl) ?_
    obtain ⟨h19, hp⟩ := hp
    refine x_aald (c := 14) (b := 164 + 1 + ix u2) C rfl (by decide) rfl rfl (by decide) h19 (row_mr14 rfl (by decide) h19) (dX5_addUp_p0 16 rfl) ?_
    refine x_iconst (v := 0) C (by decide) (dX5_addUp_p0 17 rfl) ?_
    refine x_lconst (v := 1) C (by decide) (dX5_addUp_p0 18 rfl) ?_
    refine x_last C (row_kd14 rfl (by decide) h19) (row_lt14 rfl (by decide) h19) (vp_ln ((row_ln14 rfl (by decide) h19).trans rfl) (vp_lit (by decide) (by decide))) (dX5_addUp_p0 19 rfl) ?_
    refine x_nmS (fun s20 es20 => ?_)
    have hp := hp s20 es20
    obtain ⟨v21, ev21⟩ : ∃ z : Int32, z = u2 + 1 := ⟨_, rfl⟩
    have hp := hp v21 ev21
    refine x_iinc (v := v21) (loc' := [(2, .int v21), (0, .ref (kad κ 147)), (1, .int u1)]) 2 C rfl (by rw [ev21]; rfl) (by decide) rfl (dX5_addUp_p0 20 rfl) ?_
    refine x_goto (tgt := 11) C (dX5_addUp_p0 21 rfl) (by decide) ?_
    refine x_loc (loc' := [(0, .ref (kad κ 147)), (1, .int u1), (2, .int v21)]) [1, 2, 0] rfl ?_
    exact hc11 v21 s20 hp
def P_X5_addUp  (σ : St) (K : Int64 → St → Prop) : Prop := ∀ v1 : Int32, v1 = ((1 <<< ((σ.1 147 1) &&& 31)) - 1) → (LpE (fun c s => F_X5_addUp_11 K  c v1 s.1 s.2) (0, σ))
set_option maxHeartbeats 4000000 in
set_option maxRecDepth 100000 in
theorem m_X5_addUp (l : Launch) (ad : Nat → Nat) (D : va_G) (ca : Nat → ClassId) (had : adOk ad)   (σ : St) (K : Int64 → St → Prop) (hp : P_X5_addUp  σ K) : CtL l ad D ca yX5_addUp cX5_addUp 4 3 [.ref (ad 147)] σ K := CtL_of (av := fun ad => [.ref (ad 147)]) (plainFor_of_name (by decide)) had (Nat.le_of_ble_eq_true rfl) (fun κ C hret => by
  have C : Ok κ RX5 cX5_addUp 4 3 := C
  show GG κ 0 [(0, .ref (kad κ 147))] [] σ
  unfold P_X5_addUp at hp
  refine x_iconst (v := 1) C (by decide) (dX5_addUp_p0 0 rfl) ?_
  refine x_aload_n 0 C rfl (dX5_addUp_p0 1 rfl) ?_
  refine gX5_1 C rfl (by decide) tw_164 (dX5_addUp_p0 2 rfl) ?_
  refine x_ishl C (dX5_addUp_p0 3 rfl) ?_
  refine x_iconst (v := 1) C (by decide) (dX5_addUp_p0 4 rfl) ?_
  refine x_isub C (dX5_addUp_p0 5 rfl) ?_
  refine x_topI (fun v1 ev1 => ?_)
  have hp := hp v1 ev1
  refine x_istore_n (loc' := [(1, .int v1), (0, .ref (kad κ 147))]) C rfl (by decide) rfl (dX5_addUp_p0 6 rfl) ?_
  refine x_iconst (v := 0) C (by decide) (dX5_addUp_p0 7 rfl) ?_
  refine x_istore_n (loc' := [(2, .int 0), (1, .int v1), (0, .ref (kad κ 147))]) C rfl (by decide) rfl (dX5_addUp_p0 8 rfl) ?_
  refine x_loc (loc' := [(0, .ref (kad κ 147)), (1, .int v1), (2, .int 0)]) [2, 1, 0] rfl ?_
  exact LpE_GG (S := (Int32 × St)) (F := fun c s => F_X5_addUp_11 K  c v1 s.1 s.2) (W := fun s => GG κ 11 [(0, .ref (kad κ 147)), (1, .int v1), (2, .int s.1)] [] s.2) (fun c s hcc hp => F_X5_addUp_11_w C hret v1 s.1  s.2  (fun u2 σ h => hcc (u2, σ) h) hp) hp)
def P_X5_arcSum (p1 : Int32) (p2 : Int32) (σ : St) (K : Int64 → St → Prop) : Prop := vp_in p1 7 ∧ vp_in p2 7 ∧ vp_in p1 7 ∧ vp_in p2 7 ∧ (K ((σ.2.1 (148 + 1 + ix p1) (ix p2)) * (σ.2.1 (188 + 1 + ix p1) (ix p2))) σ)
set_option maxHeartbeats 4000000 in
set_option maxRecDepth 100000 in
theorem m_X5_arcSum (l : Launch) (ad : Nat → Nat) (D : va_G) (ca : Nat → ClassId) (had : adOk ad) (p1 : Int32) (p2 : Int32)  (σ : St) (K : Int64 → St → Prop) (hp : P_X5_arcSum p1 p2 σ K) : CtL l ad D ca yX5_arcSum cX5_arcSum 3 0 [.ref (ad 147), .int p1, .int p2] σ K := CtL_of (av := fun ad => [.ref (ad 147), .int p1, .int p2]) (plainFor_of_name (by decide)) had (Nat.le_of_ble_eq_true rfl) (fun κ C hret => by
  have C : Ok κ RX5 cX5_arcSum 3 0 := C
  show GG κ 0 [(0, .ref (kad κ 147)), (1, .int p1), (2, .int p2)] [] σ
  unfold P_X5_arcSum at hp
  refine x_aload_n 0 C rfl (dX5_arcSum_p0 0 rfl) ?_
  refine gX5_2 (b := 148) C rfl (by decide) rfl tw_165 (dX5_arcSum_p0 1 rfl) ?_
  refine x_iload_n 1 C rfl (dX5_arcSum_p0 2 rfl) ?_
  obtain ⟨h1, hp⟩ := hp
  refine x_aald (c := 14) (b := 148 + 1 + ix p1) C rfl (by decide) rfl rfl (by decide) h1 (row_mr14 rfl (by decide) h1) (dX5_arcSum_p0 3 rfl) ?_
  refine x_iload_n 2 C rfl (dX5_arcSum_p0 4 rfl) ?_
  obtain ⟨h2, hp⟩ := hp
  refine x_lald C (row_kd14 rfl (by decide) h1) (row_lt14 rfl (by decide) h1) (vp_ln ((row_ln14 rfl (by decide) h1).trans rfl) h2) (dX5_arcSum_p0 5 rfl) ?_
  refine x_aload_n 0 C rfl (dX5_arcSum_p0 6 rfl) ?_
  refine gX5_7 (b := 188) C rfl (by decide) rfl tw_170 (dX5_arcSum_p0 7 rfl) ?_
  refine x_iload_n 1 C rfl (dX5_arcSum_p0 8 rfl) ?_
  obtain ⟨h3, hp⟩ := hp
  refine x_aald (c := 14) (b := 188 + 1 + ix p1) C rfl (by decide) rfl rfl (by decide) h3 (row_mr14 rfl (by decide) h3) (dX5_arcSum_p0 9 rfl) ?_
  refine x_iload_n 2 C rfl (dX5_arcSum_p0 10 rfl) ?_
  obtain ⟨h4, hp⟩ := hp
  refine x_lald C (row_kd14 rfl (by decide) h3) (row_lt14 rfl (by decide) h3) (vp_ln ((row_ln14 rfl (by decide) h3).trans rfl) h4) (dX5_arcSum_p0 11 rfl) ?_
  refine x_lmul C (dX5_arcSum_p0 12 rfl) ?_
  exact hret _ _ _ _ (dX5_arcSum_p0 13 rfl) hp)
def P_X5_begin (p1 : Int32) (σ : St) (K : St → Prop) : Prop := ∀ s1 : St, s1 = wI σ 147 1 p1 → (K s1)
set_option maxHeartbeats 4000000 in
set_option maxRecDepth 100000 in
theorem m_X5_begin (l : Launch) (ad : Nat → Nat) (D : va_G) (ca : Nat → ClassId) (had : adOk ad) (p1 : Int32)  (σ : St) (K : St → Prop) (hp : P_X5_begin p1 σ K) : CtV l ad D ca yX5_begin cX5_begin 2 0 [.ref (ad 147), .int p1] σ K := CtV_of (av := fun ad => [.ref (ad 147), .int p1]) (plainFor_of_name (by decide)) had (Nat.le_of_ble_eq_true rfl) (fun κ C hret => by
  have C : Ok κ RX5 cX5_begin 2 0 := C
  show GG κ 0 [(0, .ref (kad κ 147)), (1, .int p1)] [] σ
  unfold P_X5_begin at hp
  refine x_aload_n 0 C rfl (dX5_begin_p0 0 rfl) ?_
  refine x_iload_n 1 C rfl (dX5_begin_p0 1 rfl) ?_
  refine qX5_1 C rfl (by decide) tw_164 (dX5_begin_p0 2 rfl) ?_
  refine x_nmS (fun s1 es1 => ?_)
  have hp := hp s1 es1
  exact hret _ _ _ (dX5_begin_p0 3 rfl) hp)
def F_X5_clearGains_42 (K : St → Prop) (c2 : (Int32 × St) → Prop) (c42 : (Int32 × St) → Prop) (u1 : Int32) (u2 : Int32) (σ : St) : Prop := (7 ≤ u2 → ∀ v1 : Int32, v1 = u1 + 1 → c2 (v1, σ)) ∧ (¬ (7 ≤ u2) → vp_in u1 7 ∧ (vp_in u2 7 ∧ ∀ s4 : St, s4 = wL σ (188 + 1 + ix u1) (ix u2) 0 → ∀ v5 : Int32, v5 = u2 + 1 → c42 (v5, s4)))
set_option maxHeartbeats 4000000 in
set_option maxRecDepth 100000 in
theorem F_X5_clearGains_42_w {κ : Kap} {K : St → Prop} {c2 : (Int32 × St) → Prop} {c42 : (Int32 × St) → Prop} (C : Ok κ RX5 cX5_clearGains 3 0) (hret : RetV κ cX5_clearGains K) (u1 : Int32) (u2 : Int32)    (σ : St) (hc2 : ∀ (u1 : Int32) (σ : St), c2 (u1, σ) → GG κ 2 [(0, .ref (kad κ 147)), (1, .int u1)] [] σ) (hc42 : ∀ (u2 : Int32) (σ : St), c42 (u2, σ) → GG κ 42 [(0, .ref (kad κ 147)), (1, .int u1), (2, .int u2)] [] σ) (hp : F_X5_clearGains_42 K c2 c42 u1 u2 σ) : GG κ 42 [(0, .ref (kad κ 147)), (1, .int u1), (2, .int u2)] [] σ := by
  unfold F_X5_clearGains_42 at hp
  refine x_iload_n 2 C rfl (dX5_clearGains_p0 28 rfl) ?_
  refine x_bipush (v := 7) C (by decide) (dX5_clearGains_p0 29 rfl) ?_
  refine x_icmp_ge (tgt := 63) C (dX5_clearGains_p0 30 rfl) (by decide) (fun hc => ?_) (fun hc => ?_)
  · have hp := hp.1 hc
    obtain ⟨v1, ev1⟩ : ∃ z : Int32, z = u1 + 1 := ⟨_, rfl⟩
    have hp := hp v1 ev1
    refine x_iinc (v := v1) (loc' := [(1, .int v1), (0, .ref (kad κ 147)), (2, .int u2)]) 1 C rfl (by rw [ev1]; rfl) (by decide) rfl (dX5_clearGains_p0 40 rfl) ?_
    refine x_goto (tgt := 2) C (dX5_clearGains_p0 41 rfl) (by decide) ?_
    refine x_loc (loc' := [(0, .ref (kad κ 147)), (1, .int v1)]) [1, 0] rfl ?_
    exact hc2 v1 σ hp
  · have hp := hp.2 hc
    refine x_aload_n 0 C rfl (dX5_clearGains_p0 31 rfl) ?_
    refine gX5_7 (b := 188) C rfl (by decide) rfl tw_170 (dX5_clearGains_p0 32 rfl) ?_
    refine x_iload_n 1 C rfl (dX5_clearGains_p0 33 rfl) ?_
    obtain ⟨h2, hp⟩ := hp
    refine x_aald (c := 14) (b := 188 + 1 + ix u1) C rfl (by decide) rfl rfl (by decide) h2 (row_mr14 rfl (by decide) h2) (dX5_clearGains_p0 34 rfl) ?_
    refine x_iload_n 2 C rfl (dX5_clearGains_p0 35 rfl) ?_
    refine x_lconst (v := 0) C (by decide) (dX5_clearGains_p0 36 rfl) ?_
    obtain ⟨h3, hp⟩ := hp
    refine x_last C (row_kd14 rfl (by decide) h2) (row_lt14 rfl (by decide) h2) (vp_ln ((row_ln14 rfl (by decide) h2).trans rfl) h3) (dX5_clearGains_p0 37 rfl) ?_
    refine x_nmS (fun s4 es4 => ?_)
    have hp := hp s4 es4
    obtain ⟨v5, ev5⟩ : ∃ z : Int32, z = u2 + 1 := ⟨_, rfl⟩
    have hp := hp v5 ev5
    refine x_iinc (v := v5) (loc' := [(2, .int v5), (0, .ref (kad κ 147)), (1, .int u1)]) 2 C rfl (by rw [ev5]; rfl) (by decide) rfl (dX5_clearGains_p0 38 rfl) ?_
    refine x_goto (tgt := 42) C (dX5_clearGains_p0 39 rfl) (by decide) ?_
    refine x_loc (loc' := [(0, .ref (kad κ 147)), (1, .int u1), (2, .int v5)]) [1, 2, 0] rfl ?_
    exact hc42 v5 s4 hp
def F_X5_clearGains_10 (K : St → Prop) (c2 : (Int32 × St) → Prop) (c10 : (Int32 × St) → Prop) (u1 : Int32) (u2 : Int32) (σ : St) : Prop := (64 ≤ u2 → (LpE (fun c s => F_X5_clearGains_42 K c2 c u1 s.1 s.2) (0, σ))) ∧ (¬ (64 ≤ u2) → vp_in u1 7 ∧ (vp_in u2 64 ∧ ∀ s8 : St, s8 = wL σ (172 + 1 + ix u1) (ix u2) 0 → vp_in u1 7 ∧ (vp_in u2 64 ∧ ∀ s11 : St, s11 = wL s8 (180 + 1 + ix u1) (ix u2) 0 → ∀ v12 : Int32, v12 = u2 + 1 → c10 (v12, s11))))
set_option maxHeartbeats 4000000 in
set_option maxRecDepth 100000 in
theorem F_X5_clearGains_10_w {κ : Kap} {K : St → Prop} {c2 : (Int32 × St) → Prop} {c10 : (Int32 × St) → Prop} (C : Ok κ RX5 cX5_clearGains 3 0) (hret : RetV κ cX5_clearGains K) (u1 : Int32) (u2 : Int32)    (σ : St) (hc2 : ∀ (u1 : Int32) (σ : St), c2 (u1, σ) → GG κ 2 [(0, .ref (kad κ 147)), (1, .int u1)] [] σ) (hc10 : ∀ (u2 : Int32) (σ : St), c10 (u2, σ) → GG κ 10 [(0, .ref (kad κ 147)), (1, .int u1), (2, .int u2)] [] σ) (hp : F_X5_clearGains_10 K c2 c10 u1 u2 σ) : GG κ 10 [(0, .ref (kad κ 147)), (1, .int u1), (2, .int u2)] [] σ := by
  unfold F_X5_clearGains_10 at hp
  refine x_iload_n 2 C rfl (dX5_clearGains_p0 7 rfl) ?_
  refine x_bipush (v := 64) C (by decide) (dX5_clearGains_p0 8 rfl) ?_
  refine x_icmp_ge (tgt := 40) C (dX5_clearGains_p0 9 rfl) (by decide) (fun hc => ?_) (fun hc => ?_)
  · have hp := hp.1 hc
    refine x_iconst (v := 0) C (by decide) (dX5_clearGains_p0 26 rfl) ?_
    refine x_istore_n (loc' := [(2, .int 0), (0, .ref (kad κ 147)), (1, .int u1)]) C rfl (by decide) rfl (dX5_clearGains_p0 27 rfl) ?_
    refine x_loc (loc' := [(0, .ref (kad κ 147)), (1, .int u1), (2, .int 0)]) [1, 2, 0] rfl ?_
    exact LpE_GG (S := (Int32 × St)) (F := fun c s => F_X5_clearGains_42 K c2 c u1 s.1 s.2) (W := fun s => GG κ 42 [(0, .ref (kad κ 147)), (1, .int u1), (2, .int s.1)] [] s.2) (fun c s hcc hp => F_X5_clearGains_42_w C hret u1 s.1  s.2 hc2 (fun u2 σ h => hcc (u2, σ) h) hp) hp
  · have hp := hp.2 hc
    refine x_aload_n 0 C rfl (dX5_clearGains_p0 10 rfl) ?_
    refine gX5_5 (b := 172) C rfl (by decide) rfl tw_168 (dX5_clearGains_p0 11 rfl) ?_
    refine x_iload_n 1 C rfl (dX5_clearGains_p0 12 rfl) ?_
    obtain ⟨h6, hp⟩ := hp
    refine x_aald (c := 14) (b := 172 + 1 + ix u1) C rfl (by decide) rfl rfl (by decide) h6 (row_mr14 rfl (by decide) h6) (dX5_clearGains_p0 13 rfl) ?_
    refine x_iload_n 2 C rfl (dX5_clearGains_p0 14 rfl) ?_
    refine x_lconst (v := 0) C (by decide) (dX5_clearGains_p0 15 rfl) ?_
    obtain ⟨h7, hp⟩ := hp
    refine x_last C (row_kd14 rfl (by decide) h6) (row_lt14 rfl (by decide) h6) (vp_ln ((row_ln14 rfl (by decide) h6).trans rfl) h7) (dX5_clearGains_p0 16 rfl) ?_
    refine x_nmS (fun s8 es8 => ?_)
    have hp := hp s8 es8
    refine x_aload_n 0 C rfl (dX5_clearGains_p0 17 rfl) ?_
    refine gX5_6 (b := 180) C rfl (by decide) rfl tw_169 (dX5_clearGains_p0 18 rfl) ?_
    refine x_iload_n 1 C rfl (dX5_clearGains_p0 19 rfl) ?_
    obtain ⟨h9, hp⟩ := hp
    refine x_aald (c := 14) (b := 180 + 1 + ix u1) C rfl (by decide) rfl rfl (by decide) h9 (row_mr14 rfl (by decide) h9) (dX5_clearGains_p0 20 rfl) ?_
    refine x_iload_n 2 C rfl (dX5_clearGains_p0 21 rfl) ?_
    refine x_lconst (v := 0) C (by decide) (dX5_clearGains_p0 22 rfl) ?_
    obtain ⟨h10, hp⟩ := hp
    refine x_last C (row_kd14 rfl (by decide) h9) (row_lt14 rfl (by decide) h9) (vp_ln ((row_ln14 rfl (by decide) h9).trans rfl) h10) (dX5_clearGains_p0 23 rfl) ?_
    refine x_nmS (fun s11 es11 => ?_)
    have hp := hp s11 es11
    obtain ⟨v12, ev12⟩ : ∃ z : Int32, z = u2 + 1 := ⟨_, rfl⟩
    have hp := hp v12 ev12
    refine x_iinc (v := v12) (loc' := [(2, .int v12), (0, .ref (kad κ 147)), (1, .int u1)]) 2 C rfl (by rw [ev12]; rfl) (by decide) rfl (dX5_clearGains_p0 24 rfl) ?_
    refine x_goto (tgt := 10) C (dX5_clearGains_p0 25 rfl) (by decide) ?_
    refine x_loc (loc' := [(0, .ref (kad κ 147)), (1, .int u1), (2, .int v12)]) [1, 2, 0] rfl ?_
    exact hc10 v12 s11 hp
def F_X5_clearGains_2 (K : St → Prop) (c2 : (Int32 × St) → Prop) (u1 : Int32) (σ : St) : Prop := (7 ≤ u1 → (K σ)) ∧ (¬ (7 ≤ u1) → (LpE (fun c s => F_X5_clearGains_10 K c2 c u1 s.1 s.2) (0, σ)))
set_option maxHeartbeats 4000000 in
set_option maxRecDepth 100000 in
theorem F_X5_clearGains_2_w {κ : Kap} {K : St → Prop} {c2 : (Int32 × St) → Prop} (C : Ok κ RX5 cX5_clearGains 3 0) (hret : RetV κ cX5_clearGains K) (u1 : Int32)   (σ : St) (hc2 : ∀ (u1 : Int32) (σ : St), c2 (u1, σ) → GG κ 2 [(0, .ref (kad κ 147)), (1, .int u1)] [] σ) (hp : F_X5_clearGains_2 K c2 u1 σ) : GG κ 2 [(0, .ref (kad κ 147)), (1, .int u1)] [] σ := by
  unfold F_X5_clearGains_2 at hp
  refine x_iload_n 1 C rfl (dX5_clearGains_p0 2 rfl) ?_
  refine x_bipush (v := 7) C (by decide) (dX5_clearGains_p0 3 rfl) ?_
  refine x_icmp_ge (tgt := 69) C (dX5_clearGains_p0 4 rfl) (by decide) (fun hc => ?_) (fun hc => ?_)
  · have hp := hp.1 hc
    exact hret _ _ _ (dX5_clearGains_p0 42 rfl) hp
  · have hp := hp.2 hc
    refine x_iconst (v := 0) C (by decide) (dX5_clearGains_p0 5 rfl) ?_
    refine x_istore_n (loc' := [(2, .int 0), (0, .ref (kad κ 147)), (1, .int u1)]) C rfl (by decide) rfl (dX5_clearGains_p0 6 rfl) ?_
    refine x_loc (loc' := [(0, .ref (kad κ 147)), (1, .int u1), (2, .int 0)]) [1, 2, 0] rfl ?_
    exact LpE_GG (S := (Int32 × St)) (F := fun c s => F_X5_clearGains_10 K c2 c u1 s.1 s.2) (W := fun s => GG κ 10 [(0, .ref (kad κ 147)), (1, .int u1), (2, .int s.1)] [] s.2) (fun c s hcc hp => F_X5_clearGains_10_w C hret u1 s.1  s.2 hc2 (fun u2 σ h => hcc (u2, σ) h) hp) hp
def P_X5_clearGains  (σ : St) (K : St → Prop) : Prop := LpE (fun c s => F_X5_clearGains_2 K  c s.1 s.2) (0, σ)
set_option maxHeartbeats 4000000 in
set_option maxRecDepth 100000 in
theorem m_X5_clearGains (l : Launch) (ad : Nat → Nat) (D : va_G) (ca : Nat → ClassId) (had : adOk ad)   (σ : St) (K : St → Prop) (hp : P_X5_clearGains  σ K) : CtV l ad D ca yX5_clearGains cX5_clearGains 3 0 [.ref (ad 147)] σ K := CtV_of (av := fun ad => [.ref (ad 147)]) (plainFor_of_name (by decide)) had (Nat.le_of_ble_eq_true rfl) (fun κ C hret => by
  have C : Ok κ RX5 cX5_clearGains 3 0 := C
  show GG κ 0 [(0, .ref (kad κ 147))] [] σ
  unfold P_X5_clearGains at hp
  refine x_iconst (v := 0) C (by decide) (dX5_clearGains_p0 0 rfl) ?_
  refine x_istore_n (loc' := [(1, .int 0), (0, .ref (kad κ 147))]) C rfl (by decide) rfl (dX5_clearGains_p0 1 rfl) ?_
  refine x_loc (loc' := [(0, .ref (kad κ 147)), (1, .int 0)]) [1, 0] rfl ?_
  exact LpE_GG (S := (Int32 × St)) (F := fun c s => F_X5_clearGains_2 K  c s.1 s.2) (W := fun s => GG κ 2 [(0, .ref (kad κ 147)), (1, .int s.1)] [] s.2) (fun c s hcc hp => F_X5_clearGains_2_w C hret s.1  s.2  (fun u1 σ h => hcc (u1, σ) h) hp) hp)
def P_X5_setPotential (p1 : Int32) (p2 : Int32) (p3 : Int32) (σ : St) (K : St → Prop) : Prop := vp_in p1 7 ∧ (vp_in p2 7 ∧ ∀ s3 : St, s3 = wL σ (148 + 1 + ix p1) (ix p2) (Int32.toInt64 p3) → (K s3))
set_option maxHeartbeats 4000000 in
set_option maxRecDepth 100000 in
theorem m_X5_setPotential (l : Launch) (ad : Nat → Nat) (D : va_G) (ca : Nat → ClassId) (had : adOk ad) (p1 : Int32) (p2 : Int32) (p3 : Int32)  (σ : St) (K : St → Prop) (hp : P_X5_setPotential p1 p2 p3 σ K) : CtV l ad D ca yX5_setPotential cX5_setPotential 4 0 [.ref (ad 147), .int p1, .int p2, .int p3] σ K := CtV_of (av := fun ad => [.ref (ad 147), .int p1, .int p2, .int p3]) (plainFor_of_name (by decide)) had (Nat.le_of_ble_eq_true rfl) (fun κ C hret => by
  have C : Ok κ RX5 cX5_setPotential 4 0 := C
  show GG κ 0 [(0, .ref (kad κ 147)), (1, .int p1), (2, .int p2), (3, .int p3)] [] σ
  unfold P_X5_setPotential at hp
  refine x_aload_n 0 C rfl (dX5_setPotential_p0 0 rfl) ?_
  refine gX5_2 (b := 148) C rfl (by decide) rfl tw_165 (dX5_setPotential_p0 1 rfl) ?_
  refine x_iload_n 1 C rfl (dX5_setPotential_p0 2 rfl) ?_
  obtain ⟨h1, hp⟩ := hp
  refine x_aald (c := 14) (b := 148 + 1 + ix p1) C rfl (by decide) rfl rfl (by decide) h1 (row_mr14 rfl (by decide) h1) (dX5_setPotential_p0 3 rfl) ?_
  refine x_iload_n 2 C rfl (dX5_setPotential_p0 4 rfl) ?_
  refine x_iload_n 3 C rfl (dX5_setPotential_p0 5 rfl) ?_
  refine x_i2l C (dX5_setPotential_p0 6 rfl) ?_
  obtain ⟨h2, hp⟩ := hp
  refine x_last C (row_kd14 rfl (by decide) h1) (row_lt14 rfl (by decide) h1) (vp_ln ((row_ln14 rfl (by decide) h1).trans rfl) h2) (dX5_setPotential_p0 7 rfl) ?_
  refine x_nmS (fun s3 es3 => ?_)
  have hp := hp s3 es3
  exact hret _ _ _ (dX5_setPotential_p0 8 rfl) hp)
