def F_X8_prepares_111 (K : St → Prop) (c111 : (Int32 × St) → Prop) (u3 : Int32) (σ : St) : Prop := (49 ≤ u3 → ∀ s3 : St, s3 = wI σ 204 21 0 → ∀ s4 : St, s4 = wI s3 204 24 0 → ∀ s5 : St, s5 = wL s4 204 25 0 → (∀ s6 : St, s6 = wI s5 204 28 (-100000000) → (∀ s7 : St, s7 = wL s6 204 29 (-1) → (K s7)))) ∧ (¬ (49 ≤ u3) → (vp_in u3 49 ∧ ∀ s9 : St, s9 = wI σ 222 (ix u3) (-100000000) → (vp_in u3 49 ∧ ∀ s11 : St, s11 = wL s9 223 (ix u3) 0 → ∀ v12 : Int32, v12 = u3 + 1 → c111 (v12, s11))))
set_option maxHeartbeats 4000000 in
set_option maxRecDepth 100000 in
theorem F_X8_prepares_111_w {κ : Kap} {K : St → Prop} {c111 : (Int32 × St) → Prop} (C : Ok κ RX8 cX8_prepares 7 4) (hret : RetV κ cX8_prepares K) (u3 : Int32)   (σ : St) (hc111 : ∀ (u3 : Int32) (σ : St), c111 (u3, σ) → GG κ 111 [(0, .ref (kad κ 204)), (3, .int u3)] [] σ) (hp : F_X8_prepares_111 K c111 u3 σ) : GG κ 111 [(0, .ref (kad κ 204)), (3, .int u3)] [] σ := by
  unfold F_X8_prepares_111 at hp
  refine x_iload_n 1 C rfl (dX8_prepares_p0 62 rfl) ?_
  refine x_bipush (v := 49) C (by decide) (dX8_prepares_p0 63 rfl) ?_
  refine x_icmp_ge (tgt := 138) C (dX8_prepares_p1 0 rfl) (by decide) (fun hc => ?_) (fun hc => ?_)
  · have hp := hp.1 hc
    refine x_aload_n 0 C rfl (dX8_prepares_p1 13 rfl) ?_
    refine x_iconst (v := 0) C (by decide) (dX8_prepares_p1 14 rfl) ?_
    refine qX8_21 C rfl (by decide) tw_769 (dX8_prepares_p1 15 rfl) ?_
    refine x_nmS (fun s3 es3 => ?_)
    have hp := hp s3 es3
    refine x_aload_n 0 C rfl (dX8_prepares_p1 16 rfl) ?_
    refine x_iconst (v := 0) C (by decide) (dX8_prepares_p1 17 rfl) ?_
    refine qX8_24 C rfl (by decide) tw_772 (dX8_prepares_p1 18 rfl) ?_
    refine x_nmS (fun s4 es4 => ?_)
    have hp := hp s4 es4
    refine x_aload_n 0 C rfl (dX8_prepares_p1 19 rfl) ?_
    refine x_lconst (v := 0) C (by decide) (dX8_prepares_p1 20 rfl) ?_
    refine qX8_25 C rfl (by decide) tw_773 (dX8_prepares_p1 21 rfl) ?_
    refine x_nmS (fun s5 es5 => ?_)
    have hp := hp s5 es5
    refine x_aload_n 0 C rfl (dX8_prepares_p1 22 rfl) ?_
    refine x_ldc C tw_1025 (dX8_prepares_p1 23 rfl) ?_
    refine qX8_28 C rfl (by decide) tw_776 (dX8_prepares_p1 24 rfl) ?_
    refine x_nmS (fun s6 es6 => ?_)
    have hp := hp s6 es6
    refine x_aload_n 0 C rfl (dX8_prepares_p1 25 rfl) ?_
    refine x_ldc2 C tw_1026 (dX8_prepares_p1 26 rfl) ?_
    refine qX8_29 C rfl (by decide) tw_777 (dX8_prepares_p1 27 rfl) ?_
    refine x_nmS (fun s7 es7 => ?_)
    have hp := hp s7 es7
    exact hret _ _ _ (dX8_prepares_p1 28 rfl) hp
  · have hp := hp.2 hc
    refine x_aload_n 0 C rfl (dX8_prepares_p1 1 rfl) ?_
    refine gX8_26 (b := 222) C rfl (by decide) rfl tw_774 (dX8_prepares_p1 2 rfl) ?_
    refine x_iload_n 1 C rfl (dX8_prepares_p1 3 rfl) ?_
    refine x_ldc C tw_1025 (dX8_prepares_p1 4 rfl) ?_
    obtain ⟨h8, hp⟩ := hp
    refine x_iast C rfl (by decide) h8 (dX8_prepares_p1 5 rfl) ?_
    refine x_nmS (fun s9 es9 => ?_)
    have hp := hp s9 es9
    refine x_aload_n 0 C rfl (dX8_prepares_p1 6 rfl) ?_
    refine gX8_27 (b := 223) C rfl (by decide) rfl tw_775 (dX8_prepares_p1 7 rfl) ?_
    refine x_iload_n 1 C rfl (dX8_prepares_p1 8 rfl) ?_
    refine x_lconst (v := 0) C (by decide) (dX8_prepares_p1 9 rfl) ?_
    obtain ⟨h10, hp⟩ := hp
    refine x_last C rfl (by decide) h10 (dX8_prepares_p1 10 rfl) ?_
    refine x_nmS (fun s11 es11 => ?_)
    have hp := hp s11 es11
    obtain ⟨v12, ev12⟩ : ∃ z : Int32, z = u3 + 1 := ⟨_, rfl⟩
    have hp := hp v12 ev12
    refine x_iinc (v := v12) (loc' := [(3, .int v12), (0, .ref (kad κ 204))]) 1 C rfl (by rw [ev12]; rfl) (by decide) rfl (dX8_prepares_p1 11 rfl) ?_
    refine x_goto (tgt := 111) C (dX8_prepares_p1 12 rfl) (by decide) ?_
    refine x_loc (loc' := [(0, .ref (kad κ 204)), (3, .int v12)]) [1, 0] rfl ?_
    exact hc111 v12 s11 hp
def F_X8_prepares_17 (K : St → Prop) (c9 : (Int32 × St) → Prop) (c17 : (Int32 × St) → Prop) (u1 : Int32) (u2 : Int32) (u3 : Int32) (u4 : Int32) (σ : St) : Prop := (u2 < u4 → ∀ v13 : Int32, v13 = u3 + 1 → c9 (v13, σ)) ∧ (¬ (u2 < u4) → ((u3 = u4 → ∀ v14 : Int32, v14 = u4 + 1 → c17 (v14, σ)) ∧ (¬ (u3 = u4) → P_X8_scoreOf u1 u3 u4 σ (fun r16 s15 => vp_in ((7 * u3) + u4) 49 ∧ ∀ s18 : St, s18 = wI s15 217 (ix ((7 * u3) + u4)) r16 → (∀ v19 : Int32, v19 = (r16 + (s18.1 204 13)) → ((0 ≤ v19 → ((v19 ≤ 20 → (vp_in ((7 * u3) + u4) 49 ∧ ∀ s21 : St, s21 = wI s18 218 (ix ((7 * u3) + u4)) v19 → ∀ v22 : Int32, v22 = u4 + 1 → c17 (v22, s21))) ∧ (¬ (v19 ≤ 20) → (vp_in ((7 * u3) + u4) 49 ∧ ∀ s24 : St, s24 = wI s18 218 (ix ((7 * u3) + u4)) 20 → ∀ v25 : Int32, v25 = u4 + 1 → c17 (v25, s24))))) ∧ (¬ (0 ≤ v19) → (vp_in ((7 * u3) + u4) 49 ∧ ∀ s27 : St, s27 = wI s18 218 (ix ((7 * u3) + u4)) 0 → ∀ v28 : Int32, v28 = u4 + 1 → c17 (v28, s27)))))))))
set_option maxHeartbeats 4000000 in
set_option maxRecDepth 100000 in
theorem F_X8_prepares_17_w {κ : Kap} {K : St → Prop} {c9 : (Int32 × St) → Prop} {c17 : (Int32 × St) → Prop} (C : Ok κ RX8 cX8_prepares 7 4) (hret : RetV κ cX8_prepares K) (u1 : Int32) (u2 : Int32) (u3 : Int32) (u4 : Int32)      (σ : St) (hc9 : ∀ (u3 : Int32) (σ : St), c9 (u3, σ) → GG κ 9 [(0, .ref (kad κ 204)), (1, .int u1), (2, .int u2), (3, .int u3)] [] σ) (hc17 : ∀ (u4 : Int32) (σ : St), c17 (u4, σ) → GG κ 17 [(0, .ref (kad κ 204)), (1, .int u1), (2, .int u2), (3, .int u3), (4, .int u4)] [] σ) (hp : F_X8_prepares_17 K c9 c17 u1 u2 u3 u4 σ) : GG κ 17 [(0, .ref (kad κ 204)), (1, .int u1), (2, .int u2), (3, .int u3), (4, .int u4)] [] σ := by
  unfold F_X8_prepares_17 at hp
  refine x_iload 4 C rfl (dX8_prepares_p0 12 rfl) ?_
  refine x_iload_n 2 C rfl (dX8_prepares_p0 13 rfl) ?_
  refine x_icmp_gt (tgt := 103) C (dX8_prepares_p0 14 rfl) (by decide) (fun hc => ?_) (fun hc => ?_)
  · have hp := hp.1 hc
    obtain ⟨v13, ev13⟩ : ∃ z : Int32, z = u3 + 1 := ⟨_, rfl⟩
    have hp := hp v13 ev13
    refine x_iinc (v := v13) (loc' := [(3, .int v13), (0, .ref (kad κ 204)), (1, .int u1), (2, .int u2), (4, .int u4)]) 3 C rfl (by rw [ev13]; rfl) (by decide) rfl (dX8_prepares_p0 58 rfl) ?_
    refine x_goto (tgt := 9) C (dX8_prepares_p0 59 rfl) (by decide) ?_
    refine x_loc (loc' := [(0, .ref (kad κ 204)), (1, .int u1), (2, .int u2), (3, .int v13)]) [1, 2, 3, 0] rfl ?_
    exact hc9 v13 σ hp
  · have hp := hp.2 hc
    refine x_iload_n 3 C rfl (dX8_prepares_p0 15 rfl) ?_
    refine x_iload 4 C rfl (dX8_prepares_p0 16 rfl) ?_
    refine x_icmp_eq (tgt := 97) C (dX8_prepares_p0 17 rfl) (by decide) (fun hc => ?_) (fun hc => ?_)
    · have hp := hp.1 hc
      obtain ⟨v14, ev14⟩ : ∃ z : Int32, z = u4 + 1 := ⟨_, rfl⟩
      have hp := hp v14 ev14
      refine x_iinc (v := v14) (loc' := [(4, .int v14), (0, .ref (kad κ 204)), (1, .int u1), (2, .int u2), (3, .int u3)]) 4 C rfl (by rw [ev14]; rfl) (by decide) rfl (dX8_prepares_p0 56 rfl) ?_
      refine x_goto (tgt := 17) C (dX8_prepares_p0 57 rfl) (by decide) ?_
      refine x_loc (loc' := [(0, .ref (kad κ 204)), (1, .int u1), (2, .int u2), (3, .int u3), (4, .int v14)]) [1, 2, 3, 4, 0] rfl ?_
      exact hc17 v14 σ hp
    · have hp := hp.2 hc
      refine x_aload_n 0 C rfl (dX8_prepares_p0 18 rfl) ?_
      refine x_iload_n 1 C rfl (dX8_prepares_p0 19 rfl) ?_
      refine x_iload_n 3 C rfl (dX8_prepares_p0 20 rfl) ?_
      refine x_iload 4 C rfl (dX8_prepares_p0 21 rfl) ?_
      refine x_cvI (As := [.int u1, .int u3, .int u4]) (st := []) C LRX8_167 (ci := 8) rfl rfl (by decide) (by decide) (m_X8_scoreOf (kL κ) (kad κ) (kD κ) (kca κ) C.ado u1 u3 u4  σ _ hp) rfl (by decide) rfl (Nat.le_of_ble_eq_true rfl) (dX8_prepares_p0 22 rfl) (fun r16 s15 hp => ?_)
      refine x_istore (loc' := [(5, .int r16), (0, .ref (kad κ 204)), (1, .int u1), (2, .int u2), (3, .int u3), (4, .int u4)]) C (by decide) rfl (dX8_prepares_p0 23 rfl) ?_
      refine x_aload_n 1 C rfl (dX8_prepares_p0 24 rfl) ?_
      refine gX8_18 (b := 217) C rfl (by decide) rfl tw_766 (dX8_prepares_p0 25 rfl) ?_
      refine x_bipush (v := 7) C (by decide) (dX8_prepares_p0 26 rfl) ?_
      refine x_iload_n 4 C rfl (dX8_prepares_p0 27 rfl) ?_
      refine x_imul C (dX8_prepares_p0 28 rfl) ?_
      refine x_iload 5 C rfl (dX8_prepares_p0 29 rfl) ?_
      refine x_iadd C (dX8_prepares_p0 30 rfl) ?_
      refine x_iload 0 C rfl (dX8_prepares_p0 31 rfl) ?_
      obtain ⟨h17, hp⟩ := hp
      refine x_iast C rfl (by decide) h17 (dX8_prepares_p0 32 rfl) ?_
      refine x_nmS (fun s18 es18 => ?_)
      have hp := hp s18 es18
      refine x_iload 0 C rfl (dX8_prepares_p0 33 rfl) ?_
      refine x_aload_n 1 C rfl (dX8_prepares_p0 34 rfl) ?_
      refine gX8_13 C rfl (by decide) tw_761 (dX8_prepares_p0 35 rfl) ?_
      refine x_iadd C (dX8_prepares_p0 36 rfl) ?_
      refine x_topI (fun v19 ev19 => ?_)
      have hp := hp v19 ev19
      refine x_istore (loc' := [(6, .int v19), (5, .int r16), (0, .ref (kad κ 204)), (1, .int u1), (2, .int u2), (3, .int u3), (4, .int u4)]) C (by decide) rfl (dX8_prepares_p0 37 rfl) ?_
      refine x_aload_n 2 C rfl (dX8_prepares_p0 38 rfl) ?_
      refine gX8_19 (b := 218) C rfl (by decide) rfl tw_767 (dX8_prepares_p0 39 rfl) ?_
      refine x_bipush (v := 7) C (by decide) (dX8_prepares_p0 40 rfl) ?_
      refine x_iload_n 5 C rfl (dX8_prepares_p0 41 rfl) ?_
      refine x_imul C (dX8_prepares_p0 42 rfl) ?_
      refine x_iload 6 C rfl (dX8_prepares_p0 43 rfl) ?_
      refine x_iadd C (dX8_prepares_p0 44 rfl) ?_
      refine x_iload 0 C rfl (dX8_prepares_p0 45 rfl) ?_
      refine x_if_ge (tgt := 82) C (dX8_prepares_p0 46 rfl) (by decide) (fun hc => ?_) (fun hc => ?_)
      · have hp := hp.1 hc
        refine x_iload 0 C rfl (dX8_prepares_p0 49 rfl) ?_
        refine x_bipush (v := 20) C (by decide) (dX8_prepares_p0 50 rfl) ?_
        refine x_icmp_le (tgt := 94) C (dX8_prepares_p0 51 rfl) (by decide) (fun hc => ?_) (fun hc => ?_)
        · have hp := hp.1 hc
          refine x_iload 0 C rfl (dX8_prepares_p0 54 rfl) ?_
          obtain ⟨h20, hp⟩ := hp
          refine x_iast C rfl (by decide) h20 (dX8_prepares_p0 55 rfl) ?_
          refine x_nmS (fun s21 es21 => ?_)
          have hp := hp s21 es21
          obtain ⟨v22, ev22⟩ : ∃ z : Int32, z = u4 + 1 := ⟨_, rfl⟩
          have hp := hp v22 ev22
          refine x_iinc (v := v22) (loc' := [(4, .int v22), (6, .int v19), (5, .int r16), (0, .ref (kad κ 204)), (1, .int u1), (2, .int u2), (3, .int u3)]) 6 C rfl (by rw [ev22]; rfl) (by decide) rfl (dX8_prepares_p0 56 rfl) ?_
          refine x_goto (tgt := 17) C (dX8_prepares_p0 57 rfl) (by decide) ?_
          refine x_loc (loc' := [(0, .ref (kad κ 204)), (1, .int u1), (2, .int u2), (3, .int u3), (4, .int v22)]) [3, 4, 5, 6, 0] rfl ?_
          exact hc17 v22 s21 hp
        · have hp := hp.2 hc
          refine x_bipush (v := 20) C (by decide) (dX8_prepares_p0 52 rfl) ?_
          refine x_goto (tgt := 96) C (dX8_prepares_p0 53 rfl) (by decide) ?_
          obtain ⟨h23, hp⟩ := hp
          refine x_iast C rfl (by decide) h23 (dX8_prepares_p0 55 rfl) ?_
          refine x_nmS (fun s24 es24 => ?_)
          have hp := hp s24 es24
          obtain ⟨v25, ev25⟩ : ∃ z : Int32, z = u4 + 1 := ⟨_, rfl⟩
          have hp := hp v25 ev25
          refine x_iinc (v := v25) (loc' := [(4, .int v25), (6, .int v19), (5, .int r16), (0, .ref (kad κ 204)), (1, .int u1), (2, .int u2), (3, .int u3)]) 6 C rfl (by rw [ev25]; rfl) (by decide) rfl (dX8_prepares_p0 56 rfl) ?_
          refine x_goto (tgt := 17) C (dX8_prepares_p0 57 rfl) (by decide) ?_
          refine x_loc (loc' := [(0, .ref (kad κ 204)), (1, .int u1), (2, .int u2), (3, .int u3), (4, .int v25)]) [3, 4, 5, 6, 0] rfl ?_
          exact hc17 v25 s24 hp
      · have hp := hp.2 hc
        refine x_iconst (v := 0) C (by decide) (dX8_prepares_p0 47 rfl) ?_
        refine x_goto (tgt := 96) C (dX8_prepares_p0 48 rfl) (by decide) ?_
        obtain ⟨h26, hp⟩ := hp
        refine x_iast C rfl (by decide) h26 (dX8_prepares_p0 55 rfl) ?_
        refine x_nmS (fun s27 es27 => ?_)
        have hp := hp s27 es27
        obtain ⟨v28, ev28⟩ : ∃ z : Int32, z = u4 + 1 := ⟨_, rfl⟩
        have hp := hp v28 ev28
        refine x_iinc (v := v28) (loc' := [(4, .int v28), (6, .int v19), (5, .int r16), (0, .ref (kad κ 204)), (1, .int u1), (2, .int u2), (3, .int u3)]) 6 C rfl (by rw [ev28]; rfl) (by decide) rfl (dX8_prepares_p0 56 rfl) ?_
        refine x_goto (tgt := 17) C (dX8_prepares_p0 57 rfl) (by decide) ?_
        refine x_loc (loc' := [(0, .ref (kad κ 204)), (1, .int u1), (2, .int u2), (3, .int u3), (4, .int v28)]) [3, 4, 5, 6, 0] rfl ?_
        exact hc17 v28 s27 hp
def F_X8_prepares_9 (K : St → Prop) (c9 : (Int32 × St) → Prop) (u1 : Int32) (u2 : Int32) (u3 : Int32) (σ : St) : Prop := (u2 < u3 → (LpE (fun c s => F_X8_prepares_111 K  c s.1 s.2) (0, σ))) ∧ (¬ (u2 < u3) → (LpE (fun c s => F_X8_prepares_17 K c9 c u1 u2 u3 s.1 s.2) (1, σ)))
set_option maxHeartbeats 4000000 in
set_option maxRecDepth 100000 in
theorem F_X8_prepares_9_w {κ : Kap} {K : St → Prop} {c9 : (Int32 × St) → Prop} (C : Ok κ RX8 cX8_prepares 7 4) (hret : RetV κ cX8_prepares K) (u1 : Int32) (u2 : Int32) (u3 : Int32)     (σ : St) (hc9 : ∀ (u3 : Int32) (σ : St), c9 (u3, σ) → GG κ 9 [(0, .ref (kad κ 204)), (1, .int u1), (2, .int u2), (3, .int u3)] [] σ) (hp : F_X8_prepares_9 K c9 u1 u2 u3 σ) : GG κ 9 [(0, .ref (kad κ 204)), (1, .int u1), (2, .int u2), (3, .int u3)] [] σ := by
  unfold F_X8_prepares_9 at hp
  refine x_iload_n 3 C rfl (dX8_prepares_p0 7 rfl) ?_
  refine x_iload_n 2 C rfl (dX8_prepares_p0 8 rfl) ?_
  refine x_icmp_gt (tgt := 109) C (dX8_prepares_p0 9 rfl) (by decide) (fun hc => ?_) (fun hc => ?_)
  · have hp := hp.1 hc
    refine x_iconst (v := 0) C (by decide) (dX8_prepares_p0 60 rfl) ?_
    refine x_istore_n (loc' := [(3, .int 0), (0, .ref (kad κ 204)), (1, .int u1), (2, .int u2)]) C rfl (by decide) rfl (dX8_prepares_p0 61 rfl) ?_
    refine x_loc (loc' := [(0, .ref (kad κ 204)), (3, .int 0)]) [1, 0] rfl ?_
    exact LpE_GG (S := (Int32 × St)) (F := fun c s => F_X8_prepares_111 K  c s.1 s.2) (W := fun s => GG κ 111 [(0, .ref (kad κ 204)), (3, .int s.1)] [] s.2) (fun c s hcc hp => F_X8_prepares_111_w C hret s.1  s.2  (fun u3 σ h => hcc (u3, σ) h) hp) hp
  · have hp := hp.2 hc
    refine x_iconst (v := 1) C (by decide) (dX8_prepares_p0 10 rfl) ?_
    refine x_istore (loc' := [(4, .int 1), (0, .ref (kad κ 204)), (1, .int u1), (2, .int u2), (3, .int u3)]) C (by decide) rfl (dX8_prepares_p0 11 rfl) ?_
    refine x_loc (loc' := [(0, .ref (kad κ 204)), (1, .int u1), (2, .int u2), (3, .int u3), (4, .int 1)]) [1, 2, 3, 4, 0] rfl ?_
    exact LpE_GG (S := (Int32 × St)) (F := fun c s => F_X8_prepares_17 K c9 c u1 u2 u3 s.1 s.2) (W := fun s => GG κ 17 [(0, .ref (kad κ 204)), (1, .int u1), (2, .int u2), (3, .int u3), (4, .int s.1)] [] s.2) (fun c s hcc hp => F_X8_prepares_17_w C hret u1 u2 u3 s.1  s.2 hc9 (fun u4 σ h => hcc (u4, σ) h) hp) hp
def P_X8_prepares (p1 : Int32) (σ : St) (K : St → Prop) : Prop := vp_in p1 4 ∧ (∀ v2 : Int32, v2 = (σ.1 206 (ix p1)) → (LpE (fun c s => F_X8_prepares_9 K  c p1 v2 s.1 s.2) (0, σ)))
set_option maxHeartbeats 4000000 in
set_option maxRecDepth 100000 in
theorem m_X8_prepares (l : Launch) (ad : Nat → Nat) (D : va_G) (ca : Nat → ClassId) (had : adOk ad) (p1 : Int32)  (σ : St) (K : St → Prop) (hp : P_X8_prepares p1 σ K) : CtV l ad D ca yX8_prepares cX8_prepares 7 4 [.ref (ad 204), .int p1] σ K := CtV_of (av := fun ad => [.ref (ad 204), .int p1]) (plainFor_of_name (by decide)) had (Nat.le_of_ble_eq_true rfl) (fun κ C hret => by
  have C : Ok κ RX8 cX8_prepares 7 4 := C
  show GG κ 0 [(0, .ref (kad κ 204)), (1, .int p1)] [] σ
  unfold P_X8_prepares at hp
  refine x_aload_n 0 C rfl (dX8_prepares_p0 0 rfl) ?_
  refine gX8_3 (b := 206) C rfl (by decide) rfl tw_751 (dX8_prepares_p0 1 rfl) ?_
  refine x_iload_n 1 C rfl (dX8_prepares_p0 2 rfl) ?_
  obtain ⟨h1, hp⟩ := hp
  refine x_iald C rfl (by decide) h1 (dX8_prepares_p0 3 rfl) ?_
  refine x_topI (fun v2 ev2 => ?_)
  have hp := hp v2 ev2
  refine x_istore_n (loc' := [(2, .int v2), (0, .ref (kad κ 204)), (1, .int p1)]) C rfl (by decide) rfl (dX8_prepares_p0 4 rfl) ?_
  refine x_iconst (v := 0) C (by decide) (dX8_prepares_p0 5 rfl) ?_
  refine x_istore_n (loc' := [(3, .int 0), (2, .int v2), (0, .ref (kad κ 204)), (1, .int p1)]) C rfl (by decide) rfl (dX8_prepares_p0 6 rfl) ?_
  refine x_loc (loc' := [(0, .ref (kad κ 204)), (1, .int p1), (2, .int v2), (3, .int 0)]) [2, 3, 1, 0] rfl ?_
  exact LpE_GG (S := (Int32 × St)) (F := fun c s => F_X8_prepares_9 K  c p1 v2 s.1 s.2) (W := fun s => GG κ 9 [(0, .ref (kad κ 204)), (1, .int p1), (2, .int v2), (3, .int s.1)] [] s.2) (fun c s hcc hp => F_X8_prepares_9_w C hret p1 v2 s.1  s.2  (fun u3 σ h => hcc (u3, σ) h) hp) hp)
def F_X8_begins_2 (K : St → Prop) (c2 : (Int32 × St) → Prop) (u1 : Int32) (σ : St) : Prop := (7 ≤ u1 → (K σ)) ∧ (¬ (7 ≤ u1) → (vp_in u1 7 ∧ ∀ s2 : St, s2 = wI σ 219 (ix u1) 0 → ∀ v3 : Int32, v3 = u1 + 1 → c2 (v3, s2)))
set_option maxHeartbeats 4000000 in
set_option maxRecDepth 100000 in
theorem F_X8_begins_2_w {κ : Kap} {K : St → Prop} {c2 : (Int32 × St) → Prop} (C : Ok κ RX8 cX8_begins 2 0) (hret : RetV κ cX8_begins K) (u1 : Int32)   (σ : St) (hc2 : ∀ (u1 : Int32) (σ : St), c2 (u1, σ) → GG κ 2 [(0, .ref (kad κ 204)), (1, .int u1)] [] σ) (hp : F_X8_begins_2 K c2 u1 σ) : GG κ 2 [(0, .ref (kad κ 204)), (1, .int u1)] [] σ := by
  unfold F_X8_begins_2 at hp
  refine x_iload_n 1 C rfl (dX8_begins_p0 2 rfl) ?_
  refine x_bipush (v := 7) C (by decide) (dX8_begins_p0 3 rfl) ?_
  refine x_icmp_ge (tgt := 21) C (dX8_begins_p0 4 rfl) (by decide) (fun hc => ?_) (fun hc => ?_)
  · have hp := hp.1 hc
    exact hret _ _ _ (dX8_begins_p0 12 rfl) hp
  · have hp := hp.2 hc
    refine x_aload_n 0 C rfl (dX8_begins_p0 5 rfl) ?_
    refine gX8_20 (b := 219) C rfl (by decide) rfl tw_768 (dX8_begins_p0 6 rfl) ?_
    refine x_iload_n 1 C rfl (dX8_begins_p0 7 rfl) ?_
    refine x_iconst (v := 0) C (by decide) (dX8_begins_p0 8 rfl) ?_
    obtain ⟨h1, hp⟩ := hp
    refine x_iast C rfl (by decide) h1 (dX8_begins_p0 9 rfl) ?_
    refine x_nmS (fun s2 es2 => ?_)
    have hp := hp s2 es2
    obtain ⟨v3, ev3⟩ : ∃ z : Int32, z = u1 + 1 := ⟨_, rfl⟩
    have hp := hp v3 ev3
    refine x_iinc (v := v3) (loc' := [(1, .int v3), (0, .ref (kad κ 204))]) 1 C rfl (by rw [ev3]; rfl) (by decide) rfl (dX8_begins_p0 10 rfl) ?_
    refine x_goto (tgt := 2) C (dX8_begins_p0 11 rfl) (by decide) ?_
    refine x_loc (loc' := [(0, .ref (kad κ 204)), (1, .int v3)]) [1, 0] rfl ?_
    exact hc2 v3 s2 hp
def P_X8_begins  (σ : St) (K : St → Prop) : Prop := LpE (fun c s => F_X8_begins_2 K  c s.1 s.2) (0, σ)
set_option maxHeartbeats 4000000 in
set_option maxRecDepth 100000 in
theorem m_X8_begins (l : Launch) (ad : Nat → Nat) (D : va_G) (ca : Nat → ClassId) (had : adOk ad)   (σ : St) (K : St → Prop) (hp : P_X8_begins  σ K) : CtV l ad D ca yX8_begins cX8_begins 2 0 [.ref (ad 204)] σ K := CtV_of (av := fun ad => [.ref (ad 204)]) (plainFor_of_name (by decide)) had (Nat.le_of_ble_eq_true rfl) (fun κ C hret => by
  have C : Ok κ RX8 cX8_begins 2 0 := C
  show GG κ 0 [(0, .ref (kad κ 204))] [] σ
  unfold P_X8_begins at hp
  refine x_iconst (v := 0) C (by decide) (dX8_begins_p0 0 rfl) ?_
  refine x_istore_n (loc' := [(1, .int 0), (0, .ref (kad κ 204))]) C rfl (by decide) rfl (dX8_begins_p0 1 rfl) ?_
  refine x_loc (loc' := [(0, .ref (kad κ 204)), (1, .int 0)]) [1, 0] rfl ?_
  exact LpE_GG (S := (Int32 × St)) (F := fun c s => F_X8_begins_2 K  c s.1 s.2) (W := fun s => GG κ 2 [(0, .ref (kad κ 204)), (1, .int s.1)] [] s.2) (fun c s hcc hp => F_X8_begins_2_w C hret s.1  s.2  (fun u1 σ h => hcc (u1, σ) h) hp) hp)
def J_X8_isTree_58 (K : Int32 → St → Prop) (c5 : (Int32 × Int32 × St) → Prop) (u0 : Nat) (u1 : Int32) (u2 : Int32) (u3 : Int32) (u4 : Int32) (u5 : Int32) (σ : St) : Prop := (u3 = 0 → ∀ v1 : Int32, v1 = u4 + 1 → c5 (0, v1, σ)) ∧ (¬ (u3 = 0) → ((u5 = 0 → ∀ v3 : Int32, v3 = u4 + 1 → c5 (1, v3, σ)) ∧ (¬ (u5 = 0) → ∀ v2 : Int32, v2 = u4 + 1 → c5 (0, v2, σ))))
set_option maxHeartbeats 4000000 in
set_option maxRecDepth 100000 in
theorem J_X8_isTree_58_w {κ : Kap} {K : Int32 → St → Prop} {c5 : (Int32 × Int32 × St) → Prop} (C : Ok κ RX8 cX8_isTree 7 0) (hret : RetI κ cX8_isTree .boolean K) (u0 : Nat) (u1 : Int32) (u2 : Int32) (u3 : Int32) (u4 : Int32) (u5 : Int32) (hu0k : kd u0 = 10) (hu0l : u0 < NC)      (σ : St) (hc5 : ∀ (u3 : Int32) (u4 : Int32) (σ : St), c5 (u3, u4, σ) → GG κ 5 [(0, .ref (kad κ u0)), (1, .int u1), (2, .int u2), (3, .int u3), (4, .int u4)] [] σ) (hp : J_X8_isTree_58 K c5 u0 u1 u2 u3 u4 u5 σ) : GG κ 58 [(0, .ref (kad κ u0)), (1, .int u1), (2, .int u2), (3, .int u3), (4, .int u4), (5, .int u5)] [] σ := by
  unfold J_X8_isTree_58 at hp
  refine x_iload_n 3 C rfl (dX8_isTree_p0 33 rfl) ?_
  refine x_if_eq (tgt := 71) C (dX8_isTree_p0 34 rfl) (by decide) (fun hc => ?_) (fun hc => ?_)
  · have hp := hp.1 hc
    refine x_iconst (v := 0) C (by decide) (dX8_isTree_p0 39 rfl) ?_
    refine x_istore_n (loc' := [(3, .int 0), (0, .ref (kad κ u0)), (1, .int u1), (2, .int u2), (4, .int u4), (5, .int u5)]) C rfl (by decide) rfl (dX8_isTree_p0 40 rfl) ?_
    obtain ⟨v1, ev1⟩ : ∃ z : Int32, z = u4 + 1 := ⟨_, rfl⟩
    have hp := hp v1 ev1
    refine x_iinc (v := v1) (loc' := [(4, .int v1), (3, .int 0), (0, .ref (kad κ u0)), (1, .int u1), (2, .int u2), (5, .int u5)]) 4 C rfl (by rw [ev1]; rfl) (by decide) rfl (dX8_isTree_p0 41 rfl) ?_
    refine x_goto (tgt := 5) C (dX8_isTree_p0 42 rfl) (by decide) ?_
    refine x_loc (loc' := [(0, .ref (kad κ u0)), (1, .int u1), (2, .int u2), (3, .int 0), (4, .int v1)]) [2, 3, 4, 1, 0] rfl ?_
    exact hc5 0 v1 σ hp
  · have hp := hp.2 hc
    refine x_iload 5 C rfl (dX8_isTree_p0 35 rfl) ?_
    refine x_if_ne (tgt := 71) C (dX8_isTree_p0 36 rfl) (by decide) (fun hc => ?_) (fun hc => ?_)
    · have hp := hp.2 hc
      refine x_iconst (v := 0) C (by decide) (dX8_isTree_p0 39 rfl) ?_
      refine x_istore_n (loc' := [(3, .int 0), (0, .ref (kad κ u0)), (1, .int u1), (2, .int u2), (4, .int u4), (5, .int u5)]) C rfl (by decide) rfl (dX8_isTree_p0 40 rfl) ?_
      obtain ⟨v2, ev2⟩ : ∃ z : Int32, z = u4 + 1 := ⟨_, rfl⟩
      have hp := hp v2 ev2
      refine x_iinc (v := v2) (loc' := [(4, .int v2), (3, .int 0), (0, .ref (kad κ u0)), (1, .int u1), (2, .int u2), (5, .int u5)]) 4 C rfl (by rw [ev2]; rfl) (by decide) rfl (dX8_isTree_p0 41 rfl) ?_
      refine x_goto (tgt := 5) C (dX8_isTree_p0 42 rfl) (by decide) ?_
      refine x_loc (loc' := [(0, .ref (kad κ u0)), (1, .int u1), (2, .int u2), (3, .int 0), (4, .int v2)]) [2, 3, 4, 1, 0] rfl ?_
      exact hc5 0 v2 σ hp
    · have hp := hp.1 hc
      refine x_iconst (v := 1) C (by decide) (dX8_isTree_p0 37 rfl) ?_
      refine x_goto (tgt := 72) C (dX8_isTree_p0 38 rfl) (by decide) ?_
      refine x_istore_n (loc' := [(3, .int 1), (0, .ref (kad κ u0)), (1, .int u1), (2, .int u2), (4, .int u4), (5, .int u5)]) C rfl (by decide) rfl (dX8_isTree_p0 40 rfl) ?_
      obtain ⟨v3, ev3⟩ : ∃ z : Int32, z = u4 + 1 := ⟨_, rfl⟩
      have hp := hp v3 ev3
      refine x_iinc (v := v3) (loc' := [(4, .int v3), (3, .int 1), (0, .ref (kad κ u0)), (1, .int u1), (2, .int u2), (5, .int u5)]) 4 C rfl (by rw [ev3]; rfl) (by decide) rfl (dX8_isTree_p0 41 rfl) ?_
      refine x_goto (tgt := 5) C (dX8_isTree_p0 42 rfl) (by decide) ?_
      refine x_loc (loc' := [(0, .ref (kad κ u0)), (1, .int u1), (2, .int u2), (3, .int 1), (4, .int v3)]) [2, 3, 4, 1, 0] rfl ?_
      exact hc5 1 v3 σ hp
def F_X8_isTree_18 (K : Int32 → St → Prop) (c5 : (Int32 × Int32 × St) → Prop) (c18 : (Int32 × Int32 × St) → Prop) (u0 : Nat) (u1 : Int32) (u2 : Int32) (u3 : Int32) (u4 : Int32) (u5 : Int32) (u6 : Int32) (σ : St) : Prop := (u2 ≤ u6 → (J_X8_isTree_58 K c5 u0 u1 u2 u3 u4 u5 σ)) ∧ (¬ (u2 ≤ u6) → ((u5 ≤ 0 → (J_X8_isTree_58 K c5 u0 u1 u2 u3 u4 u5 σ)) ∧ (¬ (u5 ≤ 0) → (vp_in (u1 + u5) (ln u0) ∧ (((σ.1 u0 (ix (u1 + u5))) ≤ u2 → (vp_in (u1 + u5) (ln u0) ∧ (∀ v6 : Int32, v6 = (σ.1 u0 (ix (u1 + u5))) → ∀ v7 : Int32, v7 = u6 + 1 → c18 (v6, v7, σ)))) ∧ (¬ ((σ.1 u0 (ix (u1 + u5))) ≤ u2) → ∀ v8 : Int32, v8 = u6 + 1 → c18 (u5, v8, σ)))))))
set_option maxHeartbeats 4000000 in
set_option maxRecDepth 100000 in
theorem F_X8_isTree_18_w {κ : Kap} {K : Int32 → St → Prop} {c5 : (Int32 × Int32 × St) → Prop} {c18 : (Int32 × Int32 × St) → Prop} (C : Ok κ RX8 cX8_isTree 7 0) (hret : RetI κ cX8_isTree .boolean K) (u0 : Nat) (u1 : Int32) (u2 : Int32) (u3 : Int32) (u4 : Int32) (u5 : Int32) (u6 : Int32) (hu0k : kd u0 = 10) (hu0l : u0 < NC)       (σ : St) (hc5 : ∀ (u3 : Int32) (u4 : Int32) (σ : St), c5 (u3, u4, σ) → GG κ 5 [(0, .ref (kad κ u0)), (1, .int u1), (2, .int u2), (3, .int u3), (4, .int u4)] [] σ) (hc18 : ∀ (u5 : Int32) (u6 : Int32) (σ : St), c18 (u5, u6, σ) → GG κ 18 [(0, .ref (kad κ u0)), (1, .int u1), (2, .int u2), (3, .int u3), (4, .int u4), (5, .int u5), (6, .int u6)] [] σ) (hp : F_X8_isTree_18 K c5 c18 u0 u1 u2 u3 u4 u5 u6 σ) : GG κ 18 [(0, .ref (kad κ u0)), (1, .int u1), (2, .int u2), (3, .int u3), (4, .int u4), (5, .int u5), (6, .int u6)] [] σ := by
  unfold F_X8_isTree_18 at hp
  refine x_iload 6 C rfl (dX8_isTree_p0 11 rfl) ?_
  refine x_iload_n 2 C rfl (dX8_isTree_p0 12 rfl) ?_
  refine x_icmp_ge (tgt := 58) C (dX8_isTree_p0 13 rfl) (by decide) (fun hc => ?_) (fun hc => ?_)
  · have hp := hp.1 hc
    refine x_loc (loc' := [(0, .ref (kad κ u0)), (1, .int u1), (2, .int u2), (3, .int u3), (4, .int u4), (5, .int u5)]) [0, 1, 2, 3, 4, 5] rfl ?_
    exact J_X8_isTree_58_w C hret u0 u1 u2 u3 u4 u5 hu0k hu0l σ hc5 hp
  · have hp := hp.2 hc
    refine x_iload 5 C rfl (dX8_isTree_p0 14 rfl) ?_
    refine x_if_le (tgt := 58) C (dX8_isTree_p0 15 rfl) (by decide) (fun hc => ?_) (fun hc => ?_)
    · have hp := hp.1 hc
      refine x_loc (loc' := [(0, .ref (kad κ u0)), (1, .int u1), (2, .int u2), (3, .int u3), (4, .int u4), (5, .int u5)]) [0, 1, 2, 3, 4, 5] rfl ?_
      exact J_X8_isTree_58_w C hret u0 u1 u2 u3 u4 u5 hu0k hu0l σ hc5 hp
    · have hp := hp.2 hc
      refine x_aload_n 0 C rfl (dX8_isTree_p0 16 rfl) ?_
      refine x_iload_n 1 C rfl (dX8_isTree_p0 17 rfl) ?_
      refine x_iload 5 C rfl (dX8_isTree_p0 18 rfl) ?_
      refine x_iadd C (dX8_isTree_p0 19 rfl) ?_
      obtain ⟨h4, hp⟩ := hp
      refine x_iald C hu0k hu0l h4 (dX8_isTree_p0 20 rfl) ?_
      refine x_iload_n 2 C rfl (dX8_isTree_p0 21 rfl) ?_
      refine x_icmp_le (tgt := 44) C (dX8_isTree_p0 22 rfl) (by decide) (fun hc => ?_) (fun hc => ?_)
      · have hp := hp.1 hc
        refine x_aload_n 0 C rfl (dX8_isTree_p0 25 rfl) ?_
        refine x_iload_n 1 C rfl (dX8_isTree_p0 26 rfl) ?_
        refine x_iload 5 C rfl (dX8_isTree_p0 27 rfl) ?_
        refine x_iadd C (dX8_isTree_p0 28 rfl) ?_
        obtain ⟨h5, hp⟩ := hp
        refine x_iald C hu0k hu0l h5 (dX8_isTree_p0 29 rfl) ?_
        refine x_topI (fun v6 ev6 => ?_)
        have hp := hp v6 ev6
        refine x_istore (loc' := [(5, .int v6), (0, .ref (kad κ u0)), (1, .int u1), (2, .int u2), (3, .int u3), (4, .int u4), (6, .int u6)]) C (by decide) rfl (dX8_isTree_p0 30 rfl) ?_
        obtain ⟨v7, ev7⟩ : ∃ z : Int32, z = u6 + 1 := ⟨_, rfl⟩
        have hp := hp v7 ev7
        refine x_iinc (v := v7) (loc' := [(6, .int v7), (5, .int v6), (0, .ref (kad κ u0)), (1, .int u1), (2, .int u2), (3, .int u3), (4, .int u4)]) 6 C rfl (by rw [ev7]; rfl) (by decide) rfl (dX8_isTree_p0 31 rfl) ?_
        refine x_goto (tgt := 18) C (dX8_isTree_p0 32 rfl) (by decide) ?_
        refine x_loc (loc' := [(0, .ref (kad κ u0)), (1, .int u1), (2, .int u2), (3, .int u3), (4, .int u4), (5, .int v6), (6, .int v7)]) [2, 3, 4, 5, 6, 1, 0] rfl ?_
        exact hc18 v6 v7 σ hp
      · have hp := hp.2 hc
        refine x_iload 5 C rfl (dX8_isTree_p0 23 rfl) ?_
        refine x_goto (tgt := 50) C (dX8_isTree_p0 24 rfl) (by decide) ?_
        refine x_istore (loc' := [(5, .int u5), (0, .ref (kad κ u0)), (1, .int u1), (2, .int u2), (3, .int u3), (4, .int u4), (6, .int u6)]) C (by decide) rfl (dX8_isTree_p0 30 rfl) ?_
        obtain ⟨v8, ev8⟩ : ∃ z : Int32, z = u6 + 1 := ⟨_, rfl⟩
        have hp := hp v8 ev8
        refine x_iinc (v := v8) (loc' := [(6, .int v8), (5, .int u5), (0, .ref (kad κ u0)), (1, .int u1), (2, .int u2), (3, .int u3), (4, .int u4)]) 6 C rfl (by rw [ev8]; rfl) (by decide) rfl (dX8_isTree_p0 31 rfl) ?_
        refine x_goto (tgt := 18) C (dX8_isTree_p0 32 rfl) (by decide) ?_
        refine x_loc (loc' := [(0, .ref (kad κ u0)), (1, .int u1), (2, .int u2), (3, .int u3), (4, .int u4), (5, .int u5), (6, .int v8)]) [2, 3, 4, 5, 6, 1, 0] rfl ?_
        exact hc18 u5 v8 σ hp
def F_X8_isTree_5 (K : Int32 → St → Prop) (c5 : (Int32 × Int32 × St) → Prop) (u0 : Nat) (u1 : Int32) (u2 : Int32) (u3 : Int32) (u4 : Int32) (σ : St) : Prop := (u2 < u4 → (isB u3 ∧ K u3 σ)) ∧ (¬ (u2 < u4) → (LpE (fun c s => F_X8_isTree_18 K c5 c u0 u1 u2 u3 u4 s.1 s.2.1 s.2.2) (u4, 0, σ)))
set_option maxHeartbeats 4000000 in
set_option maxRecDepth 100000 in
theorem F_X8_isTree_5_w {κ : Kap} {K : Int32 → St → Prop} {c5 : (Int32 × Int32 × St) → Prop} (C : Ok κ RX8 cX8_isTree 7 0) (hret : RetI κ cX8_isTree .boolean K) (u0 : Nat) (u1 : Int32) (u2 : Int32) (u3 : Int32) (u4 : Int32) (hu0k : kd u0 = 10) (hu0l : u0 < NC)     (σ : St) (hc5 : ∀ (u3 : Int32) (u4 : Int32) (σ : St), c5 (u3, u4, σ) → GG κ 5 [(0, .ref (kad κ u0)), (1, .int u1), (2, .int u2), (3, .int u3), (4, .int u4)] [] σ) (hp : F_X8_isTree_5 K c5 u0 u1 u2 u3 u4 σ) : GG κ 5 [(0, .ref (kad κ u0)), (1, .int u1), (2, .int u2), (3, .int u3), (4, .int u4)] [] σ := by
  unfold F_X8_isTree_5 at hp
  refine x_iload 4 C rfl (dX8_isTree_p0 4 rfl) ?_
  refine x_iload_n 2 C rfl (dX8_isTree_p0 5 rfl) ?_
  refine x_icmp_gt (tgt := 79) C (dX8_isTree_p0 6 rfl) (by decide) (fun hc => ?_) (fun hc => ?_)
  · have hp := hp.1 hc
    refine x_iload_n 3 C rfl (dX8_isTree_p0 43 rfl) ?_
    exact hret _ _ _ _ (dX8_isTree_p0 44 rfl) (nar_z hp.1) hp.2
  · have hp := hp.2 hc
    refine x_iload 4 C rfl (dX8_isTree_p0 7 rfl) ?_
    refine x_istore (loc' := [(5, .int u4), (0, .ref (kad κ u0)), (1, .int u1), (2, .int u2), (3, .int u3), (4, .int u4)]) C (by decide) rfl (dX8_isTree_p0 8 rfl) ?_
    refine x_iconst (v := 0) C (by decide) (dX8_isTree_p0 9 rfl) ?_
    refine x_istore (loc' := [(6, .int 0), (5, .int u4), (0, .ref (kad κ u0)), (1, .int u1), (2, .int u2), (3, .int u3), (4, .int u4)]) C (by decide) rfl (dX8_isTree_p0 10 rfl) ?_
    refine x_loc (loc' := [(0, .ref (kad κ u0)), (1, .int u1), (2, .int u2), (3, .int u3), (4, .int u4), (5, .int u4), (6, .int 0)]) [2, 3, 4, 5, 6, 1, 0] rfl ?_
    exact LpE_GG (S := (Int32 × Int32 × St)) (F := fun c s => F_X8_isTree_18 K c5 c u0 u1 u2 u3 u4 s.1 s.2.1 s.2.2) (W := fun s => GG κ 18 [(0, .ref (kad κ u0)), (1, .int u1), (2, .int u2), (3, .int u3), (4, .int u4), (5, .int s.1), (6, .int s.2.1)] [] s.2.2) (fun c s hcc hp => F_X8_isTree_18_w C hret u0 u1 u2 u3 u4 s.1 s.2.1 hu0k hu0l s.2.2 hc5 (fun u5 u6 σ h => hcc (u5, u6, σ) h) hp) hp
def P_X8_isTree (p0 : Nat) (p1 : Int32) (p2 : Int32) (σ : St) (K : Int32 → St → Prop) : Prop := LpE (fun c s => F_X8_isTree_5 K  c p0 p1 p2 s.1 s.2.1 s.2.2) (1, 1, σ)
set_option maxHeartbeats 4000000 in
set_option maxRecDepth 100000 in
theorem m_X8_isTree (l : Launch) (ad : Nat → Nat) (D : va_G) (ca : Nat → ClassId) (had : adOk ad) (p0 : Nat) (p1 : Int32) (p2 : Int32) (hp0k : kd p0 = 10) (hp0l : p0 < NC) (σ : St) (K : Int32 → St → Prop) (hp : P_X8_isTree p0 p1 p2 σ K) : CtI l ad D ca yX8_isTree cX8_isTree 7 .boolean 0 [.ref (ad p0), .int p1, .int p2] σ K := CtI_of (av := fun ad => [.ref (ad p0), .int p1, .int p2]) (plainFor_of_name (by decide)) had (Nat.le_of_ble_eq_true rfl) (fun κ C hret => by
  have C : Ok κ RX8 cX8_isTree 7 0 := C
  show GG κ 0 [(0, .ref (kad κ p0)), (1, .int p1), (2, .int p2)] [] σ
  unfold P_X8_isTree at hp
  refine x_iconst (v := 1) C (by decide) (dX8_isTree_p0 0 rfl) ?_
  refine x_istore_n (loc' := [(3, .int 1), (0, .ref (kad κ p0)), (1, .int p1), (2, .int p2)]) C rfl (by decide) rfl (dX8_isTree_p0 1 rfl) ?_
  refine x_iconst (v := 1) C (by decide) (dX8_isTree_p0 2 rfl) ?_
  refine x_istore (loc' := [(4, .int 1), (3, .int 1), (0, .ref (kad κ p0)), (1, .int p1), (2, .int p2)]) C (by decide) rfl (dX8_isTree_p0 3 rfl) ?_
  refine x_loc (loc' := [(0, .ref (kad κ p0)), (1, .int p1), (2, .int p2), (3, .int 1), (4, .int 1)]) [2, 3, 4, 1, 0] rfl ?_
  exact LpE_GG (S := (Int32 × Int32 × St)) (F := fun c s => F_X8_isTree_5 K  c p0 p1 p2 s.1 s.2.1 s.2.2) (W := fun s => GG κ 5 [(0, .ref (kad κ p0)), (1, .int p1), (2, .int p2), (3, .int s.1), (4, .int s.2.1)] [] s.2.2) (fun c s hcc hp => F_X8_isTree_5_w C hret p0 p1 p2 s.1 s.2.1 hp0k hp0l s.2.2  (fun u3 u4 σ h => hcc (u3, u4, σ) h) hp) hp)
def J_X8_crosses_69 (K : Int32 → St → Prop)  (u4 : Int32) (u5 : Int32) (u6 : Int32) (u7 : Int32) (σ : St) : Prop := (u4 ≤ u6 → (K 0 σ)) ∧ (¬ (u4 ≤ u6) → ((u7 ≤ u4 → (K 0 σ)) ∧ (¬ (u7 ≤ u4) → ((u5 ≤ u7 → (K 0 σ)) ∧ (¬ (u5 ≤ u7) → (K 1 σ))))))
set_option maxHeartbeats 4000000 in
set_option maxRecDepth 100000 in
theorem J_X8_crosses_69_w {κ : Kap} {K : Int32 → St → Prop}  (C : Ok κ RX8 cX8_crosses 8 0) (hret : RetI κ cX8_crosses .boolean K) (u4 : Int32) (u5 : Int32) (u6 : Int32) (u7 : Int32)     (σ : St)  (hp : J_X8_crosses_69 K  u4 u5 u6 u7 σ) : GG κ 69 [(4, .int u4), (5, .int u5), (6, .int u6), (7, .int u7)] [] σ := by
  unfold J_X8_crosses_69 at hp
  refine x_iload 2 C rfl (dX8_crosses_p0 37 rfl) ?_
  refine x_iload 0 C rfl (dX8_crosses_p0 38 rfl) ?_
  refine x_icmp_ge (tgt := 94) C (dX8_crosses_p0 39 rfl) (by decide) (fun hc => ?_) (fun hc => ?_)
  · have hp := hp.1 hc
    refine x_iconst (v := 0) C (by decide) (dX8_crosses_p0 48 rfl) ?_
    exact hret _ _ _ _ (dX8_crosses_p0 49 rfl) (nar_z isB0) hp
  · have hp := hp.2 hc
    refine x_iload 0 C rfl (dX8_crosses_p0 40 rfl) ?_
    refine x_iload 3 C rfl (dX8_crosses_p0 41 rfl) ?_
    refine x_icmp_ge (tgt := 94) C (dX8_crosses_p0 42 rfl) (by decide) (fun hc => ?_) (fun hc => ?_)
    · have hp := hp.1 hc
      refine x_iconst (v := 0) C (by decide) (dX8_crosses_p0 48 rfl) ?_
      exact hret _ _ _ _ (dX8_crosses_p0 49 rfl) (nar_z isB0) hp
    · have hp := hp.2 hc
      refine x_iload 3 C rfl (dX8_crosses_p0 43 rfl) ?_
      refine x_iload 1 C rfl (dX8_crosses_p0 44 rfl) ?_
      refine x_icmp_ge (tgt := 94) C (dX8_crosses_p0 45 rfl) (by decide) (fun hc => ?_) (fun hc => ?_)
      · have hp := hp.1 hc
        refine x_iconst (v := 0) C (by decide) (dX8_crosses_p0 48 rfl) ?_
        exact hret _ _ _ _ (dX8_crosses_p0 49 rfl) (nar_z isB0) hp
      · have hp := hp.2 hc
        refine x_iconst (v := 1) C (by decide) (dX8_crosses_p0 46 rfl) ?_
        refine x_goto (tgt := 95) C (dX8_crosses_p0 47 rfl) (by decide) ?_
        exact hret _ _ _ _ (dX8_crosses_p0 49 rfl) (nar_z isB1) hp
def J_X8_crosses_46 (K : Int32 → St → Prop)  (u4 : Int32) (u5 : Int32) (u6 : Int32) (t0 : Int32) (σ : St) : Prop := (u6 ≤ u4 → (J_X8_crosses_69 K  u4 u5 u6 t0 σ)) ∧ (¬ (u6 ≤ u4) → ((u5 ≤ u6 → (J_X8_crosses_69 K  u4 u5 u6 t0 σ)) ∧ (¬ (u5 ≤ u6) → ((u5 < t0 → (K 1 σ)) ∧ (¬ (u5 < t0) → (J_X8_crosses_69 K  u4 u5 u6 t0 σ))))))
set_option maxHeartbeats 4000000 in
set_option maxRecDepth 100000 in
theorem J_X8_crosses_46_w {κ : Kap} {K : Int32 → St → Prop}  (C : Ok κ RX8 cX8_crosses 8 0) (hret : RetI κ cX8_crosses .boolean K) (u4 : Int32) (u5 : Int32) (u6 : Int32) (t0 : Int32)     (σ : St)  (hp : J_X8_crosses_46 K  u4 u5 u6 t0 σ) : GG κ 46 [(4, .int u4), (5, .int u5), (6, .int u6)] [.int t0] σ := by
  unfold J_X8_crosses_46 at hp
  refine x_istore (loc' := [(7, .int t0), (4, .int u4), (5, .int u5), (6, .int u6)]) C (by decide) rfl (dX8_crosses_p0 27 rfl) ?_
  refine x_iload 1 C rfl (dX8_crosses_p0 28 rfl) ?_
  refine x_iload 3 C rfl (dX8_crosses_p0 29 rfl) ?_
  refine x_icmp_ge (tgt := 69) C (dX8_crosses_p0 30 rfl) (by decide) (fun hc => ?_) (fun hc => ?_)
  · have hp := hp.1 hc
    refine x_loc (loc' := [(4, .int u4), (5, .int u5), (6, .int u6), (7, .int t0)]) [1, 2, 3, 0] rfl ?_
    exact J_X8_crosses_69_w C hret u4 u5 u6 t0  σ  hp
  · have hp := hp.2 hc
    refine x_iload 3 C rfl (dX8_crosses_p0 31 rfl) ?_
    refine x_iload 2 C rfl (dX8_crosses_p0 32 rfl) ?_
    refine x_icmp_ge (tgt := 69) C (dX8_crosses_p0 33 rfl) (by decide) (fun hc => ?_) (fun hc => ?_)
    · have hp := hp.1 hc
      refine x_loc (loc' := [(4, .int u4), (5, .int u5), (6, .int u6), (7, .int t0)]) [1, 2, 3, 0] rfl ?_
      exact J_X8_crosses_69_w C hret u4 u5 u6 t0  σ  hp
    · have hp := hp.2 hc
      refine x_iload 2 C rfl (dX8_crosses_p0 34 rfl) ?_
      refine x_iload 0 C rfl (dX8_crosses_p0 35 rfl) ?_
      refine x_icmp_lt (tgt := 90) C (dX8_crosses_p0 36 rfl) (by decide) (fun hc => ?_) (fun hc => ?_)
      · have hp := hp.1 hc
        refine x_iconst (v := 1) C (by decide) (dX8_crosses_p0 46 rfl) ?_
        refine x_goto (tgt := 95) C (dX8_crosses_p0 47 rfl) (by decide) ?_
        exact hret _ _ _ _ (dX8_crosses_p0 49 rfl) (nar_z isB1) hp
      · have hp := hp.2 hc
        refine x_loc (loc' := [(4, .int u4), (5, .int u5), (6, .int u6), (7, .int t0)]) [1, 2, 3, 0] rfl ?_
        exact J_X8_crosses_69_w C hret u4 u5 u6 t0  σ  hp
def J_X8_crosses_34 (K : Int32 → St → Prop)  (u2 : Int32) (u3 : Int32) (u4 : Int32) (u5 : Int32) (t0 : Int32) (σ : St) : Prop := (u3 ≤ u2 → (J_X8_crosses_46 K  u4 u5 t0 u2 σ)) ∧ (¬ (u3 ≤ u2) → (J_X8_crosses_46 K  u4 u5 t0 u3 σ))
set_option maxHeartbeats 4000000 in
set_option maxRecDepth 100000 in
theorem J_X8_crosses_34_w {κ : Kap} {K : Int32 → St → Prop}  (C : Ok κ RX8 cX8_crosses 8 0) (hret : RetI κ cX8_crosses .boolean K) (u2 : Int32) (u3 : Int32) (u4 : Int32) (u5 : Int32) (t0 : Int32)      (σ : St)  (hp : J_X8_crosses_34 K  u2 u3 u4 u5 t0 σ) : GG κ 34 [(2, .int u2), (3, .int u3), (4, .int u4), (5, .int u5)] [.int t0] σ := by
  unfold J_X8_crosses_34 at hp
  refine x_istore (loc' := [(6, .int t0), (2, .int u2), (3, .int u3), (4, .int u4), (5, .int u5)]) C (by decide) rfl (dX8_crosses_p0 20 rfl) ?_
  refine x_iload_n 1 C rfl (dX8_crosses_p0 21 rfl) ?_
  refine x_iload_n 2 C rfl (dX8_crosses_p0 22 rfl) ?_
  refine x_icmp_ge (tgt := 45) C (dX8_crosses_p0 23 rfl) (by decide) (fun hc => ?_) (fun hc => ?_)
  · have hp := hp.1 hc
    refine x_iload_n 1 C rfl (dX8_crosses_p0 26 rfl) ?_
    refine x_loc (loc' := [(4, .int u4), (5, .int u5), (6, .int t0)]) [3, 4, 0] rfl ?_
    exact J_X8_crosses_46_w C hret u4 u5 t0 u2  σ  hp
  · have hp := hp.2 hc
    refine x_iload_n 2 C rfl (dX8_crosses_p0 24 rfl) ?_
    refine x_goto (tgt := 46) C (dX8_crosses_p0 25 rfl) (by decide) ?_
    refine x_loc (loc' := [(4, .int u4), (5, .int u5), (6, .int t0)]) [3, 4, 0] rfl ?_
    exact J_X8_crosses_46_w C hret u4 u5 t0 u3  σ  hp
def J_X8_crosses_22 (K : Int32 → St → Prop)  (u2 : Int32) (u3 : Int32) (u4 : Int32) (t0 : Int32) (σ : St) : Prop := (u3 ≤ u2 → (J_X8_crosses_34 K  u2 u3 u4 t0 u3 σ)) ∧ (¬ (u3 ≤ u2) → (J_X8_crosses_34 K  u2 u3 u4 t0 u2 σ))
set_option maxHeartbeats 4000000 in
set_option maxRecDepth 100000 in
theorem J_X8_crosses_22_w {κ : Kap} {K : Int32 → St → Prop}  (C : Ok κ RX8 cX8_crosses 8 0) (hret : RetI κ cX8_crosses .boolean K) (u2 : Int32) (u3 : Int32) (u4 : Int32) (t0 : Int32)     (σ : St)  (hp : J_X8_crosses_22 K  u2 u3 u4 t0 σ) : GG κ 22 [(2, .int u2), (3, .int u3), (4, .int u4)] [.int t0] σ := by
  unfold J_X8_crosses_22 at hp
  refine x_istore (loc' := [(5, .int t0), (2, .int u2), (3, .int u3), (4, .int u4)]) C (by decide) rfl (dX8_crosses_p0 13 rfl) ?_
  refine x_iload_n 1 C rfl (dX8_crosses_p0 14 rfl) ?_
  refine x_iload_n 2 C rfl (dX8_crosses_p0 15 rfl) ?_
  refine x_icmp_ge (tgt := 33) C (dX8_crosses_p0 16 rfl) (by decide) (fun hc => ?_) (fun hc => ?_)
  · have hp := hp.1 hc
    refine x_iload_n 2 C rfl (dX8_crosses_p0 19 rfl) ?_
    refine x_loc (loc' := [(2, .int u2), (3, .int u3), (4, .int u4), (5, .int t0)]) [1, 2, 3, 0] rfl ?_
    exact J_X8_crosses_34_w C hret u2 u3 u4 t0 u3  σ  hp
  · have hp := hp.2 hc
    refine x_iload_n 1 C rfl (dX8_crosses_p0 17 rfl) ?_
    refine x_goto (tgt := 34) C (dX8_crosses_p0 18 rfl) (by decide) ?_
    refine x_loc (loc' := [(2, .int u2), (3, .int u3), (4, .int u4), (5, .int t0)]) [1, 2, 3, 0] rfl ?_
    exact J_X8_crosses_34_w C hret u2 u3 u4 t0 u2  σ  hp
def J_X8_crosses_10 (K : Int32 → St → Prop)  (u0 : Int32) (u1 : Int32) (u2 : Int32) (u3 : Int32) (t0 : Int32) (σ : St) : Prop := (u1 ≤ u0 → (J_X8_crosses_22 K  u2 u3 t0 u0 σ)) ∧ (¬ (u1 ≤ u0) → (J_X8_crosses_22 K  u2 u3 t0 u1 σ))
set_option maxHeartbeats 4000000 in
set_option maxRecDepth 100000 in
theorem J_X8_crosses_10_w {κ : Kap} {K : Int32 → St → Prop}  (C : Ok κ RX8 cX8_crosses 8 0) (hret : RetI κ cX8_crosses .boolean K) (u0 : Int32) (u1 : Int32) (u2 : Int32) (u3 : Int32) (t0 : Int32)      (σ : St)  (hp : J_X8_crosses_10 K  u0 u1 u2 u3 t0 σ) : GG κ 10 [(0, .int u0), (1, .int u1), (2, .int u2), (3, .int u3)] [.int t0] σ := by
  unfold J_X8_crosses_10 at hp
  refine x_istore (loc' := [(4, .int t0), (0, .int u0), (1, .int u1), (2, .int u2), (3, .int u3)]) C (by decide) rfl (dX8_crosses_p0 6 rfl) ?_
  refine x_iload_n 1 C rfl (dX8_crosses_p0 7 rfl) ?_
  refine x_iload_n 2 C rfl (dX8_crosses_p0 8 rfl) ?_
  refine x_icmp_ge (tgt := 21) C (dX8_crosses_p0 9 rfl) (by decide) (fun hc => ?_) (fun hc => ?_)
  · have hp := hp.1 hc
    refine x_iload_n 1 C rfl (dX8_crosses_p0 12 rfl) ?_
    refine x_loc (loc' := [(2, .int u2), (3, .int u3), (4, .int t0)]) [3, 4, 0] rfl ?_
    exact J_X8_crosses_22_w C hret u2 u3 t0 u0  σ  hp
  · have hp := hp.2 hc
    refine x_iload_n 2 C rfl (dX8_crosses_p0 10 rfl) ?_
    refine x_goto (tgt := 22) C (dX8_crosses_p0 11 rfl) (by decide) ?_
    refine x_loc (loc' := [(2, .int u2), (3, .int u3), (4, .int t0)]) [3, 4, 0] rfl ?_
    exact J_X8_crosses_22_w C hret u2 u3 t0 u1  σ  hp
def P_X8_crosses (p0 : Int32) (p1 : Int32) (p2 : Int32) (p3 : Int32) (σ : St) (K : Int32 → St → Prop) : Prop := (p1 ≤ p0 → (J_X8_crosses_10 K  p0 p1 p2 p3 p1 σ)) ∧ (¬ (p1 ≤ p0) → (J_X8_crosses_10 K  p0 p1 p2 p3 p0 σ))
set_option maxHeartbeats 4000000 in
set_option maxRecDepth 100000 in
theorem m_X8_crosses (l : Launch) (ad : Nat → Nat) (D : va_G) (ca : Nat → ClassId) (had : adOk ad) (p0 : Int32) (p1 : Int32) (p2 : Int32) (p3 : Int32)  (σ : St) (K : Int32 → St → Prop) (hp : P_X8_crosses p0 p1 p2 p3 σ K) : CtI l ad D ca yX8_crosses cX8_crosses 8 .boolean 0 [.int p0, .int p1, .int p2, .int p3] σ K := CtI_of (av := fun ad => [.int p0, .int p1, .int p2, .int p3]) (plainFor_of_name (by decide)) had (Nat.le_of_ble_eq_true rfl) (fun κ C hret => by
  have C : Ok κ RX8 cX8_crosses 8 0 := C
  show GG κ 0 [(0, .int p0), (1, .int p1), (2, .int p2), (3, .int p3)] [] σ
  unfold P_X8_crosses at hp
  refine x_iload_n 0 C rfl (dX8_crosses_p0 0 rfl) ?_
  refine x_iload_n 1 C rfl (dX8_crosses_p0 1 rfl) ?_
  refine x_icmp_ge (tgt := 9) C (dX8_crosses_p0 2 rfl) (by decide) (fun hc => ?_) (fun hc => ?_)
  · have hp := hp.1 hc
    refine x_iload_n 1 C rfl (dX8_crosses_p0 5 rfl) ?_
    exact J_X8_crosses_10_w C hret p0 p1 p2 p3 p1  σ  hp
  · have hp := hp.2 hc
    refine x_iload_n 0 C rfl (dX8_crosses_p0 3 rfl) ?_
    refine x_goto (tgt := 10) C (dX8_crosses_p0 4 rfl) (by decide) ?_
    exact J_X8_crosses_10_w C hret p0 p1 p2 p3 p0  σ  hp)
def F_X8_crossed_14 (K : Int32 → St → Prop) (c5 : (Int32 × Int32 × St) → Prop) (c14 : (Int32 × Int32 × St) → Prop) (u0 : Nat) (u1 : Int32) (u2 : Int32) (u3 : Int32) (u4 : Int32) (u5 : Int32) (σ : St) : Prop := (u4 ≤ u5 → ∀ v1 : Int32, v1 = u4 + 1 → c5 (u3, v1, σ)) ∧ (¬ (u4 ≤ u5) → (vp_in (u1 + u5) (ln u0) ∧ (vp_in (u1 + u4) (ln u0) ∧ (P_X8_crosses (σ.1 u0 (ix (u1 + u5))) u5 (σ.1 u0 (ix (u1 + u4))) u4 σ (fun r5 s4 => (r5 = 0 → (∀ v6 : Int32, v6 = (u3 + 0) → ∀ v7 : Int32, v7 = u5 + 1 → c14 (v6, v7, s4))) ∧ (¬ (r5 = 0) → (∀ v8 : Int32, v8 = (u3 + 1) → ∀ v9 : Int32, v9 = u5 + 1 → c14 (v8, v9, s4))))))))
set_option maxHeartbeats 4000000 in
set_option maxRecDepth 100000 in
theorem F_X8_crossed_14_w {κ : Kap} {K : Int32 → St → Prop} {c5 : (Int32 × Int32 × St) → Prop} {c14 : (Int32 × Int32 × St) → Prop} (C : Ok κ RX8 cX8_crossed 6 1) (hret : RetI κ cX8_crossed .int K) (u0 : Nat) (u1 : Int32) (u2 : Int32) (u3 : Int32) (u4 : Int32) (u5 : Int32) (hu0k : kd u0 = 10) (hu0l : u0 < NC)      (σ : St) (hc5 : ∀ (u3 : Int32) (u4 : Int32) (σ : St), c5 (u3, u4, σ) → GG κ 5 [(0, .ref (kad κ u0)), (1, .int u1), (2, .int u2), (3, .int u3), (4, .int u4)] [] σ) (hc14 : ∀ (u3 : Int32) (u5 : Int32) (σ : St), c14 (u3, u5, σ) → GG κ 14 [(0, .ref (kad κ u0)), (1, .int u1), (2, .int u2), (3, .int u3), (4, .int u4), (5, .int u5)] [] σ) (hp : F_X8_crossed_14 K c5 c14 u0 u1 u2 u3 u4 u5 σ) : GG κ 14 [(0, .ref (kad κ u0)), (1, .int u1), (2, .int u2), (3, .int u3), (4, .int u4), (5, .int u5)] [] σ := by
  unfold F_X8_crossed_14 at hp
  refine x_iload 5 C rfl (dX8_crossed_p0 9 rfl) ?_
  refine x_iload 4 C rfl (dX8_crossed_p0 10 rfl) ?_
  refine x_icmp_ge (tgt := 57) C (dX8_crossed_p0 11 rfl) (by decide) (fun hc => ?_) (fun hc => ?_)
  · have hp := hp.1 hc
    obtain ⟨v1, ev1⟩ : ∃ z : Int32, z = u4 + 1 := ⟨_, rfl⟩
    have hp := hp v1 ev1
    refine x_iinc (v := v1) (loc' := [(4, .int v1), (0, .ref (kad κ u0)), (1, .int u1), (2, .int u2), (3, .int u3), (5, .int u5)]) 4 C rfl (by rw [ev1]; rfl) (by decide) rfl (dX8_crossed_p0 34 rfl) ?_
    refine x_goto (tgt := 5) C (dX8_crossed_p0 35 rfl) (by decide) ?_
    refine x_loc (loc' := [(0, .ref (kad κ u0)), (1, .int u1), (2, .int u2), (3, .int u3), (4, .int v1)]) [1, 2, 3, 4, 0] rfl ?_
    exact hc5 u3 v1 σ hp
  · have hp := hp.2 hc
    refine x_iload_n 3 C rfl (dX8_crossed_p0 12 rfl) ?_
    refine x_aload_n 0 C rfl (dX8_crossed_p0 13 rfl) ?_
    refine x_iload_n 1 C rfl (dX8_crossed_p0 14 rfl) ?_
    refine x_iload 5 C rfl (dX8_crossed_p0 15 rfl) ?_
    refine x_iadd C (dX8_crossed_p0 16 rfl) ?_
    obtain ⟨h2, hp⟩ := hp
    refine x_iald C hu0k hu0l h2 (dX8_crossed_p0 17 rfl) ?_
    refine x_iload 5 C rfl (dX8_crossed_p0 18 rfl) ?_
    refine x_aload_n 0 C rfl (dX8_crossed_p0 19 rfl) ?_
    refine x_iload_n 1 C rfl (dX8_crossed_p0 20 rfl) ?_
    refine x_iload 4 C rfl (dX8_crossed_p0 21 rfl) ?_
    refine x_iadd C (dX8_crossed_p0 22 rfl) ?_
    obtain ⟨h3, hp⟩ := hp
    refine x_iald C hu0k hu0l h3 (dX8_crossed_p0 23 rfl) ?_
    refine x_iload 4 C rfl (dX8_crossed_p0 24 rfl) ?_
    refine x_csI (As := [.int (σ.1 u0 (ix (u1 + u5))), .int u5, .int (σ.1 u0 (ix (u1 + u4))), .int u4]) (st := [.int u3]) C LRX8_189 (m_X8_crosses (kL κ) (kad κ) (kD κ) (kca κ) C.ado (σ.1 u0 (ix (u1 + u5))) u5 (σ.1 u0 (ix (u1 + u4))) u4  σ _ hp) rfl (by decide) rfl (Nat.le_of_ble_eq_true rfl) (dX8_crossed_p0 25 rfl) (fun r5 s4 hp => ?_)
    refine x_if_eq (tgt := 48) C (dX8_crossed_p0 26 rfl) (by decide) (fun hc => ?_) (fun hc => ?_)
    · have hp := hp.1 hc
      refine x_iconst (v := 0) C (by decide) (dX8_crossed_p0 29 rfl) ?_
      refine x_iadd C (dX8_crossed_p0 30 rfl) ?_
      refine x_topI (fun v6 ev6 => ?_)
      have hp := hp v6 ev6
      refine x_istore_n (loc' := [(3, .int v6), (0, .ref (kad κ u0)), (1, .int u1), (2, .int u2), (4, .int u4), (5, .int u5)]) C rfl (by decide) rfl (dX8_crossed_p0 31 rfl) ?_
      obtain ⟨v7, ev7⟩ : ∃ z : Int32, z = u5 + 1 := ⟨_, rfl⟩
      have hp := hp v7 ev7
      refine x_iinc (v := v7) (loc' := [(5, .int v7), (3, .int v6), (0, .ref (kad κ u0)), (1, .int u1), (2, .int u2), (4, .int u4)]) 5 C rfl (by rw [ev7]; rfl) (by decide) rfl (dX8_crossed_p0 32 rfl) ?_
      refine x_goto (tgt := 14) C (dX8_crossed_p0 33 rfl) (by decide) ?_
      refine x_loc (loc' := [(0, .ref (kad κ u0)), (1, .int u1), (2, .int u2), (3, .int v6), (4, .int u4), (5, .int v7)]) [2, 3, 4, 1, 5, 0] rfl ?_
      exact hc14 v6 v7 s4 hp
    · have hp := hp.2 hc
      refine x_iconst (v := 1) C (by decide) (dX8_crossed_p0 27 rfl) ?_
      refine x_goto (tgt := 49) C (dX8_crossed_p0 28 rfl) (by decide) ?_
      refine x_iadd C (dX8_crossed_p0 30 rfl) ?_
      refine x_topI (fun v8 ev8 => ?_)
      have hp := hp v8 ev8
      refine x_istore_n (loc' := [(3, .int v8), (0, .ref (kad κ u0)), (1, .int u1), (2, .int u2), (4, .int u4), (5, .int u5)]) C rfl (by decide) rfl (dX8_crossed_p0 31 rfl) ?_
      obtain ⟨v9, ev9⟩ : ∃ z : Int32, z = u5 + 1 := ⟨_, rfl⟩
      have hp := hp v9 ev9
      refine x_iinc (v := v9) (loc' := [(5, .int v9), (3, .int v8), (0, .ref (kad κ u0)), (1, .int u1), (2, .int u2), (4, .int u4)]) 5 C rfl (by rw [ev9]; rfl) (by decide) rfl (dX8_crossed_p0 32 rfl) ?_
      refine x_goto (tgt := 14) C (dX8_crossed_p0 33 rfl) (by decide) ?_
      refine x_loc (loc' := [(0, .ref (kad κ u0)), (1, .int u1), (2, .int u2), (3, .int v8), (4, .int u4), (5, .int v9)]) [2, 3, 4, 1, 5, 0] rfl ?_
      exact hc14 v8 v9 s4 hp
def F_X8_crossed_5 (K : Int32 → St → Prop) (c5 : (Int32 × Int32 × St) → Prop) (u0 : Nat) (u1 : Int32) (u2 : Int32) (u3 : Int32) (u4 : Int32) (σ : St) : Prop := (u2 < u4 → (K u3 σ)) ∧ (¬ (u2 < u4) → (LpE (fun c s => F_X8_crossed_14 K c5 c u0 u1 u2 s.1 u4 s.2.1 s.2.2) (u3, 1, σ)))
set_option maxHeartbeats 4000000 in
set_option maxRecDepth 100000 in
theorem F_X8_crossed_5_w {κ : Kap} {K : Int32 → St → Prop} {c5 : (Int32 × Int32 × St) → Prop} (C : Ok κ RX8 cX8_crossed 6 1) (hret : RetI κ cX8_crossed .int K) (u0 : Nat) (u1 : Int32) (u2 : Int32) (u3 : Int32) (u4 : Int32) (hu0k : kd u0 = 10) (hu0l : u0 < NC)     (σ : St) (hc5 : ∀ (u3 : Int32) (u4 : Int32) (σ : St), c5 (u3, u4, σ) → GG κ 5 [(0, .ref (kad κ u0)), (1, .int u1), (2, .int u2), (3, .int u3), (4, .int u4)] [] σ) (hp : F_X8_crossed_5 K c5 u0 u1 u2 u3 u4 σ) : GG κ 5 [(0, .ref (kad κ u0)), (1, .int u1), (2, .int u2), (3, .int u3), (4, .int u4)] [] σ := by
  unfold F_X8_crossed_5 at hp
  refine x_iload 4 C rfl (dX8_crossed_p0 4 rfl) ?_
  refine x_iload_n 2 C rfl (dX8_crossed_p0 5 rfl) ?_
  refine x_icmp_gt (tgt := 63) C (dX8_crossed_p0 6 rfl) (by decide) (fun hc => ?_) (fun hc => ?_)
  · have hp := hp.1 hc
    refine x_iload_n 3 C rfl (dX8_crossed_p0 36 rfl) ?_
    exact hret _ _ _ _ (dX8_crossed_p0 37 rfl) (nar_i _) hp
  · have hp := hp.2 hc
    refine x_iconst (v := 1) C (by decide) (dX8_crossed_p0 7 rfl) ?_
    refine x_istore (loc' := [(5, .int 1), (0, .ref (kad κ u0)), (1, .int u1), (2, .int u2), (3, .int u3), (4, .int u4)]) C (by decide) rfl (dX8_crossed_p0 8 rfl) ?_
    refine x_loc (loc' := [(0, .ref (kad κ u0)), (1, .int u1), (2, .int u2), (3, .int u3), (4, .int u4), (5, .int 1)]) [1, 2, 3, 4, 5, 0] rfl ?_
    exact LpE_GG (S := (Int32 × Int32 × St)) (F := fun c s => F_X8_crossed_14 K c5 c u0 u1 u2 s.1 u4 s.2.1 s.2.2) (W := fun s => GG κ 14 [(0, .ref (kad κ u0)), (1, .int u1), (2, .int u2), (3, .int s.1), (4, .int u4), (5, .int s.2.1)] [] s.2.2) (fun c s hcc hp => F_X8_crossed_14_w C hret u0 u1 u2 s.1 u4 s.2.1 hu0k hu0l s.2.2 hc5 (fun u3 u5 σ h => hcc (u3, u5, σ) h) hp) hp
def P_X8_crossed (p0 : Nat) (p1 : Int32) (p2 : Int32) (σ : St) (K : Int32 → St → Prop) : Prop := LpE (fun c s => F_X8_crossed_5 K  c p0 p1 p2 s.1 s.2.1 s.2.2) (0, 2, σ)
set_option maxHeartbeats 4000000 in
set_option maxRecDepth 100000 in
theorem m_X8_crossed (l : Launch) (ad : Nat → Nat) (D : va_G) (ca : Nat → ClassId) (had : adOk ad) (p0 : Nat) (p1 : Int32) (p2 : Int32) (hp0k : kd p0 = 10) (hp0l : p0 < NC) (σ : St) (K : Int32 → St → Prop) (hp : P_X8_crossed p0 p1 p2 σ K) : CtI l ad D ca yX8_crossed cX8_crossed 6 .int 1 [.ref (ad p0), .int p1, .int p2] σ K := CtI_of (av := fun ad => [.ref (ad p0), .int p1, .int p2]) (plainFor_of_name (by decide)) had (Nat.le_of_ble_eq_true rfl) (fun κ C hret => by
  have C : Ok κ RX8 cX8_crossed 6 1 := C
  show GG κ 0 [(0, .ref (kad κ p0)), (1, .int p1), (2, .int p2)] [] σ
  unfold P_X8_crossed at hp
  refine x_iconst (v := 0) C (by decide) (dX8_crossed_p0 0 rfl) ?_
  refine x_istore_n (loc' := [(3, .int 0), (0, .ref (kad κ p0)), (1, .int p1), (2, .int p2)]) C rfl (by decide) rfl (dX8_crossed_p0 1 rfl) ?_
  refine x_iconst (v := 2) C (by decide) (dX8_crossed_p0 2 rfl) ?_
  refine x_istore (loc' := [(4, .int 2), (3, .int 0), (0, .ref (kad κ p0)), (1, .int p1), (2, .int p2)]) C (by decide) rfl (dX8_crossed_p0 3 rfl) ?_
  refine x_loc (loc' := [(0, .ref (kad κ p0)), (1, .int p1), (2, .int p2), (3, .int 0), (4, .int 2)]) [2, 3, 4, 1, 0] rfl ?_
  exact LpE_GG (S := (Int32 × Int32 × St)) (F := fun c s => F_X8_crossed_5 K  c p0 p1 p2 s.1 s.2.1 s.2.2) (W := fun s => GG κ 5 [(0, .ref (kad κ p0)), (1, .int p1), (2, .int p2), (3, .int s.1), (4, .int s.2.1)] [] s.2.2) (fun c s hcc hp => F_X8_crossed_5_w C hret p0 p1 p2 s.1 s.2.1 hp0k hp0l s.2.2  (fun u3 u4 σ h => hcc (u3, u4, σ) h) hp) hp)
def J_X8_isAdmissible_135 (K : Int32 → St → Prop)  (u2 : Int32) (σ : St) : Prop := P_X8_isTree 219 0 u2 σ (fun r4 s3 => (r4 = 0 → (K 0 s3)) ∧ (¬ (r4 = 0) → (((s3.1 204 12) = 0 → (K 1 s3)) ∧ (¬ ((s3.1 204 12) = 0) → P_X8_crossed 219 0 u2 s3 (fun r6 s5 => (r6 = 0 → (K 1 s5)) ∧ (¬ (r6 = 0) → (K 0 s5)))))))
set_option maxHeartbeats 4000000 in
set_option maxRecDepth 100000 in
theorem J_X8_isAdmissible_135_w {κ : Kap} {K : Int32 → St → Prop}  (C : Ok κ RX8 cX8_isAdmissible 6 2) (hret : RetI κ cX8_isAdmissible .boolean K) (u2 : Int32)   (σ : St)  (hp : J_X8_isAdmissible_135 K  u2 σ) : GG κ 135 [(0, .ref (kad κ 204)), (2, .int u2)] [] σ := by
  unfold J_X8_isAdmissible_135 at hp
  refine x_aload_n 0 C rfl (dX8_isAdmissible_p1 10 rfl) ?_
  refine gX8_20 (b := 219) C rfl (by decide) rfl tw_768 (dX8_isAdmissible_p1 11 rfl) ?_
  refine x_iconst (v := 0) C (by decide) (dX8_isAdmissible_p1 12 rfl) ?_
  refine x_iload_n 1 C rfl (dX8_isAdmissible_p1 13 rfl) ?_
  refine x_csI (As := [.ref (kad κ 219), .int 0, .int u2]) (st := []) C LRX8_114 (m_X8_isTree (kL κ) (kad κ) (kD κ) (kca κ) C.ado 219 0 u2 rfl (by decide) σ _ hp) rfl (by decide) rfl (Nat.le_of_ble_eq_true rfl) (dX8_isAdmissible_p1 14 rfl) (fun r4 s3 hp => ?_)
  refine x_if_ne (tgt := 149) C (dX8_isAdmissible_p1 15 rfl) (by decide) (fun hc => ?_) (fun hc => ?_)
  · have hp := hp.2 hc
    refine x_aload_n 0 C rfl (dX8_isAdmissible_p1 18 rfl) ?_
    refine gX8_12 C rfl (by decide) tw_760 (dX8_isAdmissible_p1 19 rfl) ?_
    refine x_if_eq (tgt := 168) C (dX8_isAdmissible_p1 20 rfl) (by decide) (fun hc => ?_) (fun hc => ?_)
    · have hp := hp.1 hc
      refine x_iconst (v := 1) C (by decide) (dX8_isAdmissible_p1 27 rfl) ?_
      refine x_goto (tgt := 173) C (dX8_isAdmissible_p1 28 rfl) (by decide) ?_
      exact hret _ _ _ _ (dX8_isAdmissible_p1 30 rfl) (nar_z isB1) hp
    · have hp := hp.2 hc
      refine x_aload_n 0 C rfl (dX8_isAdmissible_p1 21 rfl) ?_
      refine gX8_20 (b := 219) C rfl (by decide) rfl tw_768 (dX8_isAdmissible_p1 22 rfl) ?_
      refine x_iconst (v := 0) C (by decide) (dX8_isAdmissible_p1 23 rfl) ?_
      refine x_iload_n 1 C rfl (dX8_isAdmissible_p1 24 rfl) ?_
      refine x_csI (As := [.ref (kad κ 219), .int 0, .int u2]) (st := []) C LRX8_193 (m_X8_crossed (kL κ) (kad κ) (kD κ) (kca κ) C.ado 219 0 u2 rfl (by decide) s3 _ hp) rfl (by decide) rfl (Nat.le_of_ble_eq_true rfl) (dX8_isAdmissible_p1 25 rfl) (fun r6 s5 hp => ?_)
      refine x_if_ne (tgt := 172) C (dX8_isAdmissible_p1 26 rfl) (by decide) (fun hc => ?_) (fun hc => ?_)
      · have hp := hp.2 hc
        refine x_iconst (v := 0) C (by decide) (dX8_isAdmissible_p1 29 rfl) ?_
        exact hret _ _ _ _ (dX8_isAdmissible_p1 30 rfl) (nar_z isB0) hp
      · have hp := hp.1 hc
        refine x_iconst (v := 1) C (by decide) (dX8_isAdmissible_p1 27 rfl) ?_
        refine x_goto (tgt := 173) C (dX8_isAdmissible_p1 28 rfl) (by decide) ?_
        exact hret _ _ _ _ (dX8_isAdmissible_p1 30 rfl) (nar_z isB1) hp
  · have hp := hp.1 hc
    refine x_iconst (v := 0) C (by decide) (dX8_isAdmissible_p1 16 rfl) ?_
    exact hret _ _ _ _ (dX8_isAdmissible_p1 17 rfl) (nar_z isB0) hp
def F_X8_isAdmissible_63 (K : Int32 → St → Prop) (c12 : (Int32 × Int32 × St) → Prop) (c63 : (Int32 × St) → Prop) (u1 : Int32) (u2 : Int32) (u3 : Int32) (u4 : Int32) (u5 : Int32) (σ : St) : Prop := (u2 < u5 → ∀ v13 : Int32, v13 = u4 + 1 → c12 (u3, v13, σ)) ∧ (¬ (u2 < u5) → ((u5 = u4 → ∀ v14 : Int32, v14 = u5 + 1 → c63 (v14, σ)) ∧ (¬ (u5 = u4) → vp_in u4 7 ∧ ((u5 = (σ.1 219 (ix u4)) → ∀ v16 : Int32, v16 = u5 + 1 → c63 (v16, σ)) ∧ (¬ (u5 = (σ.1 219 (ix u4))) → P_X8_arc u1 u5 u4 σ (fun r18 s17 => vp_in r18 196 ∧ (((s17.1 210 (ix r18)) = 1 → (K 0 s17)) ∧ (¬ ((s17.1 210 (ix r18)) = 1) → ∀ v20 : Int32, v20 = u5 + 1 → c63 (v20, s17)))))))))
set_option maxHeartbeats 4000000 in
set_option maxRecDepth 100000 in
theorem F_X8_isAdmissible_63_w {κ : Kap} {K : Int32 → St → Prop} {c12 : (Int32 × Int32 × St) → Prop} {c63 : (Int32 × St) → Prop} (C : Ok κ RX8 cX8_isAdmissible 6 2) (hret : RetI κ cX8_isAdmissible .boolean K) (u1 : Int32) (u2 : Int32) (u3 : Int32) (u4 : Int32) (u5 : Int32)       (σ : St) (hc12 : ∀ (u3 : Int32) (u4 : Int32) (σ : St), c12 (u3, u4, σ) → GG κ 12 [(0, .ref (kad κ 204)), (1, .int u1), (2, .int u2), (3, .int u3), (4, .int u4)] [] σ) (hc63 : ∀ (u5 : Int32) (σ : St), c63 (u5, σ) → GG κ 63 [(0, .ref (kad κ 204)), (1, .int u1), (2, .int u2), (3, .int u3), (4, .int u4), (5, .int u5)] [] σ) (hp : F_X8_isAdmissible_63 K c12 c63 u1 u2 u3 u4 u5 σ) : GG κ 63 [(0, .ref (kad κ 204)), (1, .int u1), (2, .int u2), (3, .int u3), (4, .int u4), (5, .int u5)] [] σ := by
  unfold F_X8_isAdmissible_63 at hp
  refine x_iload 5 C rfl (dX8_isAdmissible_p0 39 rfl) ?_
  refine x_iload_n 2 C rfl (dX8_isAdmissible_p0 40 rfl) ?_
  refine x_icmp_gt (tgt := 113) C (dX8_isAdmissible_p0 41 rfl) (by decide) (fun hc => ?_) (fun hc => ?_)
  · have hp := hp.1 hc
    obtain ⟨v13, ev13⟩ : ∃ z : Int32, z = u4 + 1 := ⟨_, rfl⟩
    have hp := hp v13 ev13
    refine x_iinc (v := v13) (loc' := [(4, .int v13), (0, .ref (kad κ 204)), (1, .int u1), (2, .int u2), (3, .int u3), (5, .int u5)]) 4 C rfl (by rw [ev13]; rfl) (by decide) rfl (dX8_isAdmissible_p1 0 rfl) ?_
    refine x_goto (tgt := 12) C (dX8_isAdmissible_p1 1 rfl) (by decide) ?_
    refine x_loc (loc' := [(0, .ref (kad κ 204)), (1, .int u1), (2, .int u2), (3, .int u3), (4, .int v13)]) [1, 2, 3, 4, 0] rfl ?_
    exact hc12 u3 v13 σ hp
  · have hp := hp.2 hc
    refine x_iload 5 C rfl (dX8_isAdmissible_p0 42 rfl) ?_
    refine x_iload 4 C rfl (dX8_isAdmissible_p0 43 rfl) ?_
    refine x_icmp_eq (tgt := 107) C (dX8_isAdmissible_p0 44 rfl) (by decide) (fun hc => ?_) (fun hc => ?_)
    · have hp := hp.1 hc
      obtain ⟨v14, ev14⟩ : ∃ z : Int32, z = u5 + 1 := ⟨_, rfl⟩
      have hp := hp v14 ev14
      refine x_iinc (v := v14) (loc' := [(5, .int v14), (0, .ref (kad κ 204)), (1, .int u1), (2, .int u2), (3, .int u3), (4, .int u4)]) 5 C rfl (by rw [ev14]; rfl) (by decide) rfl (dX8_isAdmissible_p0 62 rfl) ?_
      refine x_goto (tgt := 63) C (dX8_isAdmissible_p0 63 rfl) (by decide) ?_
      refine x_loc (loc' := [(0, .ref (kad κ 204)), (1, .int u1), (2, .int u2), (3, .int u3), (4, .int u4), (5, .int v14)]) [1, 2, 3, 4, 5, 0] rfl ?_
      exact hc63 v14 σ hp
    · have hp := hp.2 hc
      refine x_iload 5 C rfl (dX8_isAdmissible_p0 45 rfl) ?_
      refine x_aload_n 0 C rfl (dX8_isAdmissible_p0 46 rfl) ?_
      refine gX8_20 (b := 219) C rfl (by decide) rfl tw_768 (dX8_isAdmissible_p0 47 rfl) ?_
      refine x_iload 4 C rfl (dX8_isAdmissible_p0 48 rfl) ?_
      obtain ⟨h15, hp⟩ := hp
      refine x_iald C rfl (by decide) h15 (dX8_isAdmissible_p0 49 rfl) ?_
      refine x_icmp_eq (tgt := 107) C (dX8_isAdmissible_p0 50 rfl) (by decide) (fun hc => ?_) (fun hc => ?_)
      · have hp := hp.1 hc
        obtain ⟨v16, ev16⟩ : ∃ z : Int32, z = u5 + 1 := ⟨_, rfl⟩
        have hp := hp v16 ev16
        refine x_iinc (v := v16) (loc' := [(5, .int v16), (0, .ref (kad κ 204)), (1, .int u1), (2, .int u2), (3, .int u3), (4, .int u4)]) 5 C rfl (by rw [ev16]; rfl) (by decide) rfl (dX8_isAdmissible_p0 62 rfl) ?_
        refine x_goto (tgt := 63) C (dX8_isAdmissible_p0 63 rfl) (by decide) ?_
        refine x_loc (loc' := [(0, .ref (kad κ 204)), (1, .int u1), (2, .int u2), (3, .int u3), (4, .int u4), (5, .int v16)]) [1, 2, 3, 4, 5, 0] rfl ?_
        exact hc63 v16 σ hp
      · have hp := hp.2 hc
        refine x_aload_n 0 C rfl (dX8_isAdmissible_p0 51 rfl) ?_
        refine gX8_7 (b := 210) C rfl (by decide) rfl tw_755 (dX8_isAdmissible_p0 52 rfl) ?_
        refine x_iload_n 1 C rfl (dX8_isAdmissible_p0 53 rfl) ?_
        refine x_iload 5 C rfl (dX8_isAdmissible_p0 54 rfl) ?_
        refine x_iload 4 C rfl (dX8_isAdmissible_p0 55 rfl) ?_
        refine x_csI (As := [.int u1, .int u5, .int u4]) (st := [.ref (kad κ 210)]) C LRX8_147 (m_X8_arc (kL κ) (kad κ) (kD κ) (kca κ) C.ado u1 u5 u4  σ _ hp) rfl (by decide) rfl (Nat.le_of_ble_eq_true rfl) (dX8_isAdmissible_p0 56 rfl) (fun r18 s17 hp => ?_)
        obtain ⟨h19, hp⟩ := hp
        refine x_iald C rfl (by decide) h19 (dX8_isAdmissible_p0 57 rfl) ?_
        refine x_iconst (v := 1) C (by decide) (dX8_isAdmissible_p0 58 rfl) ?_
        refine x_icmp_ne (tgt := 107) C (dX8_isAdmissible_p0 59 rfl) (by decide) (fun hc => ?_) (fun hc => ?_)
        · have hp := hp.2 hc
          obtain ⟨v20, ev20⟩ : ∃ z : Int32, z = u5 + 1 := ⟨_, rfl⟩
          have hp := hp v20 ev20
          refine x_iinc (v := v20) (loc' := [(5, .int v20), (0, .ref (kad κ 204)), (1, .int u1), (2, .int u2), (3, .int u3), (4, .int u4)]) 5 C rfl (by rw [ev20]; rfl) (by decide) rfl (dX8_isAdmissible_p0 62 rfl) ?_
          refine x_goto (tgt := 63) C (dX8_isAdmissible_p0 63 rfl) (by decide) ?_
          refine x_loc (loc' := [(0, .ref (kad κ 204)), (1, .int u1), (2, .int u2), (3, .int u3), (4, .int u4), (5, .int v20)]) [1, 2, 3, 4, 5, 0] rfl ?_
          exact hc63 v20 s17 hp
        · have hp := hp.1 hc
          refine x_iconst (v := 0) C (by decide) (dX8_isAdmissible_p0 60 rfl) ?_
          exact hret _ _ _ _ (dX8_isAdmissible_p0 61 rfl) (nar_z isB0) hp
def J_X8_isAdmissible_34 (K : Int32 → St → Prop) (c12 : (Int32 × Int32 × St) → Prop) (u1 : Int32) (u2 : Int32) (u4 : Int32) (t0 : Int32) (t1 : Int32) (σ : St) : Prop := ∀ v8 : Int32, v8 = (t0 + t1) → vp_in u4 7 ∧ (P_X8_arc u1 (σ.1 219 (ix u4)) u4 σ (fun r11 s10 => vp_in r11 196 ∧ (((s10.1 210 (ix r11)) = 2 → (K 0 s10)) ∧ (¬ ((s10.1 210 (ix r11)) = 2) → (LpE (fun c s => F_X8_isAdmissible_63 K c12 c u1 u2 v8 u4 s.1 s.2) (0, s10))))))
set_option maxHeartbeats 4000000 in
set_option maxRecDepth 100000 in
theorem J_X8_isAdmissible_34_w {κ : Kap} {K : Int32 → St → Prop} {c12 : (Int32 × Int32 × St) → Prop} (C : Ok κ RX8 cX8_isAdmissible 6 2) (hret : RetI κ cX8_isAdmissible .boolean K) (u1 : Int32) (u2 : Int32) (u4 : Int32) (t0 : Int32) (t1 : Int32)       (σ : St) (hc12 : ∀ (u3 : Int32) (u4 : Int32) (σ : St), c12 (u3, u4, σ) → GG κ 12 [(0, .ref (kad κ 204)), (1, .int u1), (2, .int u2), (3, .int u3), (4, .int u4)] [] σ) (hp : J_X8_isAdmissible_34 K c12 u1 u2 u4 t0 t1 σ) : GG κ 34 [(0, .ref (kad κ 204)), (1, .int u1), (2, .int u2), (4, .int u4)] [.int t1, .int t0] σ := by
  unfold J_X8_isAdmissible_34 at hp
  refine x_iadd C (dX8_isAdmissible_p0 21 rfl) ?_
  refine x_topI (fun v8 ev8 => ?_)
  have hp := hp v8 ev8
  refine x_istore_n (loc' := [(3, .int v8), (0, .ref (kad κ 204)), (1, .int u1), (2, .int u2), (4, .int u4)]) C rfl (by decide) rfl (dX8_isAdmissible_p0 22 rfl) ?_
  refine x_aload_n 1 C rfl (dX8_isAdmissible_p0 23 rfl) ?_
  refine gX8_7 (b := 210) C rfl (by decide) rfl tw_755 (dX8_isAdmissible_p0 24 rfl) ?_
  refine x_iload_n 2 C rfl (dX8_isAdmissible_p0 25 rfl) ?_
  refine x_aload_n 1 C rfl (dX8_isAdmissible_p0 26 rfl) ?_
  refine gX8_20 (b := 219) C rfl (by decide) rfl tw_768 (dX8_isAdmissible_p0 27 rfl) ?_
  refine x_iload 4 C rfl (dX8_isAdmissible_p0 28 rfl) ?_
  obtain ⟨h9, hp⟩ := hp
  refine x_iald C rfl (by decide) h9 (dX8_isAdmissible_p0 29 rfl) ?_
  refine x_iload 4 C rfl (dX8_isAdmissible_p0 30 rfl) ?_
  refine x_csI (As := [.int u1, .int (σ.1 219 (ix u4)), .int u4]) (st := [.ref (kad κ 210)]) C LRX8_147 (m_X8_arc (kL κ) (kad κ) (kD κ) (kca κ) C.ado u1 (σ.1 219 (ix u4)) u4  σ _ hp) rfl (by decide) rfl (Nat.le_of_ble_eq_true rfl) (dX8_isAdmissible_p0 31 rfl) (fun r11 s10 hp => ?_)
  obtain ⟨h12, hp⟩ := hp
  refine x_iald C rfl (by decide) h12 (dX8_isAdmissible_p0 32 rfl) ?_
  refine x_iconst (v := 2) C (by decide) (dX8_isAdmissible_p0 33 rfl) ?_
  refine x_icmp_ne (tgt := 60) C (dX8_isAdmissible_p0 34 rfl) (by decide) (fun hc => ?_) (fun hc => ?_)
  · have hp := hp.2 hc
    refine x_iconst (v := 0) C (by decide) (dX8_isAdmissible_p0 37 rfl) ?_
    refine x_istore (loc' := [(5, .int 0), (3, .int v8), (0, .ref (kad κ 204)), (1, .int u1), (2, .int u2), (4, .int u4)]) C (by decide) rfl (dX8_isAdmissible_p0 38 rfl) ?_
    refine x_loc (loc' := [(0, .ref (kad κ 204)), (1, .int u1), (2, .int u2), (3, .int v8), (4, .int u4), (5, .int 0)]) [2, 3, 4, 1, 5, 0] rfl ?_
    exact LpE_GG (S := (Int32 × St)) (F := fun c s => F_X8_isAdmissible_63 K c12 c u1 u2 v8 u4 s.1 s.2) (W := fun s => GG κ 63 [(0, .ref (kad κ 204)), (1, .int u1), (2, .int u2), (3, .int v8), (4, .int u4), (5, .int s.1)] [] s.2) (fun c s hcc hp => F_X8_isAdmissible_63_w C hret u1 u2 v8 u4 s.1  s.2 hc12 (fun u5 σ h => hcc (u5, σ) h) hp) hp
  · have hp := hp.1 hc
    refine x_iconst (v := 0) C (by decide) (dX8_isAdmissible_p0 35 rfl) ?_
    exact hret _ _ _ _ (dX8_isAdmissible_p0 36 rfl) (nar_z isB0) hp
def F_X8_isAdmissible_12 (K : Int32 → St → Prop) (c12 : (Int32 × Int32 × St) → Prop) (u1 : Int32) (u2 : Int32) (u3 : Int32) (u4 : Int32) (σ : St) : Prop := (u2 < u4 → ((u3 = 0 → (K 0 σ)) ∧ (¬ (u3 = 0) → (((σ.1 204 11) = 0 → (J_X8_isAdmissible_135 K  u2 σ)) ∧ (¬ ((σ.1 204 11) = 0) → ((u3 = 1 → (J_X8_isAdmissible_135 K  u2 σ)) ∧ (¬ (u3 = 1) → (K 0 σ)))))))) ∧ (¬ (u2 < u4) → vp_in u4 7 ∧ (((σ.1 219 (ix u4)) = 0 → (J_X8_isAdmissible_34 K c12 u1 u2 u4 u3 1 σ)) ∧ (¬ ((σ.1 219 (ix u4)) = 0) → (J_X8_isAdmissible_34 K c12 u1 u2 u4 u3 0 σ))))
set_option maxHeartbeats 4000000 in
set_option maxRecDepth 100000 in
theorem F_X8_isAdmissible_12_w {κ : Kap} {K : Int32 → St → Prop} {c12 : (Int32 × Int32 × St) → Prop} (C : Ok κ RX8 cX8_isAdmissible 6 2) (hret : RetI κ cX8_isAdmissible .boolean K) (u1 : Int32) (u2 : Int32) (u3 : Int32) (u4 : Int32)      (σ : St) (hc12 : ∀ (u3 : Int32) (u4 : Int32) (σ : St), c12 (u3, u4, σ) → GG κ 12 [(0, .ref (kad κ 204)), (1, .int u1), (2, .int u2), (3, .int u3), (4, .int u4)] [] σ) (hp : F_X8_isAdmissible_12 K c12 u1 u2 u3 u4 σ) : GG κ 12 [(0, .ref (kad κ 204)), (1, .int u1), (2, .int u2), (3, .int u3), (4, .int u4)] [] σ := by
  unfold F_X8_isAdmissible_12 at hp
  refine x_iload 4 C rfl (dX8_isAdmissible_p0 9 rfl) ?_
  refine x_iload_n 2 C rfl (dX8_isAdmissible_p0 10 rfl) ?_
  refine x_icmp_gt (tgt := 119) C (dX8_isAdmissible_p0 11 rfl) (by decide) (fun hc => ?_) (fun hc => ?_)
  · have hp := hp.1 hc
    refine x_iload_n 3 C rfl (dX8_isAdmissible_p1 2 rfl) ?_
    refine x_if_eq (tgt := 147) C (dX8_isAdmissible_p1 3 rfl) (by decide) (fun hc => ?_) (fun hc => ?_)
    · have hp := hp.1 hc
      refine x_iconst (v := 0) C (by decide) (dX8_isAdmissible_p1 16 rfl) ?_
      exact hret _ _ _ _ (dX8_isAdmissible_p1 17 rfl) (nar_z isB0) hp
    · have hp := hp.2 hc
      refine x_aload_n 0 C rfl (dX8_isAdmissible_p1 4 rfl) ?_
      refine gX8_11 C rfl (by decide) tw_759 (dX8_isAdmissible_p1 5 rfl) ?_
      refine x_if_eq (tgt := 135) C (dX8_isAdmissible_p1 6 rfl) (by decide) (fun hc => ?_) (fun hc => ?_)
      · have hp := hp.1 hc
        refine x_loc (loc' := [(0, .ref (kad κ 204)), (2, .int u2)]) [0, 2] rfl ?_
        exact J_X8_isAdmissible_135_w C hret u2  σ  hp
      · have hp := hp.2 hc
        refine x_iload_n 3 C rfl (dX8_isAdmissible_p1 7 rfl) ?_
        refine x_iconst (v := 1) C (by decide) (dX8_isAdmissible_p1 8 rfl) ?_
        refine x_icmp_ne (tgt := 147) C (dX8_isAdmissible_p1 9 rfl) (by decide) (fun hc => ?_) (fun hc => ?_)
        · have hp := hp.2 hc
          refine x_iconst (v := 0) C (by decide) (dX8_isAdmissible_p1 16 rfl) ?_
          exact hret _ _ _ _ (dX8_isAdmissible_p1 17 rfl) (nar_z isB0) hp
        · have hp := hp.1 hc
          refine x_loc (loc' := [(0, .ref (kad κ 204)), (2, .int u2)]) [0, 2] rfl ?_
          exact J_X8_isAdmissible_135_w C hret u2  σ  hp
  · have hp := hp.2 hc
    refine x_iload_n 3 C rfl (dX8_isAdmissible_p0 12 rfl) ?_
    refine x_aload_n 0 C rfl (dX8_isAdmissible_p0 13 rfl) ?_
    refine gX8_20 (b := 219) C rfl (by decide) rfl tw_768 (dX8_isAdmissible_p0 14 rfl) ?_
    refine x_iload 4 C rfl (dX8_isAdmissible_p0 15 rfl) ?_
    obtain ⟨h7, hp⟩ := hp
    refine x_iald C rfl (by decide) h7 (dX8_isAdmissible_p0 16 rfl) ?_
    refine x_if_ne (tgt := 33) C (dX8_isAdmissible_p0 17 rfl) (by decide) (fun hc => ?_) (fun hc => ?_)
    · have hp := hp.2 hc
      refine x_iconst (v := 0) C (by decide) (dX8_isAdmissible_p0 20 rfl) ?_
      refine x_loc (loc' := [(0, .ref (kad κ 204)), (1, .int u1), (2, .int u2), (4, .int u4)]) [0, 1, 2, 4] rfl ?_
      exact J_X8_isAdmissible_34_w C hret u1 u2 u4 u3 0  σ hc12 hp
    · have hp := hp.1 hc
      refine x_iconst (v := 1) C (by decide) (dX8_isAdmissible_p0 18 rfl) ?_
      refine x_goto (tgt := 34) C (dX8_isAdmissible_p0 19 rfl) (by decide) ?_
      refine x_loc (loc' := [(0, .ref (kad κ 204)), (1, .int u1), (2, .int u2), (4, .int u4)]) [0, 1, 2, 4] rfl ?_
      exact J_X8_isAdmissible_34_w C hret u1 u2 u4 u3 1  σ hc12 hp
def P_X8_isAdmissible (p1 : Int32) (σ : St) (K : Int32 → St → Prop) : Prop := vp_in p1 4 ∧ (∀ v2 : Int32, v2 = (σ.1 206 (ix p1)) → (LpE (fun c s => F_X8_isAdmissible_12 K  c p1 v2 s.1 s.2.1 s.2.2) (0, 1, σ)))
set_option maxHeartbeats 4000000 in
set_option maxRecDepth 100000 in
theorem m_X8_isAdmissible (l : Launch) (ad : Nat → Nat) (D : va_G) (ca : Nat → ClassId) (had : adOk ad) (p1 : Int32)  (σ : St) (K : Int32 → St → Prop) (hp : P_X8_isAdmissible p1 σ K) : CtI l ad D ca yX8_isAdmissible cX8_isAdmissible 6 .boolean 2 [.ref (ad 204), .int p1] σ K := CtI_of (av := fun ad => [.ref (ad 204), .int p1]) (plainFor_of_name (by decide)) had (Nat.le_of_ble_eq_true rfl) (fun κ C hret => by
  have C : Ok κ RX8 cX8_isAdmissible 6 2 := C
  show GG κ 0 [(0, .ref (kad κ 204)), (1, .int p1)] [] σ
  unfold P_X8_isAdmissible at hp
  refine x_aload_n 0 C rfl (dX8_isAdmissible_p0 0 rfl) ?_
  refine gX8_3 (b := 206) C rfl (by decide) rfl tw_751 (dX8_isAdmissible_p0 1 rfl) ?_
  refine x_iload_n 1 C rfl (dX8_isAdmissible_p0 2 rfl) ?_
  obtain ⟨h1, hp⟩ := hp
  refine x_iald C rfl (by decide) h1 (dX8_isAdmissible_p0 3 rfl) ?_
  refine x_topI (fun v2 ev2 => ?_)
  have hp := hp v2 ev2
  refine x_istore_n (loc' := [(2, .int v2), (0, .ref (kad κ 204)), (1, .int p1)]) C rfl (by decide) rfl (dX8_isAdmissible_p0 4 rfl) ?_
  refine x_iconst (v := 0) C (by decide) (dX8_isAdmissible_p0 5 rfl) ?_
  refine x_istore_n (loc' := [(3, .int 0), (2, .int v2), (0, .ref (kad κ 204)), (1, .int p1)]) C rfl (by decide) rfl (dX8_isAdmissible_p0 6 rfl) ?_
  refine x_iconst (v := 1) C (by decide) (dX8_isAdmissible_p0 7 rfl) ?_
  refine x_istore (loc' := [(4, .int 1), (3, .int 0), (2, .int v2), (0, .ref (kad κ 204)), (1, .int p1)]) C (by decide) rfl (dX8_isAdmissible_p0 8 rfl) ?_
  refine x_loc (loc' := [(0, .ref (kad κ 204)), (1, .int p1), (2, .int v2), (3, .int 0), (4, .int 1)]) [3, 4, 2, 1, 0] rfl ?_
  exact LpE_GG (S := (Int32 × Int32 × St)) (F := fun c s => F_X8_isAdmissible_12 K  c p1 v2 s.1 s.2.1 s.2.2) (W := fun s => GG κ 12 [(0, .ref (kad κ 204)), (1, .int p1), (2, .int v2), (3, .int s.1), (4, .int s.2.1)] [] s.2.2) (fun c s hcc hp => F_X8_isAdmissible_12_w C hret p1 v2 s.1 s.2.1  s.2.2  (fun u3 u4 σ h => hcc (u3, u4, σ) h) hp) hp)
def F_X8_sumOf_4 (K : Int32 → St → Prop) (c4 : (Int32 × Int32 × St) → Prop) (u1 : Int32) (u2 : Int32) (u3 : Int32) (σ : St) : Prop := (u1 < u3 → (K u2 σ)) ∧ (¬ (u1 < u3) → vp_in u3 7 ∧ (vp_in ((7 * (σ.1 219 (ix u3))) + u3) 49 ∧ (∀ v3 : Int32, v3 = (u2 + (σ.1 217 (ix ((7 * (σ.1 219 (ix u3))) + u3)))) → ∀ v4 : Int32, v4 = u3 + 1 → c4 (v3, v4, σ))))
set_option maxHeartbeats 4000000 in
set_option maxRecDepth 100000 in
theorem F_X8_sumOf_4_w {κ : Kap} {K : Int32 → St → Prop} {c4 : (Int32 × Int32 × St) → Prop} (C : Ok κ RX8 cX8_sumOf 4 0) (hret : RetI κ cX8_sumOf .int K) (u1 : Int32) (u2 : Int32) (u3 : Int32)     (σ : St) (hc4 : ∀ (u2 : Int32) (u3 : Int32) (σ : St), c4 (u2, u3, σ) → GG κ 4 [(0, .ref (kad κ 204)), (1, .int u1), (2, .int u2), (3, .int u3)] [] σ) (hp : F_X8_sumOf_4 K c4 u1 u2 u3 σ) : GG κ 4 [(0, .ref (kad κ 204)), (1, .int u1), (2, .int u2), (3, .int u3)] [] σ := by
  unfold F_X8_sumOf_4 at hp
  refine x_iload_n 3 C rfl (dX8_sumOf_p0 4 rfl) ?_
  refine x_iload_n 1 C rfl (dX8_sumOf_p0 5 rfl) ?_
  refine x_icmp_gt (tgt := 34) C (dX8_sumOf_p0 6 rfl) (by decide) (fun hc => ?_) (fun hc => ?_)
  · have hp := hp.1 hc
    refine x_iload_n 2 C rfl (dX8_sumOf_p0 23 rfl) ?_
    exact hret _ _ _ _ (dX8_sumOf_p0 24 rfl) (nar_i _) hp
  · have hp := hp.2 hc
    refine x_iload_n 2 C rfl (dX8_sumOf_p0 7 rfl) ?_
    refine x_aload_n 0 C rfl (dX8_sumOf_p0 8 rfl) ?_
    refine gX8_18 (b := 217) C rfl (by decide) rfl tw_766 (dX8_sumOf_p0 9 rfl) ?_
    refine x_bipush (v := 7) C (by decide) (dX8_sumOf_p0 10 rfl) ?_
    refine x_aload_n 0 C rfl (dX8_sumOf_p0 11 rfl) ?_
    refine gX8_20 (b := 219) C rfl (by decide) rfl tw_768 (dX8_sumOf_p0 12 rfl) ?_
    refine x_iload_n 3 C rfl (dX8_sumOf_p0 13 rfl) ?_
    obtain ⟨h1, hp⟩ := hp
    refine x_iald C rfl (by decide) h1 (dX8_sumOf_p0 14 rfl) ?_
    refine x_imul C (dX8_sumOf_p0 15 rfl) ?_
    refine x_iload_n 3 C rfl (dX8_sumOf_p0 16 rfl) ?_
    refine x_iadd C (dX8_sumOf_p0 17 rfl) ?_
    obtain ⟨h2, hp⟩ := hp
    refine x_iald C rfl (by decide) h2 (dX8_sumOf_p0 18 rfl) ?_
    refine x_iadd C (dX8_sumOf_p0 19 rfl) ?_
    refine x_topI (fun v3 ev3 => ?_)
    have hp := hp v3 ev3
    refine x_istore_n (loc' := [(2, .int v3), (0, .ref (kad κ 204)), (1, .int u1), (3, .int u3)]) C rfl (by decide) rfl (dX8_sumOf_p0 20 rfl) ?_
    obtain ⟨v4, ev4⟩ : ∃ z : Int32, z = u3 + 1 := ⟨_, rfl⟩
    have hp := hp v4 ev4
    refine x_iinc (v := v4) (loc' := [(3, .int v4), (2, .int v3), (0, .ref (kad κ 204)), (1, .int u1)]) 3 C rfl (by rw [ev4]; rfl) (by decide) rfl (dX8_sumOf_p0 21 rfl) ?_
    refine x_goto (tgt := 4) C (dX8_sumOf_p0 22 rfl) (by decide) ?_
    refine x_loc (loc' := [(0, .ref (kad κ 204)), (1, .int u1), (2, .int v3), (3, .int v4)]) [2, 3, 1, 0] rfl ?_
    exact hc4 v3 v4 σ hp
def P_X8_sumOf (p1 : Int32) (σ : St) (K : Int32 → St → Prop) : Prop := LpE (fun c s => F_X8_sumOf_4 K  c p1 s.1 s.2.1 s.2.2) (0, 1, σ)
set_option maxHeartbeats 4000000 in
set_option maxRecDepth 100000 in
theorem m_X8_sumOf (l : Launch) (ad : Nat → Nat) (D : va_G) (ca : Nat → ClassId) (had : adOk ad) (p1 : Int32)  (σ : St) (K : Int32 → St → Prop) (hp : P_X8_sumOf p1 σ K) : CtI l ad D ca yX8_sumOf cX8_sumOf 4 .int 0 [.ref (ad 204), .int p1] σ K := CtI_of (av := fun ad => [.ref (ad 204), .int p1]) (plainFor_of_name (by decide)) had (Nat.le_of_ble_eq_true rfl) (fun κ C hret => by
  have C : Ok κ RX8 cX8_sumOf 4 0 := C
  show GG κ 0 [(0, .ref (kad κ 204)), (1, .int p1)] [] σ
  unfold P_X8_sumOf at hp
  refine x_iconst (v := 0) C (by decide) (dX8_sumOf_p0 0 rfl) ?_
  refine x_istore_n (loc' := [(2, .int 0), (0, .ref (kad κ 204)), (1, .int p1)]) C rfl (by decide) rfl (dX8_sumOf_p0 1 rfl) ?_
  refine x_iconst (v := 1) C (by decide) (dX8_sumOf_p0 2 rfl) ?_
  refine x_istore_n (loc' := [(3, .int 1), (2, .int 0), (0, .ref (kad κ 204)), (1, .int p1)]) C rfl (by decide) rfl (dX8_sumOf_p0 3 rfl) ?_
  refine x_loc (loc' := [(0, .ref (kad κ 204)), (1, .int p1), (2, .int 0), (3, .int 1)]) [2, 3, 1, 0] rfl ?_
  exact LpE_GG (S := (Int32 × Int32 × St)) (F := fun c s => F_X8_sumOf_4 K  c p1 s.1 s.2.1 s.2.2) (W := fun s => GG κ 4 [(0, .ref (kad κ 204)), (1, .int p1), (2, .int s.1), (3, .int s.2.1)] [] s.2.2) (fun c s hcc hp => F_X8_sumOf_4_w C hret p1 s.1 s.2.1  s.2.2  (fun u2 u3 σ h => hcc (u2, u3, σ) h) hp) hp)
def F_X8_isAnnotation_4 (K : Int32 → St → Prop) (c4 : (Int32 × Int32 × St) → Prop) (u1 : Int32) (u2 : Int32) (u3 : Int32) (σ : St) : Prop := vp_in u1 4 ∧ (((σ.1 206 (ix u1)) < u3 → (isB u2 ∧ K u2 σ)) ∧ (¬ ((σ.1 206 (ix u1)) < u3) → ((u2 = 0 → ∀ v2 : Int32, v2 = u3 + 1 → c4 (0, v2, σ)) ∧ (¬ (u2 = 0) → vp_in u3 7 ∧ P_X8_word u1 u3 σ (fun r5 s4 => vp_in r5 28 ∧ (((σ.1 219 (ix u3)) = (s4.1 208 (ix r5)) → ∀ v8 : Int32, v8 = u3 + 1 → c4 (1, v8, s4)) ∧ (¬ ((σ.1 219 (ix u3)) = (s4.1 208 (ix r5))) → ∀ v7 : Int32, v7 = u3 + 1 → c4 (0, v7, s4))))))))
set_option maxHeartbeats 4000000 in
set_option maxRecDepth 100000 in
theorem F_X8_isAnnotation_4_w {κ : Kap} {K : Int32 → St → Prop} {c4 : (Int32 × Int32 × St) → Prop} (C : Ok κ RX8 cX8_isAnnotation 4 1) (hret : RetI κ cX8_isAnnotation .boolean K) (u1 : Int32) (u2 : Int32) (u3 : Int32)     (σ : St) (hc4 : ∀ (u2 : Int32) (u3 : Int32) (σ : St), c4 (u2, u3, σ) → GG κ 4 [(0, .ref (kad κ 204)), (1, .int u1), (2, .int u2), (3, .int u3)] [] σ) (hp : F_X8_isAnnotation_4 K c4 u1 u2 u3 σ) : GG κ 4 [(0, .ref (kad κ 204)), (1, .int u1), (2, .int u2), (3, .int u3)] [] σ := by
  unfold F_X8_isAnnotation_4 at hp
  refine x_iload_n 3 C rfl (dX8_isAnnotation_p0 4 rfl) ?_
  refine x_aload_n 0 C rfl (dX8_isAnnotation_p0 5 rfl) ?_
  refine gX8_3 (b := 206) C rfl (by decide) rfl tw_751 (dX8_isAnnotation_p0 6 rfl) ?_
  refine x_iload_n 1 C rfl (dX8_isAnnotation_p0 7 rfl) ?_
  obtain ⟨h1, hp⟩ := hp
  refine x_iald C rfl (by decide) h1 (dX8_isAnnotation_p0 8 rfl) ?_
  refine x_icmp_gt (tgt := 49) C (dX8_isAnnotation_p0 9 rfl) (by decide) (fun hc => ?_) (fun hc => ?_)
  · have hp := hp.1 hc
    refine x_iload_n 2 C rfl (dX8_isAnnotation_p0 29 rfl) ?_
    exact hret _ _ _ _ (dX8_isAnnotation_p0 30 rfl) (nar_z hp.1) hp.2
  · have hp := hp.2 hc
    refine x_iload_n 2 C rfl (dX8_isAnnotation_p0 10 rfl) ?_
    refine x_if_eq (tgt := 41) C (dX8_isAnnotation_p0 11 rfl) (by decide) (fun hc => ?_) (fun hc => ?_)
    · have hp := hp.1 hc
      refine x_iconst (v := 0) C (by decide) (dX8_isAnnotation_p0 25 rfl) ?_
      refine x_istore_n (loc' := [(2, .int 0), (0, .ref (kad κ 204)), (1, .int u1), (3, .int u3)]) C rfl (by decide) rfl (dX8_isAnnotation_p0 26 rfl) ?_
      obtain ⟨v2, ev2⟩ : ∃ z : Int32, z = u3 + 1 := ⟨_, rfl⟩
      have hp := hp v2 ev2
      refine x_iinc (v := v2) (loc' := [(3, .int v2), (2, .int 0), (0, .ref (kad κ 204)), (1, .int u1)]) 3 C rfl (by rw [ev2]; rfl) (by decide) rfl (dX8_isAnnotation_p0 27 rfl) ?_
      refine x_goto (tgt := 4) C (dX8_isAnnotation_p0 28 rfl) (by decide) ?_
      refine x_loc (loc' := [(0, .ref (kad κ 204)), (1, .int u1), (2, .int 0), (3, .int v2)]) [2, 3, 1, 0] rfl ?_
      exact hc4 0 v2 σ hp
    · have hp := hp.2 hc
      refine x_aload_n 0 C rfl (dX8_isAnnotation_p0 12 rfl) ?_
      refine gX8_20 (b := 219) C rfl (by decide) rfl tw_768 (dX8_isAnnotation_p0 13 rfl) ?_
      refine x_iload_n 3 C rfl (dX8_isAnnotation_p0 14 rfl) ?_
      obtain ⟨h3, hp⟩ := hp
      refine x_iald C rfl (by decide) h3 (dX8_isAnnotation_p0 15 rfl) ?_
      refine x_aload_n 0 C rfl (dX8_isAnnotation_p0 16 rfl) ?_
      refine gX8_5 (b := 208) C rfl (by decide) rfl tw_753 (dX8_isAnnotation_p0 17 rfl) ?_
      refine x_iload_n 1 C rfl (dX8_isAnnotation_p0 18 rfl) ?_
      refine x_iload_n 3 C rfl (dX8_isAnnotation_p0 19 rfl) ?_
      refine x_csI (As := [.int u1, .int u3]) (st := [.ref (kad κ 208), .int (σ.1 219 (ix u3))]) C LRX8_124 (m_X8_word (kL κ) (kad κ) (kD κ) (kca κ) C.ado u1 u3  σ _ hp) rfl (by decide) rfl (Nat.le_of_ble_eq_true rfl) (dX8_isAnnotation_p0 20 rfl) (fun r5 s4 hp => ?_)
      obtain ⟨h6, hp⟩ := hp
      refine x_iald C rfl (by decide) h6 (dX8_isAnnotation_p0 21 rfl) ?_
      refine x_icmp_ne (tgt := 41) C (dX8_isAnnotation_p0 22 rfl) (by decide) (fun hc => ?_) (fun hc => ?_)
      · have hp := hp.2 hc
        refine x_iconst (v := 0) C (by decide) (dX8_isAnnotation_p0 25 rfl) ?_
        refine x_istore_n (loc' := [(2, .int 0), (0, .ref (kad κ 204)), (1, .int u1), (3, .int u3)]) C rfl (by decide) rfl (dX8_isAnnotation_p0 26 rfl) ?_
        obtain ⟨v7, ev7⟩ : ∃ z : Int32, z = u3 + 1 := ⟨_, rfl⟩
        have hp := hp v7 ev7
        refine x_iinc (v := v7) (loc' := [(3, .int v7), (2, .int 0), (0, .ref (kad κ 204)), (1, .int u1)]) 3 C rfl (by rw [ev7]; rfl) (by decide) rfl (dX8_isAnnotation_p0 27 rfl) ?_
        refine x_goto (tgt := 4) C (dX8_isAnnotation_p0 28 rfl) (by decide) ?_
        refine x_loc (loc' := [(0, .ref (kad κ 204)), (1, .int u1), (2, .int 0), (3, .int v7)]) [2, 3, 1, 0] rfl ?_
        exact hc4 0 v7 s4 hp
      · have hp := hp.1 hc
        refine x_iconst (v := 1) C (by decide) (dX8_isAnnotation_p0 23 rfl) ?_
        refine x_goto (tgt := 42) C (dX8_isAnnotation_p0 24 rfl) (by decide) ?_
        refine x_istore_n (loc' := [(2, .int 1), (0, .ref (kad κ 204)), (1, .int u1), (3, .int u3)]) C rfl (by decide) rfl (dX8_isAnnotation_p0 26 rfl) ?_
        obtain ⟨v8, ev8⟩ : ∃ z : Int32, z = u3 + 1 := ⟨_, rfl⟩
        have hp := hp v8 ev8
        refine x_iinc (v := v8) (loc' := [(3, .int v8), (2, .int 1), (0, .ref (kad κ 204)), (1, .int u1)]) 3 C rfl (by rw [ev8]; rfl) (by decide) rfl (dX8_isAnnotation_p0 27 rfl) ?_
        refine x_goto (tgt := 4) C (dX8_isAnnotation_p0 28 rfl) (by decide) ?_
        refine x_loc (loc' := [(0, .ref (kad κ 204)), (1, .int u1), (2, .int 1), (3, .int v8)]) [2, 3, 1, 0] rfl ?_
        exact hc4 1 v8 s4 hp
def P_X8_isAnnotation (p1 : Int32) (σ : St) (K : Int32 → St → Prop) : Prop := LpE (fun c s => F_X8_isAnnotation_4 K  c p1 s.1 s.2.1 s.2.2) (1, 1, σ)
set_option maxHeartbeats 4000000 in
set_option maxRecDepth 100000 in
theorem m_X8_isAnnotation (l : Launch) (ad : Nat → Nat) (D : va_G) (ca : Nat → ClassId) (had : adOk ad) (p1 : Int32)  (σ : St) (K : Int32 → St → Prop) (hp : P_X8_isAnnotation p1 σ K) : CtI l ad D ca yX8_isAnnotation cX8_isAnnotation 4 .boolean 1 [.ref (ad 204), .int p1] σ K := CtI_of (av := fun ad => [.ref (ad 204), .int p1]) (plainFor_of_name (by decide)) had (Nat.le_of_ble_eq_true rfl) (fun κ C hret => by
  have C : Ok κ RX8 cX8_isAnnotation 4 1 := C
  show GG κ 0 [(0, .ref (kad κ 204)), (1, .int p1)] [] σ
  unfold P_X8_isAnnotation at hp
  refine x_iconst (v := 1) C (by decide) (dX8_isAnnotation_p0 0 rfl) ?_
  refine x_istore_n (loc' := [(2, .int 1), (0, .ref (kad κ 204)), (1, .int p1)]) C rfl (by decide) rfl (dX8_isAnnotation_p0 1 rfl) ?_
  refine x_iconst (v := 1) C (by decide) (dX8_isAnnotation_p0 2 rfl) ?_
  refine x_istore_n (loc' := [(3, .int 1), (2, .int 1), (0, .ref (kad κ 204)), (1, .int p1)]) C rfl (by decide) rfl (dX8_isAnnotation_p0 3 rfl) ?_
  refine x_loc (loc' := [(0, .ref (kad κ 204)), (1, .int p1), (2, .int 1), (3, .int 1)]) [2, 3, 1, 0] rfl ?_
  exact LpE_GG (S := (Int32 × Int32 × St)) (F := fun c s => F_X8_isAnnotation_4 K  c p1 s.1 s.2.1 s.2.2) (W := fun s => GG κ 4 [(0, .ref (kad κ 204)), (1, .int p1), (2, .int s.1), (3, .int s.2.1)] [] s.2.2) (fun c s hcc hp => F_X8_isAnnotation_4_w C hret p1 s.1 s.2.1  s.2.2  (fun u2 u3 σ h => hcc (u2, u3, σ) h) hp) hp)
def F_X8_ranks_107 (K : St → Prop) (c107 : (Int32 × St) → Prop) (u1 : Int32) (u3 : Int32) (u4 : Int32) (σ : St) : Prop := (u1 < u4 → ((6 ≤ (σ.1 204 21) → (∀ s3 : St, s3 = wI σ 204 21 ((σ.1 204 21) + 0) → (K s3))) ∧ (¬ (6 ≤ (σ.1 204 21)) → (∀ s4 : St, s4 = wI σ 204 21 ((σ.1 204 21) + 1) → (K s4))))) ∧ (¬ (u1 < u4) → vp_in u4 7 ∧ (vp_in ((7 * u3) + u4) 49 ∧ ∀ s7 : St, s7 = wI σ 221 (ix ((7 * u3) + u4)) (σ.1 219 (ix u4)) → ∀ v8 : Int32, v8 = u4 + 1 → c107 (v8, s7)))
set_option maxHeartbeats 4000000 in
set_option maxRecDepth 100000 in
theorem F_X8_ranks_107_w {κ : Kap} {K : St → Prop} {c107 : (Int32 × St) → Prop} (C : Ok κ RX8 cX8_ranks 5 0) (hret : RetV κ cX8_ranks K) (u1 : Int32) (u3 : Int32) (u4 : Int32)     (σ : St) (hc107 : ∀ (u4 : Int32) (σ : St), c107 (u4, σ) → GG κ 107 [(0, .ref (kad κ 204)), (1, .int u1), (3, .int u3), (4, .int u4)] [] σ) (hp : F_X8_ranks_107 K c107 u1 u3 u4 σ) : GG κ 107 [(0, .ref (kad κ 204)), (1, .int u1), (3, .int u3), (4, .int u4)] [] σ := by
  unfold F_X8_ranks_107 at hp
  refine x_iload 3 C rfl (dX8_ranks_p0 63 rfl) ?_
  refine x_iload_n 1 C rfl (dX8_ranks_p1 0 rfl) ?_
  refine x_icmp_gt (tgt := 138) C (dX8_ranks_p1 1 rfl) (by decide) (fun hc => ?_) (fun hc => ?_)
  · have hp := hp.1 hc
    refine x_aload_n 0 C rfl (dX8_ranks_p1 16 rfl) ?_
    refine x_dup C rfl (dX8_ranks_p1 17 rfl) ?_
    refine gX8_21 C rfl (by decide) tw_769 (dX8_ranks_p1 18 rfl) ?_
    refine x_aload_n 0 C rfl (dX8_ranks_p1 19 rfl) ?_
    refine gX8_21 C rfl (by decide) tw_769 (dX8_ranks_p1 20 rfl) ?_
    refine x_bipush (v := 6) C (by decide) (dX8_ranks_p1 21 rfl) ?_
    refine x_icmp_ge (tgt := 156) C (dX8_ranks_p1 22 rfl) (by decide) (fun hc => ?_) (fun hc => ?_)
    · have hp := hp.1 hc
      refine x_iconst (v := 0) C (by decide) (dX8_ranks_p1 25 rfl) ?_
      refine x_iadd C (dX8_ranks_p1 26 rfl) ?_
      refine qX8_21 C rfl (by decide) tw_769 (dX8_ranks_p1 27 rfl) ?_
      refine x_nmS (fun s3 es3 => ?_)
      have hp := hp s3 es3
      exact hret _ _ _ (dX8_ranks_p1 28 rfl) hp
    · have hp := hp.2 hc
      refine x_iconst (v := 1) C (by decide) (dX8_ranks_p1 23 rfl) ?_
      refine x_goto (tgt := 157) C (dX8_ranks_p1 24 rfl) (by decide) ?_
      refine x_iadd C (dX8_ranks_p1 26 rfl) ?_
      refine qX8_21 C rfl (by decide) tw_769 (dX8_ranks_p1 27 rfl) ?_
      refine x_nmS (fun s4 es4 => ?_)
      have hp := hp s4 es4
      exact hret _ _ _ (dX8_ranks_p1 28 rfl) hp
  · have hp := hp.2 hc
    refine x_aload_n 0 C rfl (dX8_ranks_p1 2 rfl) ?_
    refine gX8_23 (b := 221) C rfl (by decide) rfl tw_771 (dX8_ranks_p1 3 rfl) ?_
    refine x_bipush (v := 7) C (by decide) (dX8_ranks_p1 4 rfl) ?_
    refine x_iload_n 2 C rfl (dX8_ranks_p1 5 rfl) ?_
    refine x_imul C (dX8_ranks_p1 6 rfl) ?_
    refine x_iload 3 C rfl (dX8_ranks_p1 7 rfl) ?_
    refine x_iadd C (dX8_ranks_p1 8 rfl) ?_
    refine x_aload_n 0 C rfl (dX8_ranks_p1 9 rfl) ?_
    refine gX8_20 (b := 219) C rfl (by decide) rfl tw_768 (dX8_ranks_p1 10 rfl) ?_
    refine x_iload 3 C rfl (dX8_ranks_p1 11 rfl) ?_
    obtain ⟨h5, hp⟩ := hp
    refine x_iald C rfl (by decide) h5 (dX8_ranks_p1 12 rfl) ?_
    obtain ⟨h6, hp⟩ := hp
    refine x_iast C rfl (by decide) h6 (dX8_ranks_p1 13 rfl) ?_
    refine x_nmS (fun s7 es7 => ?_)
    have hp := hp s7 es7
    obtain ⟨v8, ev8⟩ : ∃ z : Int32, z = u4 + 1 := ⟨_, rfl⟩
    have hp := hp v8 ev8
    refine x_iinc (v := v8) (loc' := [(4, .int v8), (0, .ref (kad κ 204)), (1, .int u1), (3, .int u3)]) 3 C rfl (by rw [ev8]; rfl) (by decide) rfl (dX8_ranks_p1 14 rfl) ?_
    refine x_goto (tgt := 107) C (dX8_ranks_p1 15 rfl) (by decide) ?_
    refine x_loc (loc' := [(0, .ref (kad κ 204)), (1, .int u1), (3, .int u3), (4, .int v8)]) [1, 2, 3, 0] rfl ?_
    exact hc107 v8 s7 hp
def J_X8_ranks_97 (K : St → Prop)  (u1 : Int32) (u2 : Int32) (u3 : Int32) (σ : St) : Prop := vp_in u3 7 ∧ ∀ s2 : St, s2 = wI σ 220 (ix u3) u2 → (LpE (fun c s => F_X8_ranks_107 K  c u1 u3 s.1 s.2) (1, s2))
set_option maxHeartbeats 4000000 in
set_option maxRecDepth 100000 in
theorem J_X8_ranks_97_w {κ : Kap} {K : St → Prop}  (C : Ok κ RX8 cX8_ranks 5 0) (hret : RetV κ cX8_ranks K) (u1 : Int32) (u2 : Int32) (u3 : Int32)     (σ : St)  (hp : J_X8_ranks_97 K  u1 u2 u3 σ) : GG κ 97 [(0, .ref (kad κ 204)), (1, .int u1), (2, .int u2), (3, .int u3)] [] σ := by
  unfold J_X8_ranks_97 at hp
  refine x_aload_n 0 C rfl (dX8_ranks_p0 56 rfl) ?_
  refine gX8_22 (b := 220) C rfl (by decide) rfl tw_770 (dX8_ranks_p0 57 rfl) ?_
  refine x_iload_n 3 C rfl (dX8_ranks_p0 58 rfl) ?_
  refine x_iload_n 2 C rfl (dX8_ranks_p0 59 rfl) ?_
  obtain ⟨h1, hp⟩ := hp
  refine x_iast C rfl (by decide) h1 (dX8_ranks_p0 60 rfl) ?_
  refine x_nmS (fun s2 es2 => ?_)
  have hp := hp s2 es2
  refine x_iconst (v := 1) C (by decide) (dX8_ranks_p0 61 rfl) ?_
  refine x_istore (loc' := [(4, .int 1), (0, .ref (kad κ 204)), (1, .int u1), (2, .int u2), (3, .int u3)]) C (by decide) rfl (dX8_ranks_p0 62 rfl) ?_
  refine x_loc (loc' := [(0, .ref (kad κ 204)), (1, .int u1), (3, .int u3), (4, .int 1)]) [1, 2, 4, 0] rfl ?_
  exact LpE_GG (S := (Int32 × St)) (F := fun c s => F_X8_ranks_107 K  c u1 u3 s.1 s.2) (W := fun s => GG κ 107 [(0, .ref (kad κ 204)), (1, .int u1), (3, .int u3), (4, .int s.1)] [] s.2) (fun c s hcc hp => F_X8_ranks_107_w C hret u1 u3 s.1  s.2  (fun u4 σ h => hcc (u4, σ) h) hp) hp
def F_X8_ranks_52 (K : St → Prop) (c19 : (Int32 × St) → Prop) (c52 : (Int32 × St) → Prop) (u1 : Int32) (u2 : Int32) (u3 : Int32) (u4 : Int32) (σ : St) : Prop := (u1 < u4 → (∀ v13 : Int32, v13 = u3 + (-1) → c19 (v13, σ))) ∧ (¬ (u1 < u4) → (vp_in (((7 * u3) - 7) + u4) 49 ∧ (vp_in ((7 * u3) + u4) 49 ∧ ∀ s16 : St, s16 = wI σ 221 (ix ((7 * u3) + u4)) (σ.1 221 (ix (((7 * u3) - 7) + u4))) → ∀ v17 : Int32, v17 = u4 + 1 → c52 (v17, s16))))
set_option maxHeartbeats 4000000 in
set_option maxRecDepth 100000 in
theorem F_X8_ranks_52_w {κ : Kap} {K : St → Prop} {c19 : (Int32 × St) → Prop} {c52 : (Int32 × St) → Prop} (C : Ok κ RX8 cX8_ranks 5 0) (hret : RetV κ cX8_ranks K) (u1 : Int32) (u2 : Int32) (u3 : Int32) (u4 : Int32)      (σ : St) (hc19 : ∀ (u3 : Int32) (σ : St), c19 (u3, σ) → GG κ 19 [(0, .ref (kad κ 204)), (1, .int u1), (2, .int u2), (3, .int u3)] [] σ) (hc52 : ∀ (u4 : Int32) (σ : St), c52 (u4, σ) → GG κ 52 [(0, .ref (kad κ 204)), (1, .int u1), (2, .int u2), (3, .int u3), (4, .int u4)] [] σ) (hp : F_X8_ranks_52 K c19 c52 u1 u2 u3 u4 σ) : GG κ 52 [(0, .ref (kad κ 204)), (1, .int u1), (2, .int u2), (3, .int u3), (4, .int u4)] [] σ := by
  unfold F_X8_ranks_52 at hp
  refine x_iload 4 C rfl (dX8_ranks_p0 31 rfl) ?_
  refine x_iload_n 1 C rfl (dX8_ranks_p0 32 rfl) ?_
  refine x_icmp_gt (tgt := 91) C (dX8_ranks_p0 33 rfl) (by decide) (fun hc => ?_) (fun hc => ?_)
  · have hp := hp.1 hc
    obtain ⟨v13, ev13⟩ : ∃ z : Int32, z = u3 + (-1) := ⟨_, rfl⟩
    have hp := hp v13 ev13
    refine x_iinc (v := v13) (loc' := [(3, .int v13), (0, .ref (kad κ 204)), (1, .int u1), (2, .int u2), (4, .int u4)]) 3 C rfl (by rw [ev13]; rfl) (by decide) rfl (dX8_ranks_p0 54 rfl) ?_
    refine x_goto (tgt := 19) C (dX8_ranks_p0 55 rfl) (by decide) ?_
    refine x_loc (loc' := [(0, .ref (kad κ 204)), (1, .int u1), (2, .int u2), (3, .int v13)]) [1, 2, 3, 0] rfl ?_
    exact hc19 v13 σ hp
  · have hp := hp.2 hc
    refine x_aload_n 0 C rfl (dX8_ranks_p0 34 rfl) ?_
    refine gX8_23 (b := 221) C rfl (by decide) rfl tw_771 (dX8_ranks_p0 35 rfl) ?_
    refine x_bipush (v := 7) C (by decide) (dX8_ranks_p0 36 rfl) ?_
    refine x_iload_n 3 C rfl (dX8_ranks_p0 37 rfl) ?_
    refine x_imul C (dX8_ranks_p0 38 rfl) ?_
    refine x_iload 4 C rfl (dX8_ranks_p0 39 rfl) ?_
    refine x_iadd C (dX8_ranks_p0 40 rfl) ?_
    refine x_aload_n 0 C rfl (dX8_ranks_p0 41 rfl) ?_
    refine gX8_23 (b := 221) C rfl (by decide) rfl tw_771 (dX8_ranks_p0 42 rfl) ?_
    refine x_bipush (v := 7) C (by decide) (dX8_ranks_p0 43 rfl) ?_
    refine x_iload_n 3 C rfl (dX8_ranks_p0 44 rfl) ?_
    refine x_imul C (dX8_ranks_p0 45 rfl) ?_
    refine x_bipush (v := 7) C (by decide) (dX8_ranks_p0 46 rfl) ?_
    refine x_isub C (dX8_ranks_p0 47 rfl) ?_
    refine x_iload 4 C rfl (dX8_ranks_p0 48 rfl) ?_
    refine x_iadd C (dX8_ranks_p0 49 rfl) ?_
    obtain ⟨h14, hp⟩ := hp
    refine x_iald C rfl (by decide) h14 (dX8_ranks_p0 50 rfl) ?_
    obtain ⟨h15, hp⟩ := hp
    refine x_iast C rfl (by decide) h15 (dX8_ranks_p0 51 rfl) ?_
    refine x_nmS (fun s16 es16 => ?_)
    have hp := hp s16 es16
    obtain ⟨v17, ev17⟩ : ∃ z : Int32, z = u4 + 1 := ⟨_, rfl⟩
    have hp := hp v17 ev17
    refine x_iinc (v := v17) (loc' := [(4, .int v17), (0, .ref (kad κ 204)), (1, .int u1), (2, .int u2), (3, .int u3)]) 4 C rfl (by rw [ev17]; rfl) (by decide) rfl (dX8_ranks_p0 52 rfl) ?_
    refine x_goto (tgt := 52) C (dX8_ranks_p0 53 rfl) (by decide) ?_
    refine x_loc (loc' := [(0, .ref (kad κ 204)), (1, .int u1), (2, .int u2), (3, .int u3), (4, .int v17)]) [1, 2, 3, 4, 0] rfl ?_
    exact hc52 v17 s16 hp
def F_X8_ranks_19 (K : St → Prop) (c19 : (Int32 × St) → Prop) (u1 : Int32) (u2 : Int32) (u3 : Int32) (σ : St) : Prop := (u3 ≤ 0 → (J_X8_ranks_97 K  u1 u2 u3 σ)) ∧ (¬ (u3 ≤ 0) → (vp_in (u3 - 1) 7 ∧ ((u2 ≤ (σ.1 220 (ix (u3 - 1))) → (J_X8_ranks_97 K  u1 u2 u3 σ)) ∧ (¬ (u2 ≤ (σ.1 220 (ix (u3 - 1)))) → (vp_in (u3 - 1) 7 ∧ (vp_in u3 7 ∧ ∀ s12 : St, s12 = wI σ 220 (ix u3) (σ.1 220 (ix (u3 - 1))) → (LpE (fun c s => F_X8_ranks_52 K c19 c u1 u2 u3 s.1 s.2) (1, s12))))))))
set_option maxHeartbeats 4000000 in
set_option maxRecDepth 100000 in
theorem F_X8_ranks_19_w {κ : Kap} {K : St → Prop} {c19 : (Int32 × St) → Prop} (C : Ok κ RX8 cX8_ranks 5 0) (hret : RetV κ cX8_ranks K) (u1 : Int32) (u2 : Int32) (u3 : Int32)     (σ : St) (hc19 : ∀ (u3 : Int32) (σ : St), c19 (u3, σ) → GG κ 19 [(0, .ref (kad κ 204)), (1, .int u1), (2, .int u2), (3, .int u3)] [] σ) (hp : F_X8_ranks_19 K c19 u1 u2 u3 σ) : GG κ 19 [(0, .ref (kad κ 204)), (1, .int u1), (2, .int u2), (3, .int u3)] [] σ := by
  unfold F_X8_ranks_19 at hp
  refine x_iload_n 3 C rfl (dX8_ranks_p0 9 rfl) ?_
  refine x_if_le (tgt := 97) C (dX8_ranks_p0 10 rfl) (by decide) (fun hc => ?_) (fun hc => ?_)
  · have hp := hp.1 hc
    exact J_X8_ranks_97_w C hret u1 u2 u3  σ  hp
  · have hp := hp.2 hc
    refine x_aload_n 0 C rfl (dX8_ranks_p0 11 rfl) ?_
    refine gX8_22 (b := 220) C rfl (by decide) rfl tw_770 (dX8_ranks_p0 12 rfl) ?_
    refine x_iload_n 3 C rfl (dX8_ranks_p0 13 rfl) ?_
    refine x_iconst (v := 1) C (by decide) (dX8_ranks_p0 14 rfl) ?_
    refine x_isub C (dX8_ranks_p0 15 rfl) ?_
    obtain ⟨h9, hp⟩ := hp
    refine x_iald C rfl (by decide) h9 (dX8_ranks_p0 16 rfl) ?_
    refine x_iload_n 2 C rfl (dX8_ranks_p0 17 rfl) ?_
    refine x_icmp_ge (tgt := 97) C (dX8_ranks_p0 18 rfl) (by decide) (fun hc => ?_) (fun hc => ?_)
    · have hp := hp.1 hc
      exact J_X8_ranks_97_w C hret u1 u2 u3  σ  hp
    · have hp := hp.2 hc
      refine x_aload_n 0 C rfl (dX8_ranks_p0 19 rfl) ?_
      refine gX8_22 (b := 220) C rfl (by decide) rfl tw_770 (dX8_ranks_p0 20 rfl) ?_
      refine x_iload_n 3 C rfl (dX8_ranks_p0 21 rfl) ?_
      refine x_aload_n 0 C rfl (dX8_ranks_p0 22 rfl) ?_
      refine gX8_22 (b := 220) C rfl (by decide) rfl tw_770 (dX8_ranks_p0 23 rfl) ?_
      refine x_iload_n 3 C rfl (dX8_ranks_p0 24 rfl) ?_
      refine x_iconst (v := 1) C (by decide) (dX8_ranks_p0 25 rfl) ?_
      refine x_isub C (dX8_ranks_p0 26 rfl) ?_
      obtain ⟨h10, hp⟩ := hp
      refine x_iald C rfl (by decide) h10 (dX8_ranks_p0 27 rfl) ?_
      obtain ⟨h11, hp⟩ := hp
      refine x_iast C rfl (by decide) h11 (dX8_ranks_p0 28 rfl) ?_
      refine x_nmS (fun s12 es12 => ?_)
      have hp := hp s12 es12
      refine x_iconst (v := 1) C (by decide) (dX8_ranks_p0 29 rfl) ?_
      refine x_istore (loc' := [(4, .int 1), (0, .ref (kad κ 204)), (1, .int u1), (2, .int u2), (3, .int u3)]) C (by decide) rfl (dX8_ranks_p0 30 rfl) ?_
      refine x_loc (loc' := [(0, .ref (kad κ 204)), (1, .int u1), (2, .int u2), (3, .int u3), (4, .int 1)]) [1, 2, 3, 4, 0] rfl ?_
      exact LpE_GG (S := (Int32 × St)) (F := fun c s => F_X8_ranks_52 K c19 c u1 u2 u3 s.1 s.2) (W := fun s => GG κ 52 [(0, .ref (kad κ 204)), (1, .int u1), (2, .int u2), (3, .int u3), (4, .int s.1)] [] s.2) (fun c s hcc hp => F_X8_ranks_52_w C hret u1 u2 u3 s.1  s.2 hc19 (fun u4 σ h => hcc (u4, σ) h) hp) hp
def P_X8_ranks (p1 : Int32) (p2 : Int32) (σ : St) (K : St → Prop) : Prop := (6 ≤ (σ.1 204 21) → (LpE (fun c s => F_X8_ranks_19 K  c p1 p2 s.1 s.2) (6, σ))) ∧ (¬ (6 ≤ (σ.1 204 21)) → (∀ v18 : Int32, v18 = (σ.1 204 21) → (LpE (fun c s => F_X8_ranks_19 K  c p1 p2 s.1 s.2) (v18, σ))))
set_option maxHeartbeats 4000000 in
set_option maxRecDepth 100000 in
theorem m_X8_ranks (l : Launch) (ad : Nat → Nat) (D : va_G) (ca : Nat → ClassId) (had : adOk ad) (p1 : Int32) (p2 : Int32)  (σ : St) (K : St → Prop) (hp : P_X8_ranks p1 p2 σ K) : CtV l ad D ca yX8_ranks cX8_ranks 5 0 [.ref (ad 204), .int p1, .int p2] σ K := CtV_of (av := fun ad => [.ref (ad 204), .int p1, .int p2]) (plainFor_of_name (by decide)) had (Nat.le_of_ble_eq_true rfl) (fun κ C hret => by
  have C : Ok κ RX8 cX8_ranks 5 0 := C
  show GG κ 0 [(0, .ref (kad κ 204)), (1, .int p1), (2, .int p2)] [] σ
  unfold P_X8_ranks at hp
  refine x_aload_n 0 C rfl (dX8_ranks_p0 0 rfl) ?_
  refine gX8_21 C rfl (by decide) tw_769 (dX8_ranks_p0 1 rfl) ?_
  refine x_bipush (v := 6) C (by decide) (dX8_ranks_p0 2 rfl) ?_
  refine x_icmp_ge (tgt := 16) C (dX8_ranks_p0 3 rfl) (by decide) (fun hc => ?_) (fun hc => ?_)
  · have hp := hp.1 hc
    refine x_bipush (v := 6) C (by decide) (dX8_ranks_p0 7 rfl) ?_
    refine x_istore_n (loc' := [(3, .int 6), (0, .ref (kad κ 204)), (1, .int p1), (2, .int p2)]) C rfl (by decide) rfl (dX8_ranks_p0 8 rfl) ?_
    refine x_loc (loc' := [(0, .ref (kad κ 204)), (1, .int p1), (2, .int p2), (3, .int 6)]) [1, 2, 3, 0] rfl ?_
    exact LpE_GG (S := (Int32 × St)) (F := fun c s => F_X8_ranks_19 K  c p1 p2 s.1 s.2) (W := fun s => GG κ 19 [(0, .ref (kad κ 204)), (1, .int p1), (2, .int p2), (3, .int s.1)] [] s.2) (fun c s hcc hp => F_X8_ranks_19_w C hret p1 p2 s.1  s.2  (fun u3 σ h => hcc (u3, σ) h) hp) hp
  · have hp := hp.2 hc
    refine x_aload_n 0 C rfl (dX8_ranks_p0 4 rfl) ?_
    refine gX8_21 C rfl (by decide) tw_769 (dX8_ranks_p0 5 rfl) ?_
    refine x_goto (tgt := 18) C (dX8_ranks_p0 6 rfl) (by decide) ?_
    refine x_topI (fun v18 ev18 => ?_)
    have hp := hp v18 ev18
    refine x_istore_n (loc' := [(3, .int v18), (0, .ref (kad κ 204)), (1, .int p1), (2, .int p2)]) C rfl (by decide) rfl (dX8_ranks_p0 8 rfl) ?_
    refine x_loc (loc' := [(0, .ref (kad κ 204)), (1, .int p1), (2, .int p2), (3, .int v18)]) [1, 2, 3, 0] rfl ?_
    exact LpE_GG (S := (Int32 × St)) (F := fun c s => F_X8_ranks_19 K  c p1 p2 s.1 s.2) (W := fun s => GG κ 19 [(0, .ref (kad κ 204)), (1, .int p1), (2, .int p2), (3, .int s.1)] [] s.2) (fun c s hcc hp => F_X8_ranks_19_w C hret p1 p2 s.1  s.2  (fun u3 σ h => hcc (u3, σ) h) hp) hp)
def J_X8_meets_172 (K : St → Prop)  (u2 : Int32) (u3 : Int32) (t1 : Int32) (σ : St) : Prop := ∀ s7 : St, s7 = wI σ 204 28 t1 → P_X8_ranks u2 u3 s7 (fun s8 => K s8)
set_option maxHeartbeats 4000000 in
set_option maxRecDepth 100000 in
theorem J_X8_meets_172_w {κ : Kap} {K : St → Prop}  (C : Ok κ RX8 cX8_meets 8 2) (hret : RetV κ cX8_meets K) (u2 : Int32) (u3 : Int32) (t1 : Int32)      (σ : St)  (hp : J_X8_meets_172 K  u2 u3 t1 σ) : GG κ 172 [(0, .ref (kad κ 204)), (2, .int u2), (3, .int u3)] [.int t1, .ref (kad κ 204)] σ := by
  unfold J_X8_meets_172 at hp
  refine qX8_28 C rfl (by decide) tw_776 (dX8_meets_p1 34 rfl) ?_
  refine x_nmS (fun s7 es7 => ?_)
  have hp := hp s7 es7
  refine x_aload_n 0 C rfl (dX8_meets_p1 35 rfl) ?_
  refine x_iload_n 1 C rfl (dX8_meets_p1 36 rfl) ?_
  refine x_iload_n 2 C rfl (dX8_meets_p1 37 rfl) ?_
  refine x_cvV (As := [.int u2, .int u3]) (st := []) C LRX8_204 (ci := 8) rfl rfl (by decide) (by decide) (m_X8_ranks (kL κ) (kad κ) (kD κ) (kca κ) C.ado u2 u3  s7 _ hp) rfl (by decide) rfl (Nat.le_of_ble_eq_true rfl) (dX8_meets_p1 38 rfl) (fun s8 hp => ?_)
  exact hret _ _ _ (dX8_meets_p1 39 rfl) hp
def J_X8_meets_168 (K : St → Prop)  (u2 : Int32) (u3 : Int32) (σ : St) : Prop := J_X8_meets_172 K  u2 u3 (σ.1 204 28) σ
set_option maxHeartbeats 4000000 in
set_option maxRecDepth 100000 in
theorem J_X8_meets_168_w {κ : Kap} {K : St → Prop}  (C : Ok κ RX8 cX8_meets 8 2) (hret : RetV κ cX8_meets K) (u2 : Int32) (u3 : Int32)     (σ : St)  (hp : J_X8_meets_168 K  u2 u3 σ) : GG κ 168 [(0, .ref (kad κ 204)), (2, .int u2), (3, .int u3)] [.ref (kad κ 204)] σ := by
  unfold J_X8_meets_168 at hp
  refine x_aload_n 0 C rfl (dX8_meets_p1 32 rfl) ?_
  refine gX8_28 C rfl (by decide) tw_776 (dX8_meets_p1 33 rfl) ?_
  exact J_X8_meets_172_w C hret u2 u3 (σ.1 204 28)  σ  hp
def J_X8_meets_107 (K : St → Prop) (c58 : (Int32 × St) → Prop) (u1 : Int32) (u2 : Int32) (u3 : Int32) (u4 : Int64) (u6 : Int32) (u7 : Int32) (t1 : Int32) (t2 : Int32) (σ : St) : Prop := vp_in t1 49 ∧ ∀ s16 : St, s16 = wI σ 222 (ix t1) t2 → vp_in u7 49 ∧ (vp_in u7 49 ∧ ∀ s19 : St, s19 = wL s16 223 (ix u7) ((s16.2.1 223 (ix u7)) + u4) → ∀ v20 : Int32, v20 = u6 + 1 → c58 (v20, s19))
set_option maxHeartbeats 4000000 in
set_option maxRecDepth 100000 in
theorem J_X8_meets_107_w {κ : Kap} {K : St → Prop} {c58 : (Int32 × St) → Prop} (C : Ok κ RX8 cX8_meets 8 2) (hret : RetV κ cX8_meets K) (u1 : Int32) (u2 : Int32) (u3 : Int32) (u4 : Int64) (u6 : Int32) (u7 : Int32) (t1 : Int32) (t2 : Int32)           (σ : St) (hc58 : ∀ (u6 : Int32) (σ : St), c58 (u6, σ) → GG κ 58 [(0, .ref (kad κ 204)), (1, .int u1), (2, .int u2), (3, .int u3), (4, .long u4), (6, .int u6)] [] σ) (hp : J_X8_meets_107 K c58 u1 u2 u3 u4 u6 u7 t1 t2 σ) : GG κ 107 [(0, .ref (kad κ 204)), (1, .int u1), (2, .int u2), (3, .int u3), (4, .long u4), (6, .int u6), (7, .int u7)] [.int t2, .int t1, .ref (kad κ 222)] σ := by
  unfold J_X8_meets_107 at hp
  obtain ⟨h15, hp⟩ := hp
  refine x_iast C rfl (by decide) h15 (dX8_meets_p0 62 rfl) ?_
  refine x_nmS (fun s16 es16 => ?_)
  have hp := hp s16 es16
  refine x_aload_n 0 C rfl (dX8_meets_p0 63 rfl) ?_
  refine gX8_27 (b := 223) C rfl (by decide) rfl tw_775 (dX8_meets_p1 0 rfl) ?_
  refine x_iload 6 C rfl (dX8_meets_p1 1 rfl) ?_
  refine x_dup2 C rfl rfl (dX8_meets_p1 2 rfl) ?_
  obtain ⟨h17, hp⟩ := hp
  refine x_lald C rfl (by decide) h17 (dX8_meets_p1 3 rfl) ?_
  refine x_lload 4 C rfl (dX8_meets_p1 4 rfl) ?_
  refine x_ladd C (dX8_meets_p1 5 rfl) ?_
  obtain ⟨h18, hp⟩ := hp
  refine x_last C rfl (by decide) h18 (dX8_meets_p1 6 rfl) ?_
  refine x_nmS (fun s19 es19 => ?_)
  have hp := hp s19 es19
  obtain ⟨v20, ev20⟩ : ∃ z : Int32, z = u6 + 1 := ⟨_, rfl⟩
  have hp := hp v20 ev20
  refine x_iinc (v := v20) (loc' := [(6, .int v20), (0, .ref (kad κ 204)), (1, .int u1), (2, .int u2), (3, .int u3), (4, .long u4), (7, .int u7)]) 5 C rfl (by rw [ev20]; rfl) (by decide) rfl (dX8_meets_p1 7 rfl) ?_
  refine x_goto (tgt := 58) C (dX8_meets_p1 8 rfl) (by decide) ?_
  refine x_loc (loc' := [(0, .ref (kad κ 204)), (1, .int u1), (2, .int u2), (3, .int u3), (4, .long u4), (6, .int v20)]) [1, 2, 3, 4, 5, 0] rfl ?_
  exact hc58 v20 s19 hp
def F_X8_meets_58 (K : St → Prop) (c58 : (Int32 × St) → Prop) (u1 : Int32) (u2 : Int32) (u3 : Int32) (u4 : Int64) (u6 : Int32) (σ : St) : Prop := (u2 < u6 → (∀ s5 : St, s5 = wI σ 204 24 ((σ.1 204 24) + 1) → (∀ s6 : St, s6 = wL s5 204 25 ((s5.2.1 204 25) + u4) → ((u3 ≤ (s6.1 204 28) → (J_X8_meets_168 K  u2 u3 s6)) ∧ (¬ (u3 ≤ (s6.1 204 28)) → P_X8_isAnnotation u1 s6 (fun r10 s9 => (r10 = 0 → (J_X8_meets_172 K  u2 u3 u3 s9)) ∧ (¬ (r10 = 0) → (J_X8_meets_168 K  u2 u3 s9)))))))) ∧ (¬ (u2 < u6) → vp_in u6 7 ∧ (∀ v12 : Int32, v12 = ((7 * (σ.1 219 (ix u6))) + u6) → vp_in v12 49 ∧ ((u3 ≤ (σ.1 222 (ix v12)) → vp_in v12 49 ∧ (J_X8_meets_107 K c58 u1 u2 u3 u4 u6 v12 v12 (σ.1 222 (ix v12)) σ)) ∧ (¬ (u3 ≤ (σ.1 222 (ix v12))) → (J_X8_meets_107 K c58 u1 u2 u3 u4 u6 v12 v12 u3 σ)))))
set_option maxHeartbeats 4000000 in
set_option maxRecDepth 100000 in
theorem F_X8_meets_58_w {κ : Kap} {K : St → Prop} {c58 : (Int32 × St) → Prop} (C : Ok κ RX8 cX8_meets 8 2) (hret : RetV κ cX8_meets K) (u1 : Int32) (u2 : Int32) (u3 : Int32) (u4 : Int64) (u6 : Int32)       (σ : St) (hc58 : ∀ (u6 : Int32) (σ : St), c58 (u6, σ) → GG κ 58 [(0, .ref (kad κ 204)), (1, .int u1), (2, .int u2), (3, .int u3), (4, .long u4), (6, .int u6)] [] σ) (hp : F_X8_meets_58 K c58 u1 u2 u3 u4 u6 σ) : GG κ 58 [(0, .ref (kad κ 204)), (1, .int u1), (2, .int u2), (3, .int u3), (4, .long u4), (6, .int u6)] [] σ := by
  unfold F_X8_meets_58 at hp
  refine x_iload 5 C rfl (dX8_meets_p0 35 rfl) ?_
  refine x_iload_n 2 C rfl (dX8_meets_p0 36 rfl) ?_
  refine x_icmp_gt (tgt := 126) C (dX8_meets_p0 37 rfl) (by decide) (fun hc => ?_) (fun hc => ?_)
  · have hp := hp.1 hc
    refine x_aload_n 0 C rfl (dX8_meets_p1 9 rfl) ?_
    refine x_dup C rfl (dX8_meets_p1 10 rfl) ?_
    refine gX8_24 C rfl (by decide) tw_772 (dX8_meets_p1 11 rfl) ?_
    refine x_iconst (v := 1) C (by decide) (dX8_meets_p1 12 rfl) ?_
    refine x_iadd C (dX8_meets_p1 13 rfl) ?_
    refine qX8_24 C rfl (by decide) tw_772 (dX8_meets_p1 14 rfl) ?_
    refine x_nmS (fun s5 es5 => ?_)
    have hp := hp s5 es5
    refine x_aload_n 0 C rfl (dX8_meets_p1 15 rfl) ?_
    refine x_dup C rfl (dX8_meets_p1 16 rfl) ?_
    refine gX8_25 C rfl (by decide) tw_773 (dX8_meets_p1 17 rfl) ?_
    refine x_lload 4 C rfl (dX8_meets_p1 18 rfl) ?_
    refine x_ladd C (dX8_meets_p1 19 rfl) ?_
    refine qX8_25 C rfl (by decide) tw_773 (dX8_meets_p1 20 rfl) ?_
    refine x_nmS (fun s6 es6 => ?_)
    have hp := hp s6 es6
    refine x_aload_n 0 C rfl (dX8_meets_p1 21 rfl) ?_
    refine x_iload_n 3 C rfl (dX8_meets_p1 22 rfl) ?_
    refine x_aload_n 0 C rfl (dX8_meets_p1 23 rfl) ?_
    refine gX8_28 C rfl (by decide) tw_776 (dX8_meets_p1 24 rfl) ?_
    refine x_icmp_le (tgt := 168) C (dX8_meets_p1 25 rfl) (by decide) (fun hc => ?_) (fun hc => ?_)
    · have hp := hp.1 hc
      refine x_loc (loc' := [(0, .ref (kad κ 204)), (2, .int u2), (3, .int u3)]) [0, 2, 3] rfl ?_
      exact J_X8_meets_168_w C hret u2 u3  s6  hp
    · have hp := hp.2 hc
      refine x_aload_n 0 C rfl (dX8_meets_p1 26 rfl) ?_
      refine x_iload_n 1 C rfl (dX8_meets_p1 27 rfl) ?_
      refine x_cvI (As := [.int u1]) (st := [.ref (kad κ 204)]) C LRX8_201 (ci := 8) rfl rfl (by decide) (by decide) (m_X8_isAnnotation (kL κ) (kad κ) (kD κ) (kca κ) C.ado u1  s6 _ hp) rfl (by decide) rfl (Nat.le_of_ble_eq_true rfl) (dX8_meets_p1 28 rfl) (fun r10 s9 hp => ?_)
      refine x_if_ne (tgt := 168) C (dX8_meets_p1 29 rfl) (by decide) (fun hc => ?_) (fun hc => ?_)
      · have hp := hp.2 hc
        refine x_loc (loc' := [(0, .ref (kad κ 204)), (2, .int u2), (3, .int u3)]) [0, 2, 3] rfl ?_
        exact J_X8_meets_168_w C hret u2 u3  s9  hp
      · have hp := hp.1 hc
        refine x_iload_n 3 C rfl (dX8_meets_p1 30 rfl) ?_
        refine x_goto (tgt := 172) C (dX8_meets_p1 31 rfl) (by decide) ?_
        refine x_loc (loc' := [(0, .ref (kad κ 204)), (2, .int u2), (3, .int u3)]) [0, 2, 3] rfl ?_
        exact J_X8_meets_172_w C hret u2 u3 u3  s9  hp
  · have hp := hp.2 hc
    refine x_bipush (v := 7) C (by decide) (dX8_meets_p0 38 rfl) ?_
    refine x_aload_n 0 C rfl (dX8_meets_p0 39 rfl) ?_
    refine gX8_20 (b := 219) C rfl (by decide) rfl tw_768 (dX8_meets_p0 40 rfl) ?_
    refine x_iload 5 C rfl (dX8_meets_p0 41 rfl) ?_
    obtain ⟨h11, hp⟩ := hp
    refine x_iald C rfl (by decide) h11 (dX8_meets_p0 42 rfl) ?_
    refine x_imul C (dX8_meets_p0 43 rfl) ?_
    refine x_iload 5 C rfl (dX8_meets_p0 44 rfl) ?_
    refine x_iadd C (dX8_meets_p0 45 rfl) ?_
    refine x_topI (fun v12 ev12 => ?_)
    have hp := hp v12 ev12
    refine x_istore (loc' := [(7, .int v12), (0, .ref (kad κ 204)), (1, .int u1), (2, .int u2), (3, .int u3), (4, .long u4), (6, .int u6)]) C (by decide) rfl (dX8_meets_p0 46 rfl) ?_
    refine x_aload_n 1 C rfl (dX8_meets_p0 47 rfl) ?_
    refine gX8_26 (b := 222) C rfl (by decide) rfl tw_774 (dX8_meets_p0 48 rfl) ?_
    refine x_iload 0 C rfl (dX8_meets_p0 49 rfl) ?_
    refine x_iload_n 4 C rfl (dX8_meets_p0 50 rfl) ?_
    refine x_aload_n 1 C rfl (dX8_meets_p0 51 rfl) ?_
    refine gX8_26 (b := 222) C rfl (by decide) rfl tw_774 (dX8_meets_p0 52 rfl) ?_
    refine x_iload 0 C rfl (dX8_meets_p0 53 rfl) ?_
    obtain ⟨h13, hp⟩ := hp
    refine x_iald C rfl (by decide) h13 (dX8_meets_p0 54 rfl) ?_
    refine x_icmp_le (tgt := 100) C (dX8_meets_p0 55 rfl) (by decide) (fun hc => ?_) (fun hc => ?_)
    · have hp := hp.1 hc
      refine x_aload_n 1 C rfl (dX8_meets_p0 58 rfl) ?_
      refine gX8_26 (b := 222) C rfl (by decide) rfl tw_774 (dX8_meets_p0 59 rfl) ?_
      refine x_iload 0 C rfl (dX8_meets_p0 60 rfl) ?_
      obtain ⟨h14, hp⟩ := hp
      refine x_iald C rfl (by decide) h14 (dX8_meets_p0 61 rfl) ?_
      refine x_loc (loc' := [(0, .ref (kad κ 204)), (1, .int u1), (2, .int u2), (3, .int u3), (4, .long u4), (6, .int u6), (7, .int v12)]) [1, 2, 3, 4, 5, 6, 0] rfl ?_
      exact J_X8_meets_107_w C hret u1 u2 u3 u4 u6 v12 v12 (σ.1 222 (ix v12))  σ hc58 hp
    · have hp := hp.2 hc
      refine x_iload_n 4 C rfl (dX8_meets_p0 56 rfl) ?_
      refine x_goto (tgt := 107) C (dX8_meets_p0 57 rfl) (by decide) ?_
      refine x_loc (loc' := [(0, .ref (kad κ 204)), (1, .int u1), (2, .int u2), (3, .int u3), (4, .long u4), (6, .int u6), (7, .int v12)]) [1, 2, 3, 4, 5, 6, 0] rfl ?_
      exact J_X8_meets_107_w C hret u1 u2 u3 u4 u6 v12 v12 u3  σ hc58 hp
def F_X8_meets_19 (K : St → Prop) (c19 : (Int64 × Int32 × St) → Prop) (u1 : Int32) (u2 : Int32) (u3 : Int32) (u4 : Int64) (u6 : Int32) (σ : St) : Prop := (u2 < u6 → (LpE (fun c s => F_X8_meets_58 K  c u1 u2 u3 u4 s.1 s.2) (1, σ))) ∧ (¬ (u2 < u6) → vp_in u6 7 ∧ (vp_in ((7 * (σ.1 219 (ix u6))) + u6) 49 ∧ (∀ v23 : Int64, v23 = (u4 * (Int32.toInt64 (σ.1 218 (ix ((7 * (σ.1 219 (ix u6))) + u6))))) → ∀ v24 : Int32, v24 = u6 + 1 → c19 (v23, v24, σ))))
set_option maxHeartbeats 4000000 in
set_option maxRecDepth 100000 in
theorem F_X8_meets_19_w {κ : Kap} {K : St → Prop} {c19 : (Int64 × Int32 × St) → Prop} (C : Ok κ RX8 cX8_meets 8 2) (hret : RetV κ cX8_meets K) (u1 : Int32) (u2 : Int32) (u3 : Int32) (u4 : Int64) (u6 : Int32)       (σ : St) (hc19 : ∀ (u4 : Int64) (u6 : Int32) (σ : St), c19 (u4, u6, σ) → GG κ 19 [(0, .ref (kad κ 204)), (1, .int u1), (2, .int u2), (3, .int u3), (4, .long u4), (6, .int u6)] [] σ) (hp : F_X8_meets_19 K c19 u1 u2 u3 u4 u6 σ) : GG κ 19 [(0, .ref (kad κ 204)), (1, .int u1), (2, .int u2), (3, .int u3), (4, .long u4), (6, .int u6)] [] σ := by
  unfold F_X8_meets_19 at hp
  refine x_iload 5 C rfl (dX8_meets_p0 13 rfl) ?_
  refine x_iload_n 2 C rfl (dX8_meets_p0 14 rfl) ?_
  refine x_icmp_gt (tgt := 55) C (dX8_meets_p0 15 rfl) (by decide) (fun hc => ?_) (fun hc => ?_)
  · have hp := hp.1 hc
    refine x_iconst (v := 1) C (by decide) (dX8_meets_p0 33 rfl) ?_
    refine x_istore (loc' := [(6, .int 1), (0, .ref (kad κ 204)), (1, .int u1), (2, .int u2), (3, .int u3), (4, .long u4)]) C (by decide) rfl (dX8_meets_p0 34 rfl) ?_
    refine x_loc (loc' := [(0, .ref (kad κ 204)), (1, .int u1), (2, .int u2), (3, .int u3), (4, .long u4), (6, .int 1)]) [1, 2, 3, 4, 5, 0] rfl ?_
    exact LpE_GG (S := (Int32 × St)) (F := fun c s => F_X8_meets_58 K  c u1 u2 u3 u4 s.1 s.2) (W := fun s => GG κ 58 [(0, .ref (kad κ 204)), (1, .int u1), (2, .int u2), (3, .int u3), (4, .long u4), (6, .int s.1)] [] s.2) (fun c s hcc hp => F_X8_meets_58_w C hret u1 u2 u3 u4 s.1  s.2  (fun u6 σ h => hcc (u6, σ) h) hp) hp
  · have hp := hp.2 hc
    refine x_lload 4 C rfl (dX8_meets_p0 16 rfl) ?_
    refine x_aload_n 0 C rfl (dX8_meets_p0 17 rfl) ?_
    refine gX8_19 (b := 218) C rfl (by decide) rfl tw_767 (dX8_meets_p0 18 rfl) ?_
    refine x_bipush (v := 7) C (by decide) (dX8_meets_p0 19 rfl) ?_
    refine x_aload_n 0 C rfl (dX8_meets_p0 20 rfl) ?_
    refine gX8_20 (b := 219) C rfl (by decide) rfl tw_768 (dX8_meets_p0 21 rfl) ?_
    refine x_iload 5 C rfl (dX8_meets_p0 22 rfl) ?_
    obtain ⟨h21, hp⟩ := hp
    refine x_iald C rfl (by decide) h21 (dX8_meets_p0 23 rfl) ?_
    refine x_imul C (dX8_meets_p0 24 rfl) ?_
    refine x_iload 5 C rfl (dX8_meets_p0 25 rfl) ?_
    refine x_iadd C (dX8_meets_p0 26 rfl) ?_
    obtain ⟨h22, hp⟩ := hp
    refine x_iald C rfl (by decide) h22 (dX8_meets_p0 27 rfl) ?_
    refine x_i2l C (dX8_meets_p0 28 rfl) ?_
    refine x_lmul C (dX8_meets_p0 29 rfl) ?_
    refine x_topL (fun v23 ev23 => ?_)
    have hp := hp v23 ev23
    refine x_lstore (loc' := [(4, .long v23), (0, .ref (kad κ 204)), (1, .int u1), (2, .int u2), (3, .int u3), (6, .int u6)]) C (by decide) rfl (dX8_meets_p0 30 rfl) ?_
    obtain ⟨v24, ev24⟩ : ∃ z : Int32, z = u6 + 1 := ⟨_, rfl⟩
    have hp := hp v24 ev24
    refine x_iinc (v := v24) (loc' := [(6, .int v24), (4, .long v23), (0, .ref (kad κ 204)), (1, .int u1), (2, .int u2), (3, .int u3)]) 5 C rfl (by rw [ev24]; rfl) (by decide) rfl (dX8_meets_p0 31 rfl) ?_
    refine x_goto (tgt := 19) C (dX8_meets_p0 32 rfl) (by decide) ?_
    refine x_loc (loc' := [(0, .ref (kad κ 204)), (1, .int u1), (2, .int u2), (3, .int u3), (4, .long v23), (6, .int v24)]) [2, 3, 4, 5, 1, 0] rfl ?_
    exact hc19 v23 v24 σ hp
def P_X8_meets (p1 : Int32) (σ : St) (K : St → Prop) : Prop := vp_in p1 4 ∧ (∀ v2 : Int32, v2 = (σ.1 206 (ix p1)) → P_X8_sumOf v2 σ (fun r4 s3 => LpE (fun c s => F_X8_meets_19 K  c p1 v2 r4 s.1 s.2.1 s.2.2) (1, 1, s3)))
set_option maxHeartbeats 4000000 in
set_option maxRecDepth 100000 in
theorem m_X8_meets (l : Launch) (ad : Nat → Nat) (D : va_G) (ca : Nat → ClassId) (had : adOk ad) (p1 : Int32)  (σ : St) (K : St → Prop) (hp : P_X8_meets p1 σ K) : CtV l ad D ca yX8_meets cX8_meets 8 2 [.ref (ad 204), .int p1] σ K := CtV_of (av := fun ad => [.ref (ad 204), .int p1]) (plainFor_of_name (by decide)) had (Nat.le_of_ble_eq_true rfl) (fun κ C hret => by
  have C : Ok κ RX8 cX8_meets 8 2 := C
  show GG κ 0 [(0, .ref (kad κ 204)), (1, .int p1)] [] σ
  unfold P_X8_meets at hp
  refine x_aload_n 0 C rfl (dX8_meets_p0 0 rfl) ?_
  refine gX8_3 (b := 206) C rfl (by decide) rfl tw_751 (dX8_meets_p0 1 rfl) ?_
  refine x_iload_n 1 C rfl (dX8_meets_p0 2 rfl) ?_
  obtain ⟨h1, hp⟩ := hp
  refine x_iald C rfl (by decide) h1 (dX8_meets_p0 3 rfl) ?_
  refine x_topI (fun v2 ev2 => ?_)
  have hp := hp v2 ev2
  refine x_istore_n (loc' := [(2, .int v2), (0, .ref (kad κ 204)), (1, .int p1)]) C rfl (by decide) rfl (dX8_meets_p0 4 rfl) ?_
  refine x_aload_n 1 C rfl (dX8_meets_p0 5 rfl) ?_
  refine x_iload_n 0 C rfl (dX8_meets_p0 6 rfl) ?_
  refine x_cvI (As := [.int v2]) (st := []) C LRX8_197 (ci := 8) rfl rfl (by decide) (by decide) (m_X8_sumOf (kL κ) (kad κ) (kD κ) (kca κ) C.ado v2  σ _ hp) rfl (by decide) rfl (Nat.le_of_ble_eq_true rfl) (dX8_meets_p0 7 rfl) (fun r4 s3 hp => ?_)
  refine x_istore_n (loc' := [(3, .int r4), (2, .int v2), (0, .ref (kad κ 204)), (1, .int p1)]) C rfl (by decide) rfl (dX8_meets_p0 8 rfl) ?_
  refine x_lconst (v := 1) C (by decide) (dX8_meets_p0 9 rfl) ?_
  refine x_lstore (loc' := [(4, .long 1), (3, .int r4), (2, .int v2), (0, .ref (kad κ 204)), (1, .int p1)]) C (by decide) rfl (dX8_meets_p0 10 rfl) ?_
  refine x_iconst (v := 1) C (by decide) (dX8_meets_p0 11 rfl) ?_
  refine x_istore (loc' := [(6, .int 1), (4, .long 1), (3, .int r4), (2, .int v2), (0, .ref (kad κ 204)), (1, .int p1)]) C (by decide) rfl (dX8_meets_p0 12 rfl) ?_
  refine x_loc (loc' := [(0, .ref (kad κ 204)), (1, .int p1), (2, .int v2), (3, .int r4), (4, .long 1), (6, .int 1)]) [4, 5, 3, 2, 1, 0] rfl ?_
  exact LpE_GG (S := (Int64 × Int32 × St)) (F := fun c s => F_X8_meets_19 K  c p1 v2 r4 s.1 s.2.1 s.2.2) (W := fun s => GG κ 19 [(0, .ref (kad κ 204)), (1, .int p1), (2, .int v2), (3, .int r4), (4, .long s.1), (6, .int s.2.1)] [] s.2.2) (fun c s hcc hp => F_X8_meets_19_w C hret p1 v2 r4 s.1 s.2.1  s.2.2  (fun u4 u6 σ h => hcc (u4, u6, σ) h) hp) hp)
def J_X8_steps_38 (K : Int32 → St → Prop) (c2 : (Int32 × St) → Prop) (u1 : Int32) (u2 : Int32) (t1 : Int32) (t2 : Int32) (t3 : Int32) (σ : St) : Prop := vp_in t1 7 ∧ ∀ s7 : St, s7 = wI σ 219 (ix t1) (t2 + t3) → vp_in u2 7 ∧ ((u1 < (s7.1 219 (ix u2)) → (vp_in u2 7 ∧ ∀ s10 : St, s10 = wI s7 219 (ix u2) 0 → (∀ v11 : Int32, v11 = u2 + (-1) → c2 (v11, s10)))) ∧ (¬ (u1 < (s7.1 219 (ix u2))) → (K 1 s7)))
set_option maxHeartbeats 4000000 in
set_option maxRecDepth 100000 in
theorem J_X8_steps_38_w {κ : Kap} {K : Int32 → St → Prop} {c2 : (Int32 × St) → Prop} (C : Ok κ RX8 cX8_steps 3 0) (hret : RetI κ cX8_steps .boolean K) (u1 : Int32) (u2 : Int32) (t1 : Int32) (t2 : Int32) (t3 : Int32)        (σ : St) (hc2 : ∀ (u2 : Int32) (σ : St), c2 (u2, σ) → GG κ 2 [(0, .ref (kad κ 204)), (1, .int u1), (2, .int u2)] [] σ) (hp : J_X8_steps_38 K c2 u1 u2 t1 t2 t3 σ) : GG κ 38 [(0, .ref (kad κ 204)), (1, .int u1), (2, .int u2)] [.int t3, .int t2, .int t1, .ref (kad κ 219)] σ := by
  unfold J_X8_steps_38 at hp
  refine x_iadd C (dX8_steps_p0 26 rfl) ?_
  obtain ⟨h6, hp⟩ := hp
  refine x_iast C rfl (by decide) h6 (dX8_steps_p0 27 rfl) ?_
  refine x_nmS (fun s7 es7 => ?_)
  have hp := hp s7 es7
  refine x_aload_n 0 C rfl (dX8_steps_p0 28 rfl) ?_
  refine gX8_20 (b := 219) C rfl (by decide) rfl tw_768 (dX8_steps_p0 29 rfl) ?_
  refine x_iload_n 2 C rfl (dX8_steps_p0 30 rfl) ?_
  obtain ⟨h8, hp⟩ := hp
  refine x_iald C rfl (by decide) h8 (dX8_steps_p0 31 rfl) ?_
  refine x_iload_n 1 C rfl (dX8_steps_p0 32 rfl) ?_
  refine x_icmp_gt (tgt := 52) C (dX8_steps_p0 33 rfl) (by decide) (fun hc => ?_) (fun hc => ?_)
  · have hp := hp.1 hc
    refine x_aload_n 0 C rfl (dX8_steps_p0 36 rfl) ?_
    refine gX8_20 (b := 219) C rfl (by decide) rfl tw_768 (dX8_steps_p0 37 rfl) ?_
    refine x_iload_n 2 C rfl (dX8_steps_p0 38 rfl) ?_
    refine x_iconst (v := 0) C (by decide) (dX8_steps_p0 39 rfl) ?_
    obtain ⟨h9, hp⟩ := hp
    refine x_iast C rfl (by decide) h9 (dX8_steps_p0 40 rfl) ?_
    refine x_nmS (fun s10 es10 => ?_)
    have hp := hp s10 es10
    obtain ⟨v11, ev11⟩ : ∃ z : Int32, z = u2 + (-1) := ⟨_, rfl⟩
    have hp := hp v11 ev11
    refine x_iinc (v := v11) (loc' := [(2, .int v11), (0, .ref (kad κ 204)), (1, .int u1)]) 2 C rfl (by rw [ev11]; rfl) (by decide) rfl (dX8_steps_p0 41 rfl) ?_
    refine x_goto (tgt := 2) C (dX8_steps_p0 42 rfl) (by decide) ?_
    refine x_loc (loc' := [(0, .ref (kad κ 204)), (1, .int u1), (2, .int v11)]) [1, 2, 0] rfl ?_
    exact hc2 v11 s10 hp
  · have hp := hp.2 hc
    refine x_iconst (v := 1) C (by decide) (dX8_steps_p0 34 rfl) ?_
    exact hret _ _ _ _ (dX8_steps_p0 35 rfl) (nar_z isB1) hp
def F_X8_steps_2 (K : Int32 → St → Prop) (c2 : (Int32 × St) → Prop) (u1 : Int32) (u2 : Int32) (σ : St) : Prop := (u2 ≤ 0 → (K 0 σ)) ∧ (¬ (u2 ≤ 0) → vp_in u2 7 ∧ (vp_in u2 7 ∧ ∀ s3 : St, s3 = wI σ 219 (ix u2) ((σ.1 219 (ix u2)) + 1) → vp_in u2 7 ∧ vp_in u2 7 ∧ (((s3.1 219 (ix u2)) = u2 → (J_X8_steps_38 K c2 u1 u2 u2 (s3.1 219 (ix u2)) 1 s3)) ∧ (¬ ((s3.1 219 (ix u2)) = u2) → (J_X8_steps_38 K c2 u1 u2 u2 (s3.1 219 (ix u2)) 0 s3)))))
set_option maxHeartbeats 4000000 in
set_option maxRecDepth 100000 in
theorem F_X8_steps_2_w {κ : Kap} {K : Int32 → St → Prop} {c2 : (Int32 × St) → Prop} (C : Ok κ RX8 cX8_steps 3 0) (hret : RetI κ cX8_steps .boolean K) (u1 : Int32) (u2 : Int32)    (σ : St) (hc2 : ∀ (u2 : Int32) (σ : St), c2 (u2, σ) → GG κ 2 [(0, .ref (kad κ 204)), (1, .int u1), (2, .int u2)] [] σ) (hp : F_X8_steps_2 K c2 u1 u2 σ) : GG κ 2 [(0, .ref (kad κ 204)), (1, .int u1), (2, .int u2)] [] σ := by
  unfold F_X8_steps_2 at hp
  refine x_iload_n 2 C rfl (dX8_steps_p0 2 rfl) ?_
  refine x_if_le (tgt := 65) C (dX8_steps_p0 3 rfl) (by decide) (fun hc => ?_) (fun hc => ?_)
  · have hp := hp.1 hc
    refine x_iconst (v := 0) C (by decide) (dX8_steps_p0 43 rfl) ?_
    exact hret _ _ _ _ (dX8_steps_p0 44 rfl) (nar_z isB0) hp
  · have hp := hp.2 hc
    refine x_aload_n 0 C rfl (dX8_steps_p0 4 rfl) ?_
    refine gX8_20 (b := 219) C rfl (by decide) rfl tw_768 (dX8_steps_p0 5 rfl) ?_
    refine x_iload_n 2 C rfl (dX8_steps_p0 6 rfl) ?_
    refine x_dup2 C rfl rfl (dX8_steps_p0 7 rfl) ?_
    obtain ⟨h1, hp⟩ := hp
    refine x_iald C rfl (by decide) h1 (dX8_steps_p0 8 rfl) ?_
    refine x_iconst (v := 1) C (by decide) (dX8_steps_p0 9 rfl) ?_
    refine x_iadd C (dX8_steps_p0 10 rfl) ?_
    obtain ⟨h2, hp⟩ := hp
    refine x_iast C rfl (by decide) h2 (dX8_steps_p0 11 rfl) ?_
    refine x_nmS (fun s3 es3 => ?_)
    have hp := hp s3 es3
    refine x_aload_n 0 C rfl (dX8_steps_p0 12 rfl) ?_
    refine gX8_20 (b := 219) C rfl (by decide) rfl tw_768 (dX8_steps_p0 13 rfl) ?_
    refine x_iload_n 2 C rfl (dX8_steps_p0 14 rfl) ?_
    refine x_dup2 C rfl rfl (dX8_steps_p0 15 rfl) ?_
    obtain ⟨h4, hp⟩ := hp
    refine x_iald C rfl (by decide) h4 (dX8_steps_p0 16 rfl) ?_
    refine x_aload_n 0 C rfl (dX8_steps_p0 17 rfl) ?_
    refine gX8_20 (b := 219) C rfl (by decide) rfl tw_768 (dX8_steps_p0 18 rfl) ?_
    refine x_iload_n 2 C rfl (dX8_steps_p0 19 rfl) ?_
    obtain ⟨h5, hp⟩ := hp
    refine x_iald C rfl (by decide) h5 (dX8_steps_p0 20 rfl) ?_
    refine x_iload_n 2 C rfl (dX8_steps_p0 21 rfl) ?_
    refine x_icmp_ne (tgt := 37) C (dX8_steps_p0 22 rfl) (by decide) (fun hc => ?_) (fun hc => ?_)
    · have hp := hp.2 hc
      refine x_iconst (v := 0) C (by decide) (dX8_steps_p0 25 rfl) ?_
      exact J_X8_steps_38_w C hret u1 u2 u2 (s3.1 219 (ix u2)) 0  s3 hc2 hp
    · have hp := hp.1 hc
      refine x_iconst (v := 1) C (by decide) (dX8_steps_p0 23 rfl) ?_
      refine x_goto (tgt := 38) C (dX8_steps_p0 24 rfl) (by decide) ?_
      exact J_X8_steps_38_w C hret u1 u2 u2 (s3.1 219 (ix u2)) 1  s3 hc2 hp
def P_X8_steps (p1 : Int32) (σ : St) (K : Int32 → St → Prop) : Prop := LpE (fun c s => F_X8_steps_2 K  c p1 s.1 s.2) (p1, σ)
set_option maxHeartbeats 4000000 in
set_option maxRecDepth 100000 in
theorem m_X8_steps (l : Launch) (ad : Nat → Nat) (D : va_G) (ca : Nat → ClassId) (had : adOk ad) (p1 : Int32)  (σ : St) (K : Int32 → St → Prop) (hp : P_X8_steps p1 σ K) : CtI l ad D ca yX8_steps cX8_steps 3 .boolean 0 [.ref (ad 204), .int p1] σ K := CtI_of (av := fun ad => [.ref (ad 204), .int p1]) (plainFor_of_name (by decide)) had (Nat.le_of_ble_eq_true rfl) (fun κ C hret => by
  have C : Ok κ RX8 cX8_steps 3 0 := C
  show GG κ 0 [(0, .ref (kad κ 204)), (1, .int p1)] [] σ
  unfold P_X8_steps at hp
  refine x_iload_n 1 C rfl (dX8_steps_p0 0 rfl) ?_
  refine x_istore_n (loc' := [(2, .int p1), (0, .ref (kad κ 204)), (1, .int p1)]) C rfl (by decide) rfl (dX8_steps_p0 1 rfl) ?_
  refine x_loc (loc' := [(0, .ref (kad κ 204)), (1, .int p1), (2, .int p1)]) [1, 2, 0] rfl ?_
  exact LpE_GG (S := (Int32 × St)) (F := fun c s => F_X8_steps_2 K  c p1 s.1 s.2) (W := fun s => GG κ 2 [(0, .ref (kad κ 204)), (1, .int p1), (2, .int s.1)] [] s.2) (fun c s hcc hp => F_X8_steps_2_w C hret p1 s.1  s.2  (fun u2 σ h => hcc (u2, σ) h) hp) hp)
def J_X8_looks_28 (K : St → Prop) (c11 : (Int32 × St) → Prop) (u1 : Int32) (σ : St) : Prop := vp_in u1 4 ∧ (P_X8_steps (σ.1 206 (ix u1)) σ (fun r7 s6 => c11 (r7, s6)))
set_option maxHeartbeats 4000000 in
set_option maxRecDepth 100000 in
theorem J_X8_looks_28_w {κ : Kap} {K : St → Prop} {c11 : (Int32 × St) → Prop} (C : Ok κ RX8 cX8_looks 3 5) (hret : RetV κ cX8_looks K) (u1 : Int32)   (σ : St) (hc11 : ∀ (u2 : Int32) (σ : St), c11 (u2, σ) → GG κ 11 [(0, .ref (kad κ 204)), (1, .int u1), (2, .int u2)] [] σ) (hp : J_X8_looks_28 K c11 u1 σ) : GG κ 28 [(0, .ref (kad κ 204)), (1, .int u1)] [] σ := by
  unfold J_X8_looks_28 at hp
  refine x_aload_n 0 C rfl (dX8_looks_p0 16 rfl) ?_
  refine x_aload_n 0 C rfl (dX8_looks_p0 17 rfl) ?_
  refine gX8_3 (b := 206) C rfl (by decide) rfl tw_751 (dX8_looks_p0 18 rfl) ?_
  refine x_iload_n 1 C rfl (dX8_looks_p0 19 rfl) ?_
  obtain ⟨h5, hp⟩ := hp
  refine x_iald C rfl (by decide) h5 (dX8_looks_p0 20 rfl) ?_
  refine x_cvI (As := [.int (σ.1 206 (ix u1))]) (st := []) C LRX8_220 (ci := 8) rfl rfl (by decide) (by decide) (m_X8_steps (kL κ) (kad κ) (kD κ) (kca κ) C.ado (σ.1 206 (ix u1))  σ _ hp) rfl (by decide) rfl (Nat.le_of_ble_eq_true rfl) (dX8_looks_p0 21 rfl) (fun r7 s6 hp => ?_)
  refine x_istore_n (loc' := [(2, .int r7), (0, .ref (kad κ 204)), (1, .int u1)]) C rfl (by decide) rfl (dX8_looks_p0 22 rfl) ?_
  refine x_goto (tgt := 11) C (dX8_looks_p0 23 rfl) (by decide) ?_
  refine x_loc (loc' := [(0, .ref (kad κ 204)), (1, .int u1), (2, .int r7)]) [1, 2, 0] rfl ?_
  exact hc11 r7 s6 hp
def F_X8_looks_11 (K : St → Prop) (c11 : (Int32 × St) → Prop) (u1 : Int32) (u2 : Int32) (σ : St) : Prop := (u2 = 0 → (K σ)) ∧ (¬ (u2 = 0) → P_X8_isAdmissible u1 σ (fun r4 s3 => (r4 = 0 → (J_X8_looks_28 K c11 u1 s3)) ∧ (¬ (r4 = 0) → P_X8_meets u1 s3 (fun s8 => J_X8_looks_28 K c11 u1 s8))))
set_option maxHeartbeats 4000000 in
set_option maxRecDepth 100000 in
theorem F_X8_looks_11_w {κ : Kap} {K : St → Prop} {c11 : (Int32 × St) → Prop} (C : Ok κ RX8 cX8_looks 3 5) (hret : RetV κ cX8_looks K) (u1 : Int32) (u2 : Int32)    (σ : St) (hc11 : ∀ (u2 : Int32) (σ : St), c11 (u2, σ) → GG κ 11 [(0, .ref (kad κ 204)), (1, .int u1), (2, .int u2)] [] σ) (hp : F_X8_looks_11 K c11 u1 u2 σ) : GG κ 11 [(0, .ref (kad κ 204)), (1, .int u1), (2, .int u2)] [] σ := by
  unfold F_X8_looks_11 at hp
  refine x_iload_n 2 C rfl (dX8_looks_p0 7 rfl) ?_
  refine x_if_eq (tgt := 42) C (dX8_looks_p0 8 rfl) (by decide) (fun hc => ?_) (fun hc => ?_)
  · have hp := hp.1 hc
    exact hret _ _ _ (dX8_looks_p0 24 rfl) hp
  · have hp := hp.2 hc
    refine x_aload_n 0 C rfl (dX8_looks_p0 9 rfl) ?_
    refine x_iload_n 1 C rfl (dX8_looks_p0 10 rfl) ?_
    refine x_cvI (As := [.int u1]) (st := []) C LRX8_214 (ci := 8) rfl rfl (by decide) (by decide) (m_X8_isAdmissible (kL κ) (kad κ) (kD κ) (kca κ) C.ado u1  σ _ hp) rfl (by decide) rfl (Nat.le_of_ble_eq_true rfl) (dX8_looks_p0 11 rfl) (fun r4 s3 hp => ?_)
    refine x_if_eq (tgt := 28) C (dX8_looks_p0 12 rfl) (by decide) (fun hc => ?_) (fun hc => ?_)
    · have hp := hp.1 hc
      refine x_loc (loc' := [(0, .ref (kad κ 204)), (1, .int u1)]) [0, 1] rfl ?_
      exact J_X8_looks_28_w C hret u1  s3 hc11 hp
    · have hp := hp.2 hc
      refine x_aload_n 0 C rfl (dX8_looks_p0 13 rfl) ?_
      refine x_iload_n 1 C rfl (dX8_looks_p0 14 rfl) ?_
      refine x_cvV (As := [.int u1]) (st := []) C LRX8_217 (ci := 8) rfl rfl (by decide) (by decide) (m_X8_meets (kL κ) (kad κ) (kD κ) (kca κ) C.ado u1  s3 _ hp) rfl (by decide) rfl (Nat.le_of_ble_eq_true rfl) (dX8_looks_p0 15 rfl) (fun s8 hp => ?_)
      refine x_loc (loc' := [(0, .ref (kad κ 204)), (1, .int u1)]) [0, 1] rfl ?_
      exact J_X8_looks_28_w C hret u1  s8 hc11 hp
def P_X8_looks (p1 : Int32) (σ : St) (K : St → Prop) : Prop := P_X8_prepares p1 σ (fun s1 => P_X8_begins  s1 (fun s2 => LpE (fun c s => F_X8_looks_11 K  c p1 s.1 s.2) (1, s2)))
set_option maxHeartbeats 4000000 in
set_option maxRecDepth 100000 in
theorem m_X8_looks (l : Launch) (ad : Nat → Nat) (D : va_G) (ca : Nat → ClassId) (had : adOk ad) (p1 : Int32)  (σ : St) (K : St → Prop) (hp : P_X8_looks p1 σ K) : CtV l ad D ca yX8_looks cX8_looks 3 5 [.ref (ad 204), .int p1] σ K := CtV_of (av := fun ad => [.ref (ad 204), .int p1]) (plainFor_of_name (by decide)) had (Nat.le_of_ble_eq_true rfl) (fun κ C hret => by
  have C : Ok κ RX8 cX8_looks 3 5 := C
  show GG κ 0 [(0, .ref (kad κ 204)), (1, .int p1)] [] σ
  unfold P_X8_looks at hp
  refine x_aload_n 0 C rfl (dX8_looks_p0 0 rfl) ?_
  refine x_iload_n 1 C rfl (dX8_looks_p0 1 rfl) ?_
  refine x_cvV (As := [.int p1]) (st := []) C LRX8_208 (ci := 8) rfl rfl (by decide) (by decide) (m_X8_prepares (kL κ) (kad κ) (kD κ) (kca κ) C.ado p1  σ _ hp) rfl (by decide) rfl (Nat.le_of_ble_eq_true rfl) (dX8_looks_p0 2 rfl) (fun s1 hp => ?_)
  refine x_aload_n 0 C rfl (dX8_looks_p0 3 rfl) ?_
  refine x_cvV (As := []) (st := []) C LRX8_212 (ci := 8) rfl rfl (by decide) (by decide) (m_X8_begins (kL κ) (kad κ) (kD κ) (kca κ) C.ado   s1 _ hp) rfl (by decide) rfl (Nat.le_of_ble_eq_true rfl) (dX8_looks_p0 4 rfl) (fun s2 hp => ?_)
  refine x_iconst (v := 1) C (by decide) (dX8_looks_p0 5 rfl) ?_
  refine x_istore_n (loc' := [(2, .int 1), (0, .ref (kad κ 204)), (1, .int p1)]) C rfl (by decide) rfl (dX8_looks_p0 6 rfl) ?_
  refine x_loc (loc' := [(0, .ref (kad κ 204)), (1, .int p1), (2, .int 1)]) [1, 2, 0] rfl ?_
  exact LpE_GG (S := (Int32 × St)) (F := fun c s => F_X8_looks_11 K  c p1 s.1 s.2) (W := fun s => GG κ 11 [(0, .ref (kad κ 204)), (1, .int p1), (2, .int s.1)] [] s.2) (fun c s hcc hp => F_X8_looks_11_w C hret p1 s.1  s.2  (fun u2 σ h => hcc (u2, σ) h) hp) hp)
