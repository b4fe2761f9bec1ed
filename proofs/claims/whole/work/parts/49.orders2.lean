/-! the reference's orders, whole -/
theorem flt_split1 (p : Nat → Bool) {s i m : Nat} (h : i ≤ m) : ∃ r, (List.range' s m).filter p = (List.range' s i).filter p ++ r := by
  refine ⟨(List.range' (s + i) (m - i)).filter p, ?_⟩
  rw [← List.filter_append, List.range'_append_1, show i + (m - i) = m by omega]
theorem flt_step1 (p : Nat → Bool) {s i : Nat} : (List.range' s (i + 1)).filter p = (List.range' s i).filter p ++ if p (s + i) then [s + i] else [] := by
  rw [List.range'_1_concat, List.filter_append, List.filter_cons]
  split <;> simp
section RORD2
variable {σ : St} {n : Nat} {t : Nat → Nat}
def ordd (n : Nat) (t : Nat → Nat) (σ' : St) : Prop := arL σ' 225 (ordF n t 0) ∧ ∀ k, (hk : k < (ordF n t 0).length) → σ'.1 226 (ordF n t 0)[k] = nI k
theorem orders_M {K : St → Prop} {j : Nat} (hj : j < 4) (hT : TR n t) (hn : σ.1 206 j = nI n) (hh : ∀ w, 1 ≤ w → w ≤ n → σ.1 208 (7 * j + w) = nI (t w)) (hK : ∀ σ', (σ'.2 = σ.2 ∧ ∀ c, c ≠ 225 → c ≠ 226 → σ'.1 c = σ.1 c) → ordd n t σ' → K σ') : P_X8_orders (nI j) σ K := by
  unfold P_X8_orders
  have hn6 := hT.n6
  refine ⟨vp_in_nI hj (by decide), fun v2 e2 s3 e3 => ?_⟩
  rw [ix_nI (by omega), hn] at e2
  subst e2
  have i0 : ix (0 : Int32) = 0 := ix_nI (j := 0) (by decide)
  rw [i0] at e3
  refine LpE_inv (fun s' => (s'.2.2.2 = σ.2 ∧ ∀ c, c ≠ 225 → c ≠ 226 → s'.2.2.1 c = σ.1 c) ∧ ∃ l m, OL n t m l ∧ arL s'.2.2 225 l ∧ s'.1 = nI l.length ∧ s'.2.1 = nI m) (fun s' => offs (ix s'.2.1)) ?_ _ ⟨⟨by show s3.2 = _; rw [e3, wI_2], fun c c1 _ => by show s3.1 c = _; rw [e3, wI_ne c1]⟩, [0], 0, ⟨by decide, by simp [blk], fun v hv => by simp at hv; omega, fun v hv hb => by simp at hb⟩, fun k hk => ?_, rfl, rfl⟩
  · intro s' c hI hc
    obtain ⟨x1, x2, σ'⟩ := s'
    obtain ⟨⟨f1, f2⟩, l, m, hO, hA, rfl, rfl⟩ := hI
    dsimp only at f1 f2 hA
    dsimp only
    have hll := hO.len hT
    have hmb := hO.mb
    unfold F_X8_orders_19
    rw [nI_ltI (by omega) (by omega)]
    refine ⟨fun q => ?_, fun q => ?_⟩
    · have hfl : l = ordF n t 0 := by
        have h1 := hO.fin
        have h2 := blk_all hT (m := m) l hO.le (by rw [h1, hT.len]; omega)
        rw [← h2]; exact h1
      subst hfl
      have hnd := hT.nd
      refine LpE_for1 (fun k σ2 => (σ2.2 = σ.2 ∧ ∀ c, c ≠ 225 → c ≠ 226 → σ2.1 c = σ.1 c) ∧ arL σ2 225 (ordF n t 0) ∧ ∀ k', (hk : k' < (ordF n t 0).length) → k' < k → σ2.1 226 (ordF n t 0)[k'] = nI k') (n + 1) ?_ 0 σ' (by omega) ⟨⟨f1, f2⟩, hA, fun k' hk h => absurd h (Nat.not_lt_zero _)⟩
      intro k σ2 c2 hk ⟨g1, g2, g3⟩ hc2
      dsimp only
      unfold F_X8_orders_178
      rw [nI_ltI (by omega) (by omega)]
      refine ⟨fun q2 => hK σ2 g1 ⟨g2, fun k' hk' => g3 k' hk' (by rw [hT.len] at hk'; omega)⟩, fun q2 => ⟨vp_in_nI (by omega) (by decide), ?_⟩⟩
      have hkl : k < (ordF n t 0).length := by rw [hT.len]; omega
      have hkn := hT.mem.mp (List.getElem_mem hkl)
      rw [ix_nI (by omega), g2 k hkl, ix_nI (by omega), nI_1]
      refine ⟨vp_in_nI (by omega) (by decide), fun s6 e6 v7 e7 => ?_⟩
      rw [e7]
      refine hc2 s6 (by omega) ⟨⟨by rw [e6, wI_2]; exact g1.1, fun c c1 c2 => by rw [e6, wI_ne c2]; exact g1.2 c c1 c2⟩, fun z hz => by rw [e6, wI_ne (by omega)]; exact g2 z hz, fun k' hk' h => ?_⟩
      rw [e6]
      by_cases e : k' = k
      · subst e; exact wI_self
      · rw [wI_ni (fun z => e ((List.getElem_inj hnd).mp z))]; exact g3 k' hk' (by omega)
    · have hwit : ∃ v, v ∈ l ∧ m.testBit v = false := by
        rcases Classical.em (∃ v, v ∈ l ∧ m.testBit v = false) with z | z
        · exact z
        · exfalso
          have : ∀ l' : List Nat, (∀ v, v ∈ l' → v ∈ l) → l'.flatMap (blk n t m) = l' := by
            intro l'
            induction l' with
            | nil => intro _; rfl
            | cons a l' ih =>
              intro hl
              have hb : m.testBit a = true := by
                cases hb : m.testBit a
                · exact absurd ⟨a, hl a List.mem_cons_self, hb⟩ z
                · rfl
              rw [List.flatMap_cons, ih (fun v hv => hl v (List.mem_cons_of_mem _ hv)), blk, hb]; rfl
          have h1 := this l (fun v hv => hv)
          rw [hO.fin] at h1
          have := congrArg List.length h1
          rw [hT.len] at this
          omega
      obtain ⟨vw, hvw1, hvw2⟩ := hwit
      have hvwn := hO.le vw hvw1
      refine LpE_for (S := Int32 × St) (T := Unit) (fun i _ => (nI i, σ')) (fun i _ => i ≤ vw) 6 ?_ 0 () (by omega) (by omega)
      intro i _ c2 hi6 hiv hc2
      dsimp only
      unfold F_X8_orders_27
      rw [bit_test m hmb i (by omega), nI_1]
      have hgo : i < vw → c2 (nI (i + 1), σ') := fun h => hc2 () (by omega) (by omega)
      refine ⟨fun q2 v8 e8 => ?_, fun q2 => ?_⟩
      · rw [e8]
        refine hgo ?_
        rcases Nat.lt_or_ge i vw with z | z
        · exact z
        · rw [show i = vw by omega, hvw2] at q2; cases q2
      · refine placeOf_M (by omega) hA (fun a ha => by have := hO.le a ha; omega) (by omega) (fun A B hl hA0 => ?_) (fun hni => ⟨fun z => absurd z (by decide), fun _ v33 e33 => ?_⟩)
        · refine ⟨fun _ v11 e11 => ?_, fun z => absurd (nI_le (a := 0) (Nat.zero_le _) (by have : l.length = A.length + (B.length + 1) := (by rw [hl, List.length_append, List.length_cons]); omega)) z⟩
          have hbi : m.testBit i = false := by
            cases hb : m.testBit i
            · rfl
            · exact absurd hb q2
          rw [(bit_set m hmb i (by omega)).1] at e11
          subst hl
          obtain ⟨hO2, -⟩ := OL.step hT hO hbi
          have hlen2 := hO2.len hT
          have hin : i ≤ n := hO.le i (by simp)
          have hoff := offs_lt m hmb i (by omega) hbi
          subst e11
          -- children before the node
          have hLL : ∀ k, k ≤ i - 1 → (A ++ (List.range' 1 k).filter (fun w => decide (t w = i)) ++ i :: B).length ≤ n + 1 := by
            intro k hk
            obtain ⟨r, hr⟩ := flt_split1 (s := 1) (i := k) (m := i - 1) (fun w => decide (t w = i)) hk
            have : lkT t i = _ := hr
            rw [this] at hlen2
            simp only [List.length_append, List.length_cons] at hlen2 ⊢
            omega
          have hst : A ++ (List.range' 1 0).filter (fun w => decide (t w = i)) ++ i :: B = A ++ i :: B := by simp
          rw [← hst]
          refine LpE_for (S := Int32 × Int32 × St) (fun k t' => (nI (A ++ (List.range' 1 k).filter (fun w => decide (t w = i)) ++ i :: B).length, nI (k + 1), t')) (fun k σ2 => (σ2.2 = σ.2 ∧ ∀ c, c ≠ 225 → c ≠ 226 → σ2.1 c = σ.1 c) ∧ arL σ2 225 (A ++ (List.range' 1 k).filter (fun w => decide (t w = i)) ++ i :: B)) (i - 1) ?_ 0 σ' (by omega) ⟨⟨f1, f2⟩, by simpa using hA⟩
          intro k σ2 c3 hk ⟨g1, g2⟩ hc3
          dsimp only
          have hLk := hLL k hk
          have hmem : ∀ a, a ∈ A ++ (List.range' 1 k).filter (fun w => decide (t w = i)) ++ i :: B → a < 100 := by
            intro a ha
            rcases List.mem_append.mp ha with z | z
            · rcases List.mem_append.mp z with z | z
              · have := hO.le a (by simp [z]); omega
              · have := List.mem_filter.mp z
                have := List.mem_range'_1.mp this.1
                omega
            · have := hO.le a (by rcases List.mem_cons.mp z with z | z <;> simp [z])
              omega
          have huni : ∀ A' B', A ++ (List.range' 1 k).filter (fun w => decide (t w = i)) ++ i :: B = A' ++ i :: B' → i ∉ A' → A' = A ++ (List.range' 1 k).filter (fun w => decide (t w = i)) ∧ B' = B := by
            intro A' B' e hni
            have hni2 : i ∉ A ++ (List.range' 1 k).filter (fun w => decide (t w = i)) := by
              intro z
              rcases List.mem_append.mp z with z | z
              · exact hA0 z
              · have := List.mem_filter.mp z
                have := List.mem_range'_1.mp this.1
                omega
            rcases List.append_eq_append_iff.mp e with ⟨x, h1, h2⟩ | ⟨x, h1, h2⟩
            · cases x with
              | nil => simp at h1 h2; exact ⟨h1, h2.symm⟩
              | cons y x =>
                simp at h2
                exact absurd (by rw [h1, h2.1]; simp) hni
            · cases x with
              | nil => simp at h1 h2; exact ⟨h1.symm, h2⟩
              | cons y x =>
                simp at h2
                exact absurd (by rw [h1, h2.1]; simp) hni2
          unfold F_X8_orders_66
          rw [nI_leI (by omega) (by omega)]
          refine ⟨fun q3 => ?_, fun q3 => ?_⟩
          · have hke : k = i - 1 := by omega
            refine placeOf_M (by omega) g2 hmem (by omega) (fun A' B' hl' hni' v14 e14 v15 e15 => ?_) (fun z => absurd (by simp) z)
            obtain ⟨rfl, rfl⟩ := huni A' B' hl' hni'
            rw [nI_1] at e14 e15
            subst e14 e15
            subst hke
            have hRR : ∀ k, k ≤ n - i → (A ++ lkT t i ++ i :: ((List.range' (i + 1) k).filter (fun w => decide (t w = i)) ++ B')).length ≤ n + 1 := by
              intro k hk
              obtain ⟨r, hr⟩ := flt_split1 (s := i + 1) (i := k) (m := n - i) (fun w => decide (t w = i)) hk
              have : rkT n t i = _ := hr
              rw [this] at hlen2
              simp only [List.length_append, List.length_cons] at hlen2 ⊢
              omega
            have h129 := LpE_for (S := Int32 × Int32 × Int32 × St) (F := fun c' s => F_X8_orders_129 K c c' (nI j) (nI n) s.1 (nI (m ||| 2 ^ i)) (nI i) s.2.1 s.2.2.1 s.2.2.2) (fun k t' => (nI (A ++ lkT t i ++ i :: ((List.range' (i + 1) k).filter (fun w => decide (t w = i)) ++ B')).length, nI ((A ++ lkT t i).length + 1 + ((List.range' (i + 1) k).filter (fun w => decide (t w = i))).length), nI (i + 1 + k), t')) (fun k σ3 => (σ3.2 = σ.2 ∧ ∀ c, c ≠ 225 → c ≠ 226 → σ3.1 c = σ.1 c) ∧ arL σ3 225 (A ++ lkT t i ++ i :: ((List.range' (i + 1) k).filter (fun w => decide (t w = i)) ++ B'))) (n - i) (by
              intro k σ3 c4 hk ⟨u1, u2⟩ hc4
              have hRk := hRR k hk
              dsimp only
              unfold F_X8_orders_129 P_X8_word
              rw [nI_ltI (by omega) (by omega)]
              refine ⟨fun q4 => ?_, fun q4 => ?_⟩
              · have hke : k = n - i := by omega
                subst hke
                refine hc _ ⟨u1, _, _, hO2, u2, rfl, rfl⟩ ?_
                show offs (ix (nI (m ||| 2 ^ i))) < offs (ix (nI m))
                have := (bit_set m hmb i (by omega)).2
                rw [ix_nI (by omega), ix_nI (by omega)]; exact hoff
              · rw [pl7]
                dsimp only
                rw [ix_nI (by omega), u1.2 208 (by decide) (by decide), hh _ (by omega) (by omega), nI_eq (by have := (hT.ht (i + 1 + k) (by omega) (by omega)).1; omega) (by omega)]
                refine ⟨vp_in_nI (by omega) (by decide), fun q5 => ?_, fun q5 v19 e19 => ?_⟩
                · have hRk1 := hRR (k + 1) (by omega)
                  have hstep := flt_step1 (s := i + 1) (i := k) (fun w => decide (t w = i))
                  rw [if_pos (by simpa using q5)] at hstep
                  have eS : A ++ lkT t i ++ i :: ((List.range' (i + 1) k).filter (fun w => decide (t w = i)) ++ B') = (A ++ lkT t i ++ i :: (List.range' (i + 1) k).filter (fun w => decide (t w = i))) ++ B' := by simp [List.append_assoc]
                  have eL : (A ++ lkT t i).length + 1 + ((List.range' (i + 1) k).filter (fun w => decide (t w = i))).length = (A ++ lkT t i ++ i :: (List.range' (i + 1) k).filter (fun w => decide (t w = i))).length := by simp only [List.length_append, List.length_cons]; omega
                  rw [eL, eS]
                  rw [eS] at u2
                  refine inserts_M (by rw [hstep] at hRk1; simp only [List.length_append, List.length_cons, List.length_nil] at hRk1 ⊢; omega) u2 (fun σ4 w1 w2 v21 e21 v22 e22 v23 e23 => ?_)
                  rw [nI_1] at e21 e22 e23
                  have := hc4 σ4 (by omega) ⟨⟨w1.1.trans u1.1, fun c c1 c2 => (w1.2 c c1).trans (u1.2 c c1 c2)⟩, by rw [hstep]; simpa [List.append_assoc] using w2⟩
                  rw [hstep] at this
                  have z1 : (A ++ lkT t i ++ i :: ((List.range' (i + 1) k).filter (fun w => decide (t w = i)) ++ [i + 1 + k] ++ B')).length = ((A ++ lkT t i ++ i :: (List.range' (i + 1) k).filter (fun w => decide (t w = i))) ++ B').length + 1 := by simp only [List.length_append, List.length_cons, List.length_nil]; omega
                  have z2 : (A ++ lkT t i).length + 1 + ((List.range' (i + 1) k).filter (fun w => decide (t w = i)) ++ [i + 1 + k]).length = (A ++ lkT t i ++ i :: (List.range' (i + 1) k).filter (fun w => decide (t w = i))).length + 1 := by simp only [List.length_append, List.length_cons, List.length_nil]; omega
                  rw [z1, z2] at this
                  rw [e21, e22, e23]; exact this
                · have hstep := flt_step1 (s := i + 1) (i := k) (fun w => decide (t w = i))
                  rw [if_neg (by simpa using q5), List.append_nil] at hstep
                  rw [nI_1] at e19
                  have := hc4 σ3 (by omega) ⟨u1, by rw [hstep]; exact u2⟩
                  rw [hstep] at this
                  rw [e19]; exact this) 0 σ2 (by omega) ⟨g1, by simpa [lkT] using g2⟩
            simpa [lkT] using h129
          · unfold P_X8_word
            rw [pl7]
            dsimp only
            rw [ix_nI (by omega), g1.2 208 (by decide) (by decide), hh _ (by omega) (by omega), nI_eq (by have := (hT.ht (k + 1) (by omega) (by omega)).1; omega) (by omega)]
            refine ⟨vp_in_nI (by omega) (by decide), fun q5 => ?_, fun q5 v27 e27 => ?_⟩
            · have hLk1 := hLL (k + 1) (by omega)
              have hstep := flt_step1 (s := 1) (i := k) (fun w => decide (t w = i))
              rw [Nat.add_comm 1 k, if_pos (by simpa using q5)] at hstep
              refine placeOf_M (by omega) g2 hmem (by omega) (fun A' B' hl' hni' => ?_) (fun z => absurd (by simp) z)
              obtain ⟨rfl, rfl⟩ := huni A' B' hl' hni'
              refine inserts_M (by rw [hstep] at hLk1; simp only [List.length_append, List.length_cons, List.length_nil] at hLk1 ⊢; omega) g2 (fun σ4 w1 w2 v31 e31 v32 e32 => ?_)
              rw [nI_1] at e31 e32
              have := hc3 σ4 (by omega) ⟨⟨w1.1.trans g1.1, fun c c1 c2 => (w1.2 c c1).trans (g1.2 c c1 c2)⟩, by rw [hstep]; simpa [List.append_assoc] using w2⟩
              rw [hstep] at this
              have z1 : (A ++ ((List.range' 1 k).filter (fun w => decide (t w = i)) ++ [k + 1]) ++ i :: B').length = (A ++ (List.range' 1 k).filter (fun w => decide (t w = i)) ++ i :: B').length + 1 := by simp only [List.length_append, List.length_cons, List.length_nil]; omega
              rw [z1] at this
              rw [e31, e32]; exact this
            · have hstep := flt_step1 (s := 1) (i := k) (fun w => decide (t w = i))
              rw [Nat.add_comm 1 k, if_neg (by simpa using q5), List.append_nil] at hstep
              rw [nI_1] at e27
              have := hc3 σ2 (by omega) ⟨g1, by rw [hstep]; exact g2⟩
              rw [hstep] at this
              rw [e27]; exact this
        · rw [e33]
          refine hgo ?_
          rcases Nat.lt_or_ge i vw with z | z
          · exact z
          · rw [show i = vw by omega] at hni; exact absurd hvw1 hni
  · have hk' : k < 1 := hk
    have : k = 0 := by omega
    subst this
    show s3.1 225 0 = nI 0
    rw [e3]; exact wI_self
end RORD2
