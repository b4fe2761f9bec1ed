/-! loops that count; the reference's remove -/
theorem LpE_for {S T : Type} {F : (S → Prop) → S → Prop} (mk : Nat → T → S) (I : Nat → T → Prop) (b : Nat) (hs : ∀ (i : Nat) (t : T) (c : S → Prop), i ≤ b → I i t → (∀ t', i < b → I (i + 1) t' → c (mk (i + 1) t')) → F c (mk i t)) (i : Nat) (t : T) (hi : i ≤ b) (h : I i t) : LpE F (mk i t) := by
  have key : ∀ (n i : Nat) (t : T), i ≤ b → b < i + n → I i t → Lp F n (mk i t) := by
    intro n
    induction n with
    | zero => intro i t h1 h2; omega
    | succ n ih => intro i t h1 h2 h3; exact hs i t (Lp F n) h1 h3 (fun t' h4 h5 => ih (i + 1) t' (by omega) (by omega) h5)
  exact ⟨b + 1, key _ i t hi (by omega) h⟩
/-- a loop whose counter is the first of its places -/
theorem LpE_for1 {T : Type} {F : (Int32 × T → Prop) → Int32 × T → Prop} (I : Nat → T → Prop) (b : Nat) (hs : ∀ (i : Nat) (t : T) (c : Int32 × T → Prop), i ≤ b → I i t → (∀ t', i < b → I (i + 1) t' → c (nI (i + 1), t')) → F c (nI i, t)) (i : Nat) (t : T) (hi : i ≤ b) (h : I i t) : LpE F (nI i, t) := LpE_for (fun i t => (nI i, t)) I b hs i t hi h
section RMV2
variable {σ : St} {s : AS}
def shR (j i q : Nat) : Nat := if j ≤ q ∧ q < i then q + 1 else q
theorem shR_step {j i q : Nat} (h : j ≤ i) : shR j (i + 1) q = if q = i then i + 1 else shR j i q := by
  unfold shR
  by_cases e : q = i
  · rw [if_pos e, if_pos ⟨by omega, by omega⟩, e]
  · rw [if_neg e]
    by_cases e2 : j ≤ q ∧ q < i
    · rw [if_pos e2, if_pos ⟨e2.1, by omega⟩]
    · rw [if_neg e2, if_neg (fun z => e2 ⟨z.1, by omega⟩)]
theorem pl7 {j k : Nat} : (7 * nI j) + nI k = nI (7 * j + k) := by
  rw [show (7 : Int32) = nI 7 from rfl, pk_mul, nI_add]
theorem pl49 {j k : Nat} : (49 * nI j) + nI k = nI (49 * j + k) := by
  rw [show (49 : Int32) = nI 49 from rfl, pk_mul, nI_add]
theorem m_remove {p : Int32} {K : Int32 → St → Prop} (h : RM σ s) (hw : wf s) (hK : ∀ σ', RM σ' (nx_remove s p) → frK σ σ' → K (an_remove s p) σ') : P_X8_remove p σ K := by
  unfold P_X8_remove
  have hm := h.m4
  refine isSent_M h (fun hi => ⟨fun _ => ?_, fun z => absurd rfl z⟩) (fun j hj hp hi => ⟨fun z => absurd z (by decide), fun _ => ?_⟩)
  · rw [an_remove, nx_remove, hi] at hK; exact hK σ h frK.rf
  rw [an_remove, nx_remove, hi] at hK
  dsimp only at hK
  subst hp
  intro s3 e3
  rw [h.cnt, show nI (aM s) - 1 = nI (aM s - 1) from pk_sub (b := 1) (by omega)] at e3
  refine LpE_for1 (fun i σ' => j ≤ i ∧ σ'.2 = σ.2 ∧ (∀ c, c ≠ 204 → (c < 206 ∨ 210 < c) → σ'.1 c = σ.1 c) ∧ σ'.1 204 = s3.1 204 ∧ (∀ q, σ'.1 206 q = σ.1 206 (shR j i q)) ∧ (∀ a, a = 207 ∨ a = 208 → ∀ q z, z < 7 → σ'.1 a (7 * q + z) = σ.1 a (7 * shR j i q + z)) ∧ (∀ a, a = 209 ∨ a = 210 → ∀ q z, z < 49 → σ'.1 a (49 * q + z) = σ.1 a (49 * shR j i q + z))) (aM s - 1) ?_ j s3 (by omega) ?_
  · intro i σ' c hib ⟨i1, f1, f2, f3, f4, f5, f6⟩ hc
    dsimp only
    unfold F_X8_remove_23
    have hcnt : σ'.1 204 2 = nI (aM s - 1) := by rw [f3, e3]; exact wI_self
    rw [hcnt, nI_leI (by omega) (by omega), nI_1]
    refine ⟨fun q => ?_, fun q => ⟨vp_in_nI (by omega) (by decide), vp_in_nI (by omega) (by decide), fun s6 e6 => ?_⟩⟩
    · have hi2 : i + 1 = aM s := by omega
      refine hK σ' ?_ ⟨fun k hk => ⟨f2 k (by omega) (by omega), by rw [f1]⟩, by rw [f1]⟩
      have hsh : ∀ q, q < aM s - 1 → shR j i q = rmS j (aM s) q ∧ rmS j (aM s) q < aM s := by
        intro q hq
        unfold shR rmS
        by_cases e : q < j
        · rw [if_neg (by omega), if_pos e]; omega
        · rw [if_pos (by omega), if_neg e, if_pos (by omega)]; omega
      obtain ⟨⟨h1, h2⟩, h3, h5, h6, h7, h8, h9, h10⟩ := h
      have g4 : ∀ z, z ≠ 2 → σ'.1 204 z = σ.1 204 z := fun z hz => by rw [f3, e3]; exact wI_ni hz
      refine ⟨⟨by rw [g4 1 (by decide)]; exact h1, fun i hi => by rw [f2 205 (by decide) (by decide)]; exact h2 i hi⟩, ⟨hcnt, by show aM s - 1 ≤ 4; omega⟩, fun q hq => ?_, fun k hk => by rw [f2 211 (by decide) (by decide)]; exact h6 k hk, fun j hj => by rw [f2 212 (by decide) (by decide), f2 213 (by decide) (by decide)]; exact h7 j hj, by rw [g4 11 (by decide)]; exact h8, by rw [g4 12 (by decide)]; exact h9, by rw [g4 13 (by decide)]; exact h10⟩
      obtain ⟨q1, q2⟩ := hsh q hq
      obtain ⟨r1, r2, r3⟩ := h5 _ q2
      refine ⟨by rw [f4, q1]; exact r1, fun w w1 w2 => ?_, fun a ha w hw => ?_⟩
      · have w7 : w < 7 ∨ 7 ≤ w := Nat.lt_or_ge w 7
        rcases w7 with w7 | w7
        · rw [f5 207 (Or.inl rfl) q w w7, f5 208 (Or.inr rfl) q w w7, q1]; exact r2 w w1 w2
        · have hz := (hw.sz q2).2
          have w2' : w ≤ sZ (aS s (rmS j (aM s) q)) := w2
          omega
      · rw [show 49 * q + 7 * a + w = 49 * q + (7 * a + w) by omega, f6 209 (Or.inl rfl) q _ (by omega), f6 210 (Or.inr rfl) q _ (by omega), q1, show ∀ x, 49 * x + (7 * a + w) = 49 * x + 7 * a + w from fun x => by omega]; exact r3 a ha w hw
    · rw [ix_nI (by omega), ix_nI (by omega)] at e6
      refine LpE_for1 (fun k σ2 => σ2.2 = σ.2 ∧ (∀ c, c ≠ 204 → (c < 206 ∨ 210 < c) → σ2.1 c = σ.1 c) ∧ σ2.1 204 = s3.1 204 ∧ (∀ q, σ2.1 206 q = σ.1 206 (shR j (i + 1) q)) ∧ (∀ a, a = 207 ∨ a = 208 → ∀ q z, z < 7 → σ2.1 a (7 * q + z) = σ.1 a (7 * (if q = i ∧ z < k then i + 1 else shR j i q) + z)) ∧ (∀ a, a = 209 ∨ a = 210 → ∀ q z, z < 49 → σ2.1 a (49 * q + z) = σ.1 a (49 * shR j i q + z))) 7 ?_ 0 s6 (by omega) ?_
      · intro k σ2 c2 hk ⟨g1, g2, g3, g4, g5, g6⟩ hc2
        dsimp only
        unfold F_X8_remove_47 P_X8_word
        rw [show (7 : Int32) = nI 7 from rfl, nI_leI (by decide) (by omega), show (nI 7 : Int32) = 7 from rfl]
        simp only [nI_1, pl7]
        refine ⟨fun q2 => ?_, fun q2 => ⟨vp_in_nI (by omega) (by decide), vp_in_nI (by omega) (by decide), fun s21 e21 => ⟨vp_in_nI (by omega) (by decide), vp_in_nI (by omega) (by decide), fun s28 e28 v29 e29 => ?_⟩⟩⟩
        · refine LpE_for1 (fun k σ3 => σ3.2 = σ.2 ∧ (∀ c, c ≠ 204 → (c < 206 ∨ 210 < c) → σ3.1 c = σ.1 c) ∧ σ3.1 204 = s3.1 204 ∧ (∀ q, σ3.1 206 q = σ.1 206 (shR j (i + 1) q)) ∧ (∀ a, a = 207 ∨ a = 208 → ∀ q z, z < 7 → σ3.1 a (7 * q + z) = σ.1 a (7 * shR j (i + 1) q + z)) ∧ (∀ a, a = 209 ∨ a = 210 → ∀ q z, z < 49 → σ3.1 a (49 * q + z) = σ.1 a (49 * (if q = i ∧ z < k then i + 1 else shR j i q) + z))) 49 ?_ 0 σ2 (by omega) ?_
          · intro k3 σ3 c3 hk3 ⟨u1, u2, u3, u4, u5, u6⟩ hc3
            dsimp only
            unfold F_X8_remove_105
            rw [show (49 * nI i) + 49 = nI (49 * i + 49) from pl49 (k := 49), show (49 : Int32) = nI 49 from rfl, nI_leI (by decide) (by omega), show (nI 49 : Int32) = 49 from rfl]
            simp only [nI_1, pl49, nI_add]
            refine ⟨fun q3 v7 e7 => ?_, fun q3 => ⟨vp_in_nI (by omega) (by decide), vp_in_nI (by omega) (by decide), fun s10 e10 => ⟨vp_in_nI (by omega) (by decide), vp_in_nI (by omega) (by decide), fun s13 e13 v14 e14 => ?_⟩⟩⟩
            · rw [e7]
              refine hc σ3 (by omega) ⟨by omega, u1, u2, u3, u4, u5, fun a ha q z hz => ?_⟩
              rw [u6 a ha q z hz, shR_step i1]
              by_cases e : q = i
              · rw [if_pos ⟨e, by omega⟩, if_pos e]
              · rw [if_neg (fun y => e y.1), if_neg e]
            · rw [ix_nI (by omega), ix_nI (by omega)] at e10 e13
              rw [e14]
              have hs13 : ∀ c z, s13.1 c z = if (c = 209 ∨ c = 210) ∧ z = 49 * i + k3 then σ3.1 c (49 * i + 49 + k3) else σ3.1 c z := by
                intro c z
                rw [e13, e10]
                show (if c = 210 ∧ z = 49 * i + k3 then (if 210 = 209 ∧ 49 * i + 49 + k3 = 49 * i + k3 then σ3.1 209 (49 * i + 49 + k3) else σ3.1 210 (49 * i + 49 + k3)) else if c = 209 ∧ z = 49 * i + k3 then σ3.1 209 (49 * i + 49 + k3) else σ3.1 c z) = _
                by_cases e1 : c = 210 ∧ z = 49 * i + k3
                · rw [if_pos e1, if_neg (by omega), if_pos ⟨Or.inr e1.1, e1.2⟩, e1.1]
                · rw [if_neg e1]
                  by_cases e2 : c = 209 ∧ z = 49 * i + k3
                  · rw [if_pos e2, if_pos ⟨Or.inl e2.1, e2.2⟩, e2.1]
                  · rw [if_neg e2, if_neg (fun y => y.1.elim (fun y1 => e2 ⟨y1, y.2⟩) (fun y1 => e1 ⟨y1, y.2⟩))]
              have hoth : ∀ c, c ≠ 209 → c ≠ 210 → s13.1 c = σ3.1 c := fun c c1 c2 => by funext z; rw [hs13, if_neg (fun y => by omega)]
              refine hc3 s13 (by omega) ⟨by rw [e13, wI_2, e10, wI_2, u1], fun c c1 c2 => by rw [hoth c (by omega) (by omega)]; exact u2 c c1 c2, by rw [hoth 204 (by omega) (by omega)]; exact u3, fun q => by rw [hoth 206 (by omega) (by omega)]; exact u4 q, fun a ha q z hz => by rw [hoth a (by omega) (by omega)]; exact u5 a ha q z hz, fun a ha q z hz => ?_⟩
              rw [hs13]
              by_cases e : q = i ∧ z = k3
              · rw [if_pos ⟨ha, by omega⟩, if_pos ⟨e.1, by omega⟩, show 49 * i + 49 + k3 = 49 * (i + 1) + k3 by omega, u6 a ha (i + 1) k3 (by omega), if_neg (by omega), e.2, shR, if_neg (by omega)]
              · rw [if_neg (fun y => e (by omega)), u6 a ha q z hz]
                by_cases e2 : q = i ∧ z < k3
                · rw [if_pos e2, if_pos ⟨e2.1, by omega⟩]
                · rw [if_neg e2, if_neg (fun y => by omega)]
          · refine ⟨g1, g2, g3, g4, fun a ha q z hz => ?_, fun a ha q z hz => ?_⟩
            · rw [g5 a ha q z hz, shR_step i1]
              by_cases e : q = i
              · rw [if_pos ⟨e, by omega⟩, if_pos e]
              · rw [if_neg (fun y => e y.1), if_neg e]
            · rw [g6 a ha q z hz, if_neg (fun y => absurd y.2 (Nat.not_lt_zero _))]
        · rw [ix_nI (by omega), ix_nI (by omega)] at e21 e28
          rw [e29]
          have hs28 : ∀ c z, s28.1 c z = if (c = 207 ∨ c = 208) ∧ z = 7 * i + k then σ2.1 c (7 * (i + 1) + k) else σ2.1 c z := by
            intro c z
            rw [e28, e21]
            show (if c = 208 ∧ z = 7 * i + k then (if 208 = 207 ∧ 7 * (i + 1) + k = 7 * i + k then σ2.1 207 (7 * (i + 1) + k) else σ2.1 208 (7 * (i + 1) + k)) else if c = 207 ∧ z = 7 * i + k then σ2.1 207 (7 * (i + 1) + k) else σ2.1 c z) = _
            by_cases e1 : c = 208 ∧ z = 7 * i + k
            · rw [if_pos e1, if_neg (by omega), if_pos ⟨Or.inr e1.1, e1.2⟩, e1.1]
            · rw [if_neg e1]
              by_cases e2 : c = 207 ∧ z = 7 * i + k
              · rw [if_pos e2, if_pos ⟨Or.inl e2.1, e2.2⟩, e2.1]
              · rw [if_neg e2, if_neg (fun y => y.1.elim (fun y1 => e2 ⟨y1, y.2⟩) (fun y1 => e1 ⟨y1, y.2⟩))]
          have hoth : ∀ c, c ≠ 207 → c ≠ 208 → s28.1 c = σ2.1 c := fun c c1 c2 => by funext z; rw [hs28, if_neg (fun y => by omega)]
          refine hc2 s28 (by omega) ⟨by rw [e28, wI_2, e21, wI_2, g1], fun c c1 c2 => by rw [hoth c (by omega) (by omega)]; exact g2 c c1 c2, by rw [hoth 204 (by omega) (by omega)]; exact g3, fun q => by rw [hoth 206 (by omega) (by omega)]; exact g4 q, fun a ha q z hz => ?_, fun a ha q z hz => by rw [hoth a (by omega) (by omega)]; exact g6 a ha q z hz⟩
          rw [hs28]
          by_cases e : q = i ∧ z = k
          · rw [if_pos ⟨ha, by omega⟩, if_pos ⟨e.1, by omega⟩, g5 a ha (i + 1) k (by omega), if_neg (by omega), e.2, shR, if_neg (by omega)]
          · rw [if_neg (fun y => e (by omega)), g5 a ha q z hz]
            by_cases e2 : q = i ∧ z < k
            · rw [if_pos e2, if_pos ⟨e2.1, by omega⟩]
            · rw [if_neg e2, if_neg (fun y => by omega)]
      · refine ⟨by rw [e6, wI_2, f1], fun c c1 c2 => by rw [e6, wI_ne (by omega)]; exact f2 c c1 c2, by rw [e6, wI_ne (by omega)]; exact f3, fun q => ?_, fun a ha q z hz => by rw [e6, wI_ne (by omega), f5 a ha q z hz, if_neg (fun y => absurd y.2 (Nat.not_lt_zero _))], fun a ha q z hz => by rw [e6, wI_ne (by omega)]; exact f6 a ha q z hz⟩
        rw [e6, shR_step i1]
        show (if 206 = 206 ∧ q = i then σ'.1 206 (i + 1) else σ'.1 206 q) = _
        by_cases e : q = i
        · rw [if_pos ⟨rfl, e⟩, if_pos e, f4, shR, if_neg (by omega)]
        · rw [if_neg (fun y => e y.2), if_neg e, f4]
  · refine ⟨by omega, by rw [e3, wI_2], fun c c1 c2 => by rw [e3, wI_ne c1], rfl, fun q => ?_, fun a ha q z hz => ?_, fun a ha q z hz => ?_⟩
    · rw [e3, wI_ne (by omega), shR, if_neg (by omega)]
    · rw [e3, wI_ne (by omega), shR, if_neg (by omega)]
    · rw [e3, wI_ne (by omega), shR, if_neg (by omega)]
end RMV2
