/-! the class: from the whole back to the arcs -/
theorem sm_upd {α : Type} {F F' : α → Int64} {x0 : α} {δ : Int64} : ∀ {L : List α}, L.Nodup → x0 ∈ L → (∀ x, x ∈ L → x ≠ x0 → F' x = F x) → F' x0 = F x0 + δ → sm L F' = sm L F + δ
  | [], _, h, _, _ => by cases h
  | a :: L, nd, h, h1, h2 => by
    rw [List.nodup_cons] at nd
    rw [sm_cons, sm_cons]
    rcases List.mem_cons.mp h with z | z
    · subst z
      rw [h2, sm_cong (g := F) (fun x hx => h1 x (List.mem_cons_of_mem _ hx) (fun e => nd.1 (e ▸ hx))), Int64.add_assoc, Int64.add_comm δ, ← Int64.add_assoc]
    · rw [sm_upd nd.2 z (fun x hx => h1 x (List.mem_cons_of_mem _ hx)) h2, h1 a List.mem_cons_self (fun e => nd.1 (e ▸ z)), Int64.add_assoc]
def dsum (F : Nat → Nat → Int64) : Int64 := sm (List.range 64) (fun S => sm (List.range 7) (fun h => F S h))
theorem dsum_upd {F F' : Nat → Nat → Int64} {S0 h0 : Nat} {δ : Int64} (hS : S0 < 64) (hh : h0 < 7) (h1 : ∀ S h, S < 64 → h < 7 → S ≠ S0 ∨ h ≠ h0 → F' S h = F S h) (h2 : F' S0 h0 = F S0 h0 + δ) : dsum F' = dsum F + δ := by
  unfold dsum
  refine sm_upd (x0 := S0) List.nodup_range (List.mem_range.mpr hS) (fun S hS' hne => ?_) ?_
  · exact sm_cong (fun h hh => h1 S h (List.mem_range.mp hS') (List.mem_range.mp hh) (Or.inl hne))
  · exact sm_upd (x0 := h0) List.nodup_range (List.mem_range.mpr hh) (fun h hh' hne => h1 S0 h hS (List.mem_range.mp hh') (Or.inr hne)) h2
theorem dsum_cong {F F' : Nat → Nat → Int64} (h1 : ∀ S h, S < 64 → h < 7 → F' S h = F S h) : dsum F' = dsum F := by
  unfold dsum
  exact sm_cong (fun S hS => sm_cong (fun h hh => h1 S h (List.mem_range.mp hS) (List.mem_range.mp hh)))
theorem dsum_0 : dsum (fun _ _ => 0) = 0 := by
  unfold dsum
  rw [sm_cong (g := fun _ => 0) (fun S _ => sm_zero _), sm_zero]
def XX (p : Nat → Nat → Int64) (b f : Nat → Nat → List Mon) (uB uF : Nat → Nat → Bool) (σ : St) (a : Nat × Nat) : Int64 := dsum (fun S h => (if uB S h = true then σ.2.1 (173 + h) S * sm (b h S) (dMo p a) else 0) + (if uF S h = true then σ.2.1 (181 + h) S * sm (f h S) (dMo p a) else 0)) + σ.2.1 (189 + a.1) a.2 * p a.1 a.2
def rmU (u : Nat → Nat → Bool) (S h S' h' : Nat) : Bool := u S' h' && !(decide (S' = S) && decide (h' = h))
def frG (σ σ' : St) : Prop := σ'.1 = σ.1 ∧ (∀ c, c < 173 ∨ 195 < c → σ'.2.1 c = σ.2.1 c) ∧ σ'.2.2 = σ.2.2
theorem frG.rf {σ : St} : frG σ σ := ⟨rfl, fun _ _ => rfl, rfl⟩
theorem frG.tr {a b c : St} (h : frG a b) (h2 : frG b c) : frG a c := ⟨h2.1.trans h.1, fun k hk => (h2.2.1 k hk).trans (h.2.1 k hk), h2.2.2.trans h.2.2⟩
theorem frG.wL {a : St} {c i : Nat} {v : Int64} (hc : 173 ≤ c ∧ c ≤ 195) : frG a (wL a c i v) := ⟨wL_1, fun k hk => wL_ne (by omega), wL_22⟩
theorem rmU_at {u : Nat → Nat → Bool} {S h : Nat} : rmU u S h S h = false := by unfold rmU; simp
theorem rmU_ne {u : Nat → Nat → Bool} {S h S' h' : Nat} (e : S' ≠ S ∨ h' ≠ h) : rmU u S h S' h' = u S' h' := by
  unfold rmU
  rcases e with e | e <;> simp [e]
theorem wL_no {σ : St} {a i b j : Nat} {v : Int64} (h : b ≠ a ∨ j ≠ i) : (wL σ a i v).2.1 b j = σ.2.1 b j := by rw [wL_at]; exact if_neg (fun z => h.elim (fun y => y z.1) (fun y => y z.2))
theorem wL_self {σ : St} {a i : Nat} {v : Int64} : (wL σ a i v).2.1 a i = v := by rw [wL_at]; exact if_pos ⟨rfl, rfl⟩
section XXS
variable {p : Nat → Nat → Int64} {b f : Nat → Nat → List Mon} {uB uF : Nat → Nat → Bool} {σ σ' : St} {a : Nat × Nat} {S h w : Nat} {x : Int64}
theorem add_2 {A B C D : Int64} (h : A = B) (h2 : C = D) : A + C = B + D := by rw [h, h2]
theorem add_sw (A B C : Int64) : A + B + C = A + C + B := by rw [Int64.add_assoc, Int64.add_comm B, ← Int64.add_assoc]
theorem XX_b (hS : S < 64) (hh : h < 7) (ha : a.1 < 7) (hu : uB S h = true) (e : σ' = wL σ (173 + h) S (σ.2.1 (173 + h) S + x)) : XX p b f uB uF σ' a = XX p b f uB uF σ a + x * sm (b h S) (dMo p a) := by
  unfold XX
  rw [e, wL_ne (show 189 + a.1 ≠ 173 + h by omega), ← add_sw]
  refine add_2 ?_ rfl
  refine dsum_upd hS hh (fun S' h' h1 h2 hne => ?_) ?_
  · rw [wL_no (show 173 + h' ≠ 173 + h ∨ S' ≠ S by omega), wL_no (show 181 + h' ≠ 173 + h ∨ S' ≠ S by omega)]
  · rw [if_pos hu, if_pos hu, wL_self, wL_ne (show 181 + h ≠ 173 + h by omega), Int64.add_mul, add_sw]
theorem XX_f (hS : S < 64) (hh : h < 7) (ha : a.1 < 7) (hu : uF S h = true) (e : σ' = wL σ (181 + h) S (σ.2.1 (181 + h) S + x)) : XX p b f uB uF σ' a = XX p b f uB uF σ a + x * sm (f h S) (dMo p a) := by
  unfold XX
  rw [e, wL_ne (show 189 + a.1 ≠ 181 + h by omega), ← add_sw]
  refine add_2 ?_ rfl
  refine dsum_upd hS hh (fun S' h' h1 h2 hne => ?_) ?_
  · rw [wL_no (show 173 + h' ≠ 181 + h ∨ S' ≠ S by omega), wL_no (show 181 + h' ≠ 181 + h ∨ S' ≠ S by omega)]
  · rw [if_pos hu, if_pos hu, wL_no (show 173 + h ≠ 181 + h ∨ S ≠ S by omega), wL_self, Int64.add_mul, ← Int64.add_assoc]
theorem XX_a (hh : h < 7) (e : σ' = wL σ (189 + h) w (σ.2.1 (189 + h) w + x)) : XX p b f uB uF σ' a = XX p b f uB uF σ a + (if (h, w) = a then x * p h w else 0) := by
  unfold XX
  rw [Int64.add_assoc]
  refine add_2 ?_ ?_
  · refine dsum_cong (fun S' h' h1 h2 => ?_)
    rw [e, wL_ne (by omega), wL_ne (by omega)]
  · rw [e, wL_at]
    by_cases q : (h, w) = a
    · rw [if_pos q, ← q, if_pos ⟨rfl, rfl⟩, Int64.add_mul]
    · rw [if_neg q, if_neg (fun z => q (Prod.ext (by dsimp only; omega) (by dsimp only; omega))), Int64.add_zero]
theorem XX_rmB (hS : S < 64) (hh : h < 7) (hu : uB S h = true) : XX p b f uB uF σ a = XX p b f (rmU uB S h) uF σ a + σ.2.1 (173 + h) S * sm (b h S) (dMo p a) := by
  unfold XX
  rw [← add_sw]
  refine add_2 ?_ rfl
  refine dsum_upd hS hh (fun S' h' h1 h2 hne => ?_) ?_
  · rw [rmU_ne hne]
  · rw [if_pos hu, rmU_at, if_neg (show ¬ (false = true) by decide), Int64.zero_add, Int64.add_comm]
theorem XX_rmF (hS : S < 64) (hh : h < 7) (hu : uF S h = true) : XX p b f uB uF σ a = XX p b f uB (rmU uF S h) σ a + σ.2.1 (181 + h) S * sm (f h S) (dMo p a) := by
  unfold XX
  rw [← add_sw]
  refine add_2 ?_ rfl
  refine dsum_upd hS hh (fun S' h' h1 h2 hne => ?_) ?_
  · rw [rmU_ne hne]
  · rw [if_pos hu, rmU_at, if_neg (show ¬ (false = true) by decide), Int64.add_zero]
theorem XX_cong {vB vF : Nat → Nat → Bool} (h1 : ∀ S h, S < 64 → h < 7 → uB S h = vB S h ∧ uF S h = vF S h) : XX p b f uB uF σ a = XX p b f vB vF σ a := by
  unfold XX
  refine add_2 ?_ rfl
  refine dsum_cong (fun S h hS hh => ?_)
  obtain ⟨e1, e2⟩ := h1 S h hS hh
  rw [e1, e2]
end XXS
/-- what lies still while the gains spread -/
def CX (n : Nat) (b f : Nat → Nat → List Mon) (p : Nat → Nat → Int64) (σ : St) : Prop := σ.1 147 1 = nI n ∧ (∀ h w, h ≤ n → 1 ≤ w → w ≤ n → σ.2.1 (149 + h) w = p h w) ∧ ∀ S h, S < 2 ^ n → h ≤ n → okT n b f p σ S h
theorem CX.fr {n : Nat} {b f : Nat → Nat → List Mon} {p : Nat → Nat → Int64} {σ σ' : St} (hn : n ≤ 6) (h : CX n b f p σ) (hf : frG σ σ') : CX n b f p σ' := ⟨by rw [hf.1]; exact h.1, fun k w k1 w1 w2 => by rw [hf.2.1 (149 + k) (by omega)]; exact h.2.1 k w k1 w1 w2, fun S k hS hk q => by rw [hf.2.1 (157 + k) (by omega), hf.2.1 (165 + k) (by omega)]; exact h.2.2 S k hS hk q⟩
section SPREAD
variable {n : Nat} {b f : Nat → Nat → List Mon} {p : Nat → Nat → Int64} {σ : St} {S h : Nat} {uB uF : Nat → Nat → Bool}
theorem ring1 (X g e d e2 d2 R : Int64) : X + g * e * d + g * e2 * d2 + g * R = X + g * (d * e + e2 * d2 + R) := by
  simp only [Int64.mul_add, Int64.mul_assoc, Int64.add_assoc, Int64.mul_comm d e]
theorem spreadFo_C {K : St → Prop} {mb : Nat → Bool} (hn : n ≤ 6) (E : EQS n mb b f) (hC : CX n b f p σ) (h0 : S ≠ 0) (hS : S < 2 ^ n) (hh : h ≤ n) (hi : ¬ inS S h) (hu : uF S h = true) (hu2 : ∀ B, B ∈ subs S → uB B h = true ∧ uF (S ^^^ B) h = true) (hK : ∀ σ', frG σ σ' → (∀ a : Nat × Nat, a.1 ≤ n → XX p b f uB (rmU uF S h) σ' a = XX p b f uB uF σ a) → K σ') : P_X5_spreadForest (nI h) (nI S) σ K := by
  have hS64 := s64 hn hS
  unfold P_X5_spreadForest
  refine ⟨vp_in_nI (by omega) (by decide), vp_in_nI hS64 (by decide), fun v3 e3 => ?_⟩
  rw [ix_nI (by omega), ix_nI (by omega), show 180 + 1 + h = 181 + h by omega] at e3
  have hrm : ∀ a : Nat × Nat, XX p b f uB uF σ a = XX p b f uB (rmU uF S h) σ a + v3 * sm (f h S) (dMo p a) := fun a => by rw [e3]; exact XX_rmF hS64 (by omega) hu
  refine ⟨fun z => hK σ frG.rf (fun a ha => by rw [hrm a, z, Int64.zero_mul, Int64.add_zero]), fun z v4 e4 => ?_⟩
  have key : ∀ g bb σ', bb < g → bb < 64 → frG σ σ' → (∀ B, B ∈ (sbF S g bb).filter (fun b => b.testBit (loB S)) → B ∈ subs S) → (∀ a : Nat × Nat, a.1 ≤ n → XX p b f uB (rmU uF S h) σ' a + v3 * sm ((sbF S g bb).filter (fun b => b.testBit (loB S))) (fun B => sm (b h B) (dMo p a) * sm (f h (S ^^^ B)) (prM p) + sm (b h B) (prM p) * sm (f h (S ^^^ B)) (dMo p a)) = XX p b f uB uF σ a) → Lp (fun c s => F_X5_spreadForest_25 K c (nI h) (nI S) v3 v4 s.1 s.2) g (nI bb, σ') := by
    intro g
    induction g with
    | zero => intro bb σ' h1; omega
    | succ g ih =>
      intro bb σ' hb hb64 hf hB hX
      show F_X5_spreadForest_25 K (Lp (fun c s => F_X5_spreadForest_25 K c (nI h) (nI S) v3 v4 s.1 s.2) g) (nI h) (nI S) v3 v4 (nI bb) σ'
      generalize Lp (fun c s => F_X5_spreadForest_25 K c (nI h) (nI S) v3 v4 s.1 s.2) g = c at ih ⊢
      unfold F_X5_spreadForest_25 J_X5_spreadForest_88
      rw [show (0 : Int32) = nI 0 from rfl, nI_leI (by omega) (by omega), show nI 0 = (0 : Int32) from rfl, e4]
      rw [sbF] at hB hX
      refine ⟨fun y => ?_, fun y => ?_⟩
      · refine hK σ' hf (fun a ha => ?_)
        have := hX a ha
        rw [if_pos (by omega), List.filter_nil, sm_nil, Int64.mul_zero, Int64.add_zero] at this
        exact this
      · have b0 : bb ≠ 0 := by omega
        rw [if_neg b0] at hB hX
        obtain ⟨n1, n2⟩ := bt_next S hS64 bb hb64 b0
        obtain ⟨x1, x2⟩ := bt_x S hS64 bb hb64
        rw [bt_low S hS64 h0 bb hb64, n1, x1]
        refine ⟨fun y v2 e2 => ?_, fun y => ⟨vp_in_nI (by omega) (by decide), vp_in_nI (by omega) (by decide), vp_in_nI (by omega) (by decide), vp_in_nI (by omega) (by decide), vp_in_nI (by omega) (by decide), fun s11 e11 => ⟨vp_in_nI (by omega) (by decide), vp_in_nI (by omega) (by decide), vp_in_nI (by omega) (by decide), vp_in_nI (by omega) (by decide), vp_in_nI (by omega) (by decide), fun s17 e17 v2 e2 => ?_⟩⟩⟩
        · have y2 : ¬ bb.testBit (loB S) = true := by rw [y]; decide
          rw [List.filter_cons, if_neg y2] at hB hX
          rw [e2]; exact ih _ σ' (by omega) (by omega) hf hB hX
        · have y2 : bb.testBit (loB S) = true := by
            cases q : bb.testBit (loB S)
            · exact absurd q y
            · rfl
          rw [List.filter_cons, if_pos y2] at hB hX
          have hbs := hB bb List.mem_cons_self
          obtain ⟨b1, b2, b3, b4⟩ := subs_lt S hS64 bb hbs
          have bsub := ((subs_mem S hS64 h0 bb b1).mp hbs).1
          have hC' := CX.fr hn hC hf
          rw [ix_nI (by omega), ix_nI (by omega), ix_nI (by omega), show 172 + 1 + h = 173 + h by omega, show 164 + 1 + h = 165 + h by omega, (hC'.2.2 (S ^^^ bb) h (by omega) hh (fun q => hi ((inS_xor bsub).mp q).1)).2] at e11
          have hf11 : frG σ' s11 := by rw [e11]; exact frG.wL (by omega)
          have hC11 := CX.fr hn hC' hf11
          rw [ix_nI (by omega), ix_nI (by omega), ix_nI (by omega), show 180 + 1 + h = 181 + h by omega, show 156 + 1 + h = 157 + h by omega, (hC11.2.2 bb h (by omega) hh (fun q => hi (inS_sub bsub q))).1 b4] at e17
          rw [e2]
          refine ih _ s17 (by omega) (by omega) (hf.tr (hf11.tr (by rw [e17]; exact frG.wL (by omega)))) (fun B hB' => hB B (List.mem_cons_of_mem _ hB')) (fun a ha => ?_)
          have h2 := hX a ha
          rw [XX_f (by omega) (by omega) (by omega) (by rw [rmU_ne (Or.inl (by omega))]; exact (hu2 bb hbs).2) e17, XX_b b1 (by omega) (by omega) (hu2 bb hbs).1 e11, ← h2, sm_cons, ring1]
  exact ⟨64, key 64 S σ hS64 hS64 frG.rf (fun B hB => hB) (fun a ha => by rw [hrm a, df_eq E h0 hS64]; rfl)⟩
theorem spreadBr_C {K : St → Prop} (hn : n ≤ 6) (E : EQS n (mbI (σ.1 125 1)) b f) (hC : CX n b f p σ) (h0 : S ≠ 0) (hS : S < 2 ^ n) (hh : h ≤ n) (hi : ¬ inS S h) (hu : uB S h = true) (hu2 : ∀ i, i < n → S.testBit i = true → uF (S ^^^ 2 ^ i) (i + 1) = true) (hK : ∀ σ', frG σ σ' → (∀ a : Nat × Nat, a.1 ≤ n → XX p b f (rmU uB S h) uF σ' a = XX p b f uB uF σ a) → K σ') : P_X5_spreadBranch (nI h) (nI S) σ K := by
  have hS64 := s64 hn hS
  unfold P_X5_spreadBranch
  refine ⟨vp_in_nI (by omega) (by decide), vp_in_nI hS64 (by decide), fun v3 e3 => ?_⟩
  rw [ix_nI (by omega), ix_nI (by omega), show 172 + 1 + h = 173 + h by omega] at e3
  have hrm : ∀ a : Nat × Nat, XX p b f uB uF σ a = XX p b f (rmU uB S h) uF σ a + v3 * sm (b h S) (dMo p a) := fun a => by rw [e3]; exact XX_rmB hS64 (by omega) hu
  refine ⟨fun z => hK σ frG.rf (fun a ha => by rw [hrm a, z, Int64.zero_mul, Int64.add_zero]), fun z => mayBr_C (fun hm => ⟨fun y => absurd y (by decide), fun _ => ?_⟩) (fun hm => ⟨fun _ => hK σ frG.rf (fun a ha => by rw [hrm a, db_eq E h0 hS64, if_neg hm, Int64.mul_zero, Int64.add_zero]), fun y => absurd rfl y⟩)⟩
  refine LpE_for (S := Int32 × St) (fun i t => (nI (i + 1), t)) (fun i σ' => frG σ σ' ∧ ∀ a : Nat × Nat, a.1 ≤ n → XX p b f (rmU uB S h) uF σ' a = XX p b f (rmU uB S h) uF σ a + v3 * sm (wsM i S) (fun i => (if (h, i + 1) = a then p h (i + 1) * sm (f (i + 1) (S ^^^ 2 ^ i)) (prM p) else 0) + p h (i + 1) * sm (f (i + 1) (S ^^^ 2 ^ i)) (dMo p a))) n ?_ 0 σ (by omega) ⟨frG.rf, fun a ha => by rw [show wsM 0 S = [] from rfl, sm_nil, Int64.mul_zero, Int64.add_zero]⟩
  intro i σ' c hin ⟨f1, f2⟩ hc
  have hC' := CX.fr hn hC f1
  dsimp only
  unfold F_X5_spreadBranch_27
  rw [hC'.1, nI_ltI (by omega) (by omega)]
  refine ⟨fun y => ?_, fun y => hasNode_C hS64 (by omega) (fun hb => ⟨fun q => absurd q (by decide), fun _ => ?_⟩) (fun hb => ⟨fun _ v8 e8 => ?_, fun q => absurd rfl q⟩)⟩
  · have : i = n := by omega
    subst this
    refine hK σ' f1 (fun a ha => ?_)
    rw [f2 a ha, hrm a, db_eq E h0 hS64, if_pos hm]
  · have hb := inS_i.mp hb
    obtain ⟨x1, x2⟩ := bt_xor S hS64 i (by omega)
    have hlt := xor_lt S hS64 i (by omega) hb
    unfold P_X5_bit
    intro v11 e11
    rw [x1] at e11
    rw [e11]
    refine ⟨vp_in_nI (by omega) (by decide), vp_in_nI (by omega) (by decide), vp_in_nI (by omega) (by decide), vp_in_nI x2 (by decide), vp_in_nI (by omega) (by decide), fun s17 e17 => ⟨vp_in_nI (by omega) (by decide), vp_in_nI x2 (by decide), vp_in_nI (by omega) (by decide), vp_in_nI (by omega) (by decide), vp_in_nI x2 (by decide), fun s23 e23 v24 e24 => ?_⟩⟩
    rw [ix_nI (by omega), ix_nI (by omega), ix_nI (by omega), show 188 + 1 + h = 189 + h by omega, show 164 + 1 + (i + 1) = 165 + (i + 1) by omega, (hC'.2.2 _ (i + 1) (by omega) (by omega) (fun q => ((inS_bit hb).mp q).2 rfl)).2] at e17
    have hf17 : frG σ' s17 := by rw [e17]; exact frG.wL (by omega)
    have hC17 := CX.fr hn hC' hf17
    rw [ix_nI (by omega), ix_nI (by omega), ix_nI (by omega), show 180 + 1 + (i + 1) = 181 + (i + 1) by omega, show 148 + 1 + h = 149 + h by omega, hC17.2.1 h (i + 1) hh (by omega) (by omega)] at e23
    rw [nI_1] at e24
    rw [e24]
    refine hc s23 (by omega) ⟨f1.tr (hf17.tr (by rw [e23]; exact frG.wL (by omega))), fun a ha => ?_⟩
    rw [XX_f x2 (by omega) (by omega) (hu2 i (by omega) hb) e23, XX_a (by omega) e17, f2 a ha, rng_step, if_pos hb]
    by_cases q : (h, i + 1) = a
    · simp only [if_pos q, Int64.mul_add, Int64.mul_assoc, Int64.add_assoc, Int64.mul_comm (p h (i + 1)) (sm (f (i + 1) (S ^^^ 2 ^ i)) (prM p))]
    · simp only [if_neg q, Int64.mul_add, Int64.mul_assoc, Int64.add_assoc, Int64.zero_add, Int64.mul_zero]
  · have hb : ¬ S.testBit i = true := fun q => hb (inS_i.mpr q)
    rw [nI_1] at e8
    rw [e8]
    refine hc σ' (by omega) ⟨f1, fun a ha => ?_⟩
    rw [f2 a ha, rng_step, if_neg hb]
end SPREAD
