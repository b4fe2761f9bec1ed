/-! the reference: steps, prepares, looks -/
section STP
variable {σ : St} {n : Nat}
theorem hL_zer {m w : Nat} : hL (zer m) w = 0 := by
  unfold hL zer
  split
  · rfl
  · rw [List.getD_eq_getElem?_getD, List.getElem?_replicate]; split <;> rfl
theorem steps_M {K : Int32 → St → Prop} {c : List Nat} (hn : n ≤ 6) (hl : c ∈ allT n) (ht : ∀ w, 1 ≤ w → w ≤ n → σ.1 219 w = nI (hL c w)) (h1 : ∀ c' σ', stepL n 1 c = some c' → (σ'.2 = σ.2 ∧ ∀ k, k ≠ 219 → σ'.1 k = σ.1 k) → (∀ w, 1 ≤ w → w ≤ n → σ'.1 219 w = nI (hL c' w)) → K 1 σ') (h0 : ∀ σ', stepL n 1 c = none → (σ'.2 = σ.2 ∧ ∀ k, k ≠ 219 → σ'.1 k = σ.1 k) → K 0 σ') : P_X8_steps (nI n) σ K := by
  unfold P_X8_steps
  obtain ⟨hl1, hl2⟩ := allT_mem.mp hl
  refine LpE_for (S := Int32 × St) (fun i t => (nI (n - i), t)) (fun i σ' => (σ'.2 = σ.2 ∧ ∀ k, k ≠ 219 → σ'.1 k = σ.1 k) ∧ stepL n (n - i + 1) (c.drop (n - i)) = none ∧ (∀ u, 1 ≤ u → u ≤ n - i → σ'.1 219 u = nI (hL c u)) ∧ ∀ u, n - i < u → u ≤ n → σ'.1 219 u = 0) n ?_ 0 σ (by omega) ⟨⟨rfl, fun _ _ => rfl⟩, by rw [Nat.sub_zero, List.drop_of_length_le (by omega)]; rfl, fun u u1 u2 => ht u u1 (by omega), fun u u1 u2 => by omega⟩
  intro i σ' c2 hi ⟨f1, f2, f3, f4⟩ hc
  dsimp only
  unfold F_X8_steps_2
  rw [show (0 : Int32) = nI 0 from rfl, nI_leI (by omega) (by omega)]
  refine ⟨fun z => ?_, fun z => ⟨vp_in_nI (by omega) (by decide), vp_in_nI (by omega) (by decide), fun s3 e3 => ?_⟩⟩
  · have hin : n - i = 0 := by omega
    rw [hin, List.drop_zero] at f2
    exact h0 σ' f2 f1
  · have hw := hl2 (n - i) (by omega) (by omega)
    rw [ix_nI (by omega), f3 (n - i) (by omega) (by omega), nI_1] at e3
    have g3 : s3.1 219 (n - i) = nI (hL c (n - i) + 1) := by rw [e3]; exact wI_self
    rw [ix_nI (by omega), g3, nI_eq (by omega) (by omega)]
    have hdrop : c.drop (n - i - 1) = hL c (n - i) :: c.drop (n - i) := by
      have := drop_hd (l := c) (i := n - i - 1) (by omega)
      rw [show n - i - 1 + 1 = n - i by omega] at this
      exact this
    have hstep : stepL n (n - i - 1 + 1) (c.drop (n - i - 1)) = if (if hL c (n - i) + 1 = n - i then hL c (n - i) + 2 else hL c (n - i) + 1) ≤ n then some ((if hL c (n - i) + 1 = n - i then hL c (n - i) + 2 else hL c (n - i) + 1) :: zer i) else none := by
      rw [hdrop, show n - i - 1 + 1 = n - i by omega, stepL, f2]
      have : (c.drop (n - i)).length = i := by rw [List.length_drop]; omega
      rw [this]
    have h38 : ∀ d, hL c (n - i) + 1 + d = (if hL c (n - i) + 1 = n - i then hL c (n - i) + 2 else hL c (n - i) + 1) → J_X8_steps_38 K c2 (nI n) (nI (n - i)) (nI (n - i)) (nI (hL c (n - i) + 1)) (nI d) s3 := by
      intro d hd
      unfold J_X8_steps_38
      rw [← hd] at hstep
      have hd2 : d ≤ 1 := by split at hd <;> omega
      refine ⟨vp_in_nI (by omega) (by decide), fun s7 e7 => ?_⟩
      rw [ix_nI (by omega), nI_add] at e7
      have g7 : s7.1 219 (n - i) = nI (hL c (n - i) + 1 + d) := by rw [e7]; exact wI_self
      have fr7 : s7.2 = σ.2 ∧ ∀ k, k ≠ 219 → s7.1 k = σ.1 k := ⟨by rw [e7, wI_2, e3, wI_2]; exact f1.1, fun k hk => by rw [e7, wI_ne hk, e3, wI_ne hk]; exact f1.2 k hk⟩
      rw [ix_nI (by omega), g7, nI_ltI (by omega) (by omega)]
      refine ⟨vp_in_nI (by omega) (by decide), fun y => ⟨vp_in_nI (by omega) (by decide), fun s10 e10 v11 e11 => ?_⟩, fun y => ?_⟩
      · rw [if_neg (by omega)] at hstep
        rw [← Int32.sub_eq_add_neg, show nI (n - i) - 1 = nI (n - i - 1) from pk_sub (b := 1) (by omega), show n - i - 1 = n - (i + 1) by omega] at e11
        rw [e11]
        refine hc s10 (by omega) ⟨⟨by rw [e10, wI_2]; exact fr7.1, fun k hk => by rw [e10, wI_ne hk]; exact fr7.2 k hk⟩, hstep, fun u u1 u2 => ?_, fun u u1 u2 => ?_⟩
        · rw [e10, wI_ni (by omega), e7, wI_ni (by omega), e3, wI_ni (by omega)]; exact f3 u u1 (by omega)
        · rw [e10]
          by_cases e : u = n - i
          · rw [e]; exact wI_self
          · rw [wI_ni e, e7, wI_ni e, e3, wI_ni e]; exact f4 u (by omega) u2
      · rw [if_pos (by omega)] at hstep
        have hc' : stepL n 1 c = some (c.take (n - i - 1) ++ (hL c (n - i) + 1 + d) :: zer i) := by
          have := stepL_app (n := n) (c.take (n - i - 1)) 1 (c.drop (n - i - 1)) _ (by rw [List.length_take, show 1 + min (n - i - 1) c.length = n - i - 1 + 1 by omega]; exact hstep)
          rw [List.take_append_drop] at this; exact this
        refine h1 _ s7 hc' fr7 (fun u u1 u2 => ?_)
        have hlt : (c.take (n - i - 1)).length = n - i - 1 := by rw [List.length_take]; omega
        by_cases e : u = n - i
        · rw [e, g7]
          have := hL_mid (p := c.take (n - i - 1)) (r := zer i) (h := hL c (n - i) + 1 + d)
          rw [hlt, show n - i - 1 + 1 = n - i by omega] at this
          rw [this]
        · rw [e7, wI_ni e, e3, wI_ni e]
          rcases Nat.lt_or_ge u (n - i) with q | q
          · rw [f3 u u1 (by omega), hL_app (by omega), hL_take q (by omega)]
          · rw [f4 u (by omega) u2]
            unfold hL
            rw [if_neg (by omega), List.getD_eq_getElem?_getD, List.getElem?_append_right (by omega), hlt, show u - 1 - (n - i - 1) = (u - (n - i) - 1) + 1 by omega, List.getElem?_cons_succ]
            unfold zer
            rw [List.getElem?_replicate]
            split <;> rfl
    exact ⟨vp_in_nI (by omega) (by decide), vp_in_nI (by omega) (by decide), fun y => h38 1 (by rw [if_pos y]), fun y => h38 0 (by rw [if_neg y])⟩
end STP

/-- the potential of an arc -/
def potI (W : Nat → Int32) (x : SentT) (sh : Int32) (h w : Nat) : Int32 := if 0 ≤ scI W x h w + sh then (if scI W x h w + sh ≤ 20 then scI W x h w + sh else 20) else 0
def annL (x : SentT) : List Nat := (List.range (sZ x)).map (fun i => hdN x (i + 1))
theorem annL_get {x : SentT} {w : Nat} (w1 : 1 ≤ w) (w2 : w ≤ sZ x) : hL (annL x) w = hdN x w := by
  have : (annL x).length = sZ x := by unfold annL; rw [List.length_map, List.length_range]
  rw [hL_get w1 (by omega)]
  unfold annL
  rw [List.getElem_map, List.getElem_range, show w - 1 + 1 = w by omega]
theorem annL_len {x : SentT} : (annL x).length = sZ x := by unfold annL; rw [List.length_map, List.length_range]
def frY (σ σ' : St) : Prop := (∀ c, c ≠ 204 → c < 217 ∨ 222 < c → σ'.1 c = σ.1 c) ∧ (∀ f, f ≠ 21 → f ≠ 24 → f ≠ 28 → σ'.1 204 f = σ.1 204 f) ∧ (∀ c, c ≠ 204 → c ≠ 223 → σ'.2.1 c = σ.2.1 c) ∧ σ'.2.2 = σ.2.2
theorem frY.rf {a : St} : frY a a := ⟨fun _ _ _ => rfl, fun _ _ _ _ => rfl, fun _ _ _ => rfl, rfl⟩
theorem frY.tr {a b c : St} (h : frY a b) (h2 : frY b c) : frY a c := ⟨fun k k1 k2 => (h2.1 k k1 k2).trans (h.1 k k1 k2), fun f f1 f2 f3 => (h2.2.1 f f1 f2 f3).trans (h.2.1 f f1 f2 f3), fun k k1 k2 => (h2.2.2.1 k k1 k2).trans (h.2.2.1 k k1 k2), h2.2.2.2.trans h.2.2.2⟩
theorem frX_Y {a b : St} (h : frX a b) : frY a b := ⟨fun c c1 c2 => h.1 c c1 (by omega), h.2.1, h.2.2.1, h.2.2.2.2⟩
theorem frY_K {a b : St} (h : frY a b) : frK a b := ⟨fun k hk => ⟨h.1 k (by omega) (by omega), h.2.2.1 k (by omega) (by omega)⟩, h.2.2.2⟩
theorem frY_RM {a b : St} {s : AS} (hr : RM a s) (h : frY a b) : RM b s := RM_fr hr (fun k k1 k2 => h.1 k (by omega) (by omega)) (fun j hj => h.2.1 j (by omega) (by omega) (by omega))
section LOOK
variable {σ : St} {s : AS}
theorem prepares_M {K : St → Prop} {j : Nat} (hr : RM σ s) (hw : wf s) (hj : j < aM s) (hK : ∀ σ', frY σ σ' → LC (sZ (aS s j)) j (scI (aW s) (aS s j)) (potI (aW s) (aS s j) (aG s).2.2) (annL (aS s j)) σ' → LK (sZ (aS s j)) (scI (aW s) (aS s j)) (potI (aW s) (aS s j) (aG s).2.2) (annL (aS s j)) σ' [] → σ'.2.1 204 29 = -1 → K σ') : P_X8_prepares (nI j) σ K := by
  unfold P_X8_prepares
  have hm := hr.m4
  have hwS := hw.2.1.2 j hj
  have hz := hwS.1
  have hTR := wfS_TR hwS
  refine ⟨vp_in_nI (by omega) (by decide), fun v2 e2 => ?_⟩
  rw [ix_nI (by omega), hr.sz hj] at e2
  subst e2
  refine LpE_for1 (fun h σ' => frY σ σ' ∧ ∀ a w, a < h → 1 ≤ w → w ≤ sZ (aS s j) → a ≠ w → σ'.1 217 (7 * a + w) = scI (aW s) (aS s j) a w ∧ σ'.1 218 (7 * a + w) = potI (aW s) (aS s j) (aG s).2.2 a w) (sZ (aS s j) + 1) ?_ 0 σ (by omega) ⟨frY.rf, fun a w ha => absurd ha (Nat.not_lt_zero _)⟩
  intro h σ' c hh ⟨f1, f2⟩ hc
  dsimp only
  unfold F_X8_prepares_9
  rw [nI_ltI (by omega) (by omega)]
  refine ⟨fun z => ?_, fun z => ?_⟩
  · -- the sums begin
    refine LpE_for1 (fun k σ2 => (σ2.1 204 = σ'.1 204 ∧ (∀ c, c ≠ 222 → σ2.1 c = σ'.1 c) ∧ (∀ c, c ≠ 223 → σ2.2.1 c = σ'.2.1 c) ∧ σ2.2.2 = σ'.2.2) ∧ ∀ q, q < k → σ2.1 222 q = LOWV ∧ σ2.2.1 223 q = 0) 49 ?_ 0 σ' (by omega) ⟨⟨rfl, fun _ _ => rfl, fun _ _ => rfl, rfl⟩, fun q hq => absurd hq (Nat.not_lt_zero _)⟩
    intro k σ2 c2 hk ⟨g1, g2⟩ hc2
    dsimp only
    unfold F_X8_prepares_111
    rw [show (49 : Int32) = nI 49 from rfl, nI_leI (by omega) (by omega)]
    refine ⟨fun y s3 e3 s4 e4 s5 e5 s6 e6 s7 e7 => ?_, fun y => ⟨vp_in_nI (by omega) (by decide), fun s9 e9 => ⟨vp_in_nI (by omega) (by decide), fun s11 e11 v12 e12 => ?_⟩⟩⟩
    · have hi7 : s7.1 = (wI (wI (wI σ2 204 21 0) 204 24 0) 204 28 (-100000000)).1 := by rw [e7, wL_1, e6, e5, e4, e3]; rfl
      have ho : ∀ c, c ≠ 204 → s7.1 c = σ2.1 c := fun c hc => by rw [hi7, wI_ne hc, wI_ne hc, wI_ne hc]
      have hl7 : ∀ c f, s7.2.1 c f = if c = 204 ∧ f = 29 then -1 else if c = 204 ∧ f = 25 then 0 else σ2.2.1 c f := fun c f => by
        rw [e7, wL_at, e6, wI_2, e5, wL_at, e4, wI_2, e3, wI_2]
      refine hK s7 (f1.tr ⟨fun c c1 c2 => by rw [ho c c1]; exact g1.2.1 c (by omega), fun f a b d => by rw [hi7, wI_ni d, wI_ni b, wI_ni a, g1.1], fun c c1 c2 => ?_, ?_⟩) ⟨hz.1, hz.2, by omega, ?_, fun a w a1 w1 w2 hne => ?_, fun w w1 w2 => ?_, annL_len, fun w w1 w2 => by rw [annL_get w1 w2]; exact (hTR.ht w w1 w2).1⟩ ⟨⟨?_, Nat.zero_le _, fun i hi => absurd hi (Nat.not_lt_zero _)⟩, ?_, ?_, fun a w a1 w1 w2 => ?_, ?_⟩ ?_
      · funext f; rw [hl7, if_neg (fun q => c1 q.1), if_neg (fun q => c1 q.1), g1.2.2.1 c c2]
      · rw [e7, wL_22, e6, wI_2, e5, wL_22, e4, wI_2, e3, wI_2]; exact g1.2.2.2
      · rw [ho 206 (by omega), g1.2.1 206 (by omega), f1.1 206 (by omega) (by omega)]; exact hr.sz hj
      · rw [ho 217 (by omega), ho 218 (by omega), g1.2.1 217 (by omega), g1.2.1 218 (by omega)]; exact f2 a w (by omega) w1 w2 hne
      · rw [ho 208 (by omega), g1.2.1 208 (by omega), f1.1 208 (by omega) (by omega), hr.hd hj w1 w2, annL_get w1 w2]; exact wfS_hd hwS w1 w2
      · rw [hi7, wI_ni (by omega), wI_ni (by omega)]; exact wI_self
      · rw [hi7, wI_ni (by omega)]; exact wI_self
      · rw [hl7, if_neg (by omega), if_pos ⟨rfl, rfl⟩]; rfl
      · rw [ho 222 (by omega), hl7, if_neg (by omega), if_neg (by omega)]
        exact g2 (7 * a + w) (by omega)
      · rw [hi7]; exact wI_self
      · rw [hl7, if_pos ⟨rfl, rfl⟩]
    · rw [nI_1] at e12
      rw [ix_nI (by omega)] at e9 e11
      rw [e12]
      refine hc2 s11 (by omega) ⟨⟨by rw [e11, wL_1, e9, wI_ne (by omega)]; exact g1.1, fun c hc => by rw [e11, wL_1, e9, wI_ne hc]; exact g1.2.1 c hc, fun c hc => by rw [e11, wL_ne hc, e9, wI_2]; exact g1.2.2.1 c hc, by rw [e11, wL_22, e9, wI_2]; exact g1.2.2.2⟩, fun q hq => ?_⟩
      rw [e11, wL_1, wL_at, e9]
      by_cases e : q = k
      · rw [e, wI_self, if_pos ⟨rfl, rfl⟩]; exact ⟨rfl, rfl⟩
      · rw [wI_ni e, if_neg (fun y => e y.2), wI_2]; exact g2 q (by omega)
  · refine LpE_for (S := Int32 × St) (fun i t => (nI (i + 1), t)) (fun i σ2 => frY σ σ2 ∧ (∀ a w, a < h → 1 ≤ w → w ≤ sZ (aS s j) → a ≠ w → σ2.1 217 (7 * a + w) = scI (aW s) (aS s j) a w ∧ σ2.1 218 (7 * a + w) = potI (aW s) (aS s j) (aG s).2.2 a w) ∧ ∀ w, 1 ≤ w → w ≤ i → h ≠ w → σ2.1 217 (7 * h + w) = scI (aW s) (aS s j) h w ∧ σ2.1 218 (7 * h + w) = potI (aW s) (aS s j) (aG s).2.2 h w) (sZ (aS s j)) ?_ 0 σ' (by omega) ⟨f1, f2, fun w w1 w2 => by omega⟩
    intro i σ2 c2 hi ⟨g1, g2, g3⟩ hc2
    dsimp only
    unfold F_X8_prepares_17
    rw [nI_ltI (by omega) (by omega), nI_eq (by omega) (by omega), nI_1, nI_1, pl7]
    refine ⟨fun y v13 e13 => ?_, fun y => ⟨fun y2 v14 e14 => ?_, fun y2 => scoreOf_M (frY_RM hr g1) hw hj (by omega) (by omega) (by omega) y2 ⟨vp_in_nI (by omega) (by decide), fun s18 e18 v19 e19 => ?_⟩⟩⟩
    · rw [e13]
      refine hc σ2 (by omega) ⟨g1, fun a w ha w1 w2 hne => ?_⟩
      by_cases e : a = h
      · subst e; exact g3 w w1 (by omega) hne
      · exact g2 a w (by omega) w1 w2 hne
    · rw [e14]
      refine hc2 σ2 (by omega) ⟨g1, g2, fun w w1 w2 hne => g3 w w1 (by omega) hne⟩
    · rw [ix_nI (by omega)] at e18
      have hsh : s18.1 204 13 = (aG s).2.2 := by rw [e18, wI_ne (by omega)]; exact (frY_RM hr g1).g3
      rw [hsh] at e19
      have hfin : ∀ s21 : St, s21 = wI s18 218 (7 * h + (i + 1)) (potI (aW s) (aS s j) (aG s).2.2 h (i + 1)) → c2 (nI (i + 1 + 1), s21) := by
        intro s21 e21
        refine hc2 s21 (by omega) ⟨g1.tr ⟨fun c c1 cc => by rw [e21, wI_ne (by omega), e18, wI_ne (by omega)], fun f _ _ _ => by rw [e21, wI_ne (by omega), e18, wI_ne (by omega)], fun c _ _ => by rw [e21, wI_2, e18, wI_2], by rw [e21, wI_2, e18, wI_2]⟩, fun a w ha w1 w2 hne => ?_, fun w w1 w2 hne => ?_⟩
        · rw [e21, wI_ne (show (217 : Nat) ≠ 218 by decide), wI_ni (by omega), e18, wI_ni (by omega), wI_ne (by omega)]; exact g2 a w ha w1 w2 hne
        · rw [e21, wI_ne (show (217 : Nat) ≠ 218 by decide)]
          by_cases e : w = i + 1
          · subst e
            rw [wI_self, e18, wI_self]; exact ⟨rfl, rfl⟩
          · rw [wI_ni (by omega), e18, wI_ni (by omega), wI_ne (show (218 : Nat) ≠ 217 by decide)]; exact g3 w w1 (by omega) hne
      rw [ix_nI (by omega), e19]
      refine ⟨fun y3 => ⟨fun y4 => ⟨vp_in_nI (by omega) (by decide), fun s21 e21 v22 e22 => ?_⟩, fun y4 => ⟨vp_in_nI (by omega) (by decide), fun s24 e24 v25 e25 => ?_⟩⟩, fun y3 => ⟨vp_in_nI (by omega) (by decide), fun s27 e27 v28 e28 => ?_⟩⟩
      · rw [e22]; exact hfin s21 (by rw [e21]; unfold potI; rw [if_pos y3, if_pos y4])
      · rw [e25]; exact hfin s24 (by rw [e24]; unfold potI; rw [if_pos y3, if_neg y4])
      · rw [e28]; exact hfin s27 (by rw [e27]; unfold potI; rw [if_neg y3])
theorem begins_M {K : St → Prop} (hK : ∀ σ', (σ'.2 = σ.2 ∧ ∀ c, c ≠ 219 → σ'.1 c = σ.1 c) → (∀ w, w < 7 → σ'.1 219 w = 0) → K σ') : P_X8_begins σ K := by
  unfold P_X8_begins
  refine LpE_for1 (fun i σ' => (σ'.2 = σ.2 ∧ ∀ c, c ≠ 219 → σ'.1 c = σ.1 c) ∧ ∀ w, w < i → σ'.1 219 w = 0) 7 ?_ 0 σ (by omega) ⟨⟨rfl, fun _ _ => rfl⟩, fun w hw => absurd hw (Nat.not_lt_zero _)⟩
  intro i σ' c hi ⟨f1, f2⟩ hc
  dsimp only
  unfold F_X8_begins_2
  rw [show (7 : Int32) = nI 7 from rfl, nI_leI (by omega) (by omega)]
  refine ⟨fun z => hK σ' f1 (fun w hw => f2 w (by omega)), fun z => ⟨vp_in_nI (by omega) (by decide), fun s2 e2 v3 e3 => ?_⟩⟩
  rw [nI_1] at e3
  rw [ix_nI (by omega)] at e2
  rw [e3]
  refine hc s2 (by omega) ⟨⟨by rw [e2, wI_2]; exact f1.1, fun c hc => by rw [e2, wI_ne hc]; exact f1.2 c hc⟩, fun w hw => ?_⟩
  rw [e2]
  by_cases e : w = i
  · rw [e]; exact wI_self
  · rw [wI_ni e]; exact f2 w (by omega)
/-- the settings as propositions -/
abbrev sgP (s : AS) : Prop := (aG s).1 ≠ 0
abbrev pjP (s : AS) : Prop := (aG s).2.1 ≠ 0
/-- all admissible trees, in order -/
noncomputable def admL (s : AS) (j : Nat) : List (List Nat) := (allT (sZ (aS s j))).filter (fun l => @decide (admT (sgP s) (pjP s) (chP (aS s j)) (sZ (aS s j)) l) (Classical.propDecidable _))
theorem scI_bd {s : AS} (hw : wf s) {j : Nat} (hj : j < aM s) (h w : Nat) : -2100 ≤ (scI (aW s) (aS s j) h w).toInt ∧ (scI (aW s) (aS s j) h w).toInt ≤ 2100 := by
  have h1 := hw.2.2.1 (8 * tgN (aS s j) h + tgN (aS s j) w)
  have h2 := hw.2.2.1 (dPl h w)
  have h3 := ((hw.2.1.2 j hj).2.2.2 h w).1
  unfold scI scT
  have e1 : (aW s (8 * tgN (aS s j) h + tgN (aS s j) w) + aW s (dPl h w)).toInt = (aW s (8 * tgN (aS s j) h + tgN (aS s j) w)).toInt + (aW s (dPl h w)).toInt := by
    rw [Int32.toInt_add]; exact Int.bmod_eq_of_le (by omega) (by omega)
  rw [Int32.toInt_add, e1, Int.bmod_eq_of_le (by omega) (by omega)]
  omega
theorem rk_part {s : AS} (hw : wf s) {j : Nat} (hj : j < aM s) {A : List (List Nat)} {l : List Nat} (hp : (A ++ [l]).Pairwise (fun a b => cod 1 a < cod 1 b)) (hm : ∀ r, r ∈ A ++ [l] → r ∈ allT (sZ (aS s j))) : rkL (scI (aW s) (aS s j)) A = (rkL (scI (aW s) (aS s j)) A).filter (fun r => decide ((scL (scI (aW s) (aS s j)) l).toInt ≤ (scL (scI (aW s) (aS s j)) r).toInt)) ++ (rkL (scI (aW s) (aS s j)) A).filter (fun r => !decide ((scL (scI (aW s) (aS s j)) l).toInt ≤ (scL (scI (aW s) (aS s j)) r).toInt)) := by
  have hn6 := ((hw.2.1.2 j hj).1).2
  have hb := fun h w => scI_bd hw hj h w
  obtain ⟨h1, h2⟩ := rk_top hb hn6 A [] (by rw [List.nil_append]; exact (List.pairwise_append.mp hp).1) (fun r hr => hm r (by rw [List.nil_append] at hr; exact List.mem_append_left _ hr)) [] (Top.nil (fun v ⟨l, hl, _⟩ => by cases hl)) (fun r hr => by cases hr)
  have hpw := h1.2.1
  rw [List.pairwise_map] at hpw
  refine part_filter _ _ (hpw.imp_of_mem (fun {a b} ha hb' hab hpb => ?_))
  rw [decide_eq_true_iff] at hpb ⊢
  have ha2 := hm a (List.mem_append_left _ (by have := h2 a ha; rw [List.nil_append] at this; exact this))
  have hb2 := hm b (List.mem_append_left _ (by have := h2 b hb'; rw [List.nil_append] at this; exact this))
  have ca := WT_code hn6 ha2
  have cb := WT_code hn6 hb2
  have sa := scL_toInt hb (l := a) (by have := (all6 hn6 ha2).1; omega)
  have sb := scL_toInt hb (l := b) (by have := (all6 hn6 hb2).1; omega)
  rw [WT_eq, WT_eq] at hab
  omega
theorem looks_M {K : St → Prop} {j : Nat} (hr : RM σ s) (hw : wf s) (hj : j < aM s) (hK : ∀ σ', frY σ σ' → RM σ' s → LC (sZ (aS s j)) j (scI (aW s) (aS s j)) (potI (aW s) (aS s j) (aG s).2.2) (annL (aS s j)) σ' → LK (sZ (aS s j)) (scI (aW s) (aS s j)) (potI (aW s) (aS s j) (aG s).2.2) (annL (aS s j)) σ' (admL s j) → σ'.2.1 204 29 = -1 → K σ') : P_X8_looks (nI j) σ K := by
  unfold P_X8_looks
  have hm := hr.m4
  have hwS := hw.2.1.2 j hj
  have hz := hwS.1
  refine prepares_M hr hw hj (fun σ1 f1 hC1 hL1 h29 => begins_M (fun σ2 b1 b2 => ?_))
  have hall := allT_sorted hz.2
  have key : ∀ (E D : List (List Nat)) (c : List Nat) (σ' : St), allT (sZ (aS s j)) = D ++ c :: E → frX σ1 σ' → (∀ w, 1 ≤ w → w ≤ sZ (aS s j) → σ'.1 219 w = nI (hL c w)) → LK (sZ (aS s j)) (scI (aW s) (aS s j)) (potI (aW s) (aS s j) (aG s).2.2) (annL (aS s j)) σ' (D.filter (fun l => @decide (admT (sgP s) (pjP s) (chP (aS s j)) (sZ (aS s j)) l) (Classical.propDecidable _))) → Lp (fun c s => F_X8_looks_11 K c (nI j) s.1 s.2) (E.length + 2) (1, σ') := by
    intro E
    induction E with
    | nil =>
      intro D c σ' hall2 hf ht hL
      have hcm : c ∈ allT (sZ (aS s j)) := by rw [hall2]; simp
      have hC := hC1.fr hf
      have hRM := frY_RM hr (f1.tr (frX_Y hf))
      show F_X8_looks_11 K _ (nI j) 1 σ'
      unfold F_X8_looks_11
      refine ⟨fun z => absurd z (by decide), fun _ => ?_⟩
      have h28 : ∀ σ3, frX σ' σ3 → σ3.1 219 = σ'.1 219 → LK (sZ (aS s j)) (scI (aW s) (aS s j)) (potI (aW s) (aS s j) (aG s).2.2) (annL (aS s j)) σ3 (admL s j) → J_X8_looks_28 K (Lp (fun c s => F_X8_looks_11 K c (nI j) s.1 s.2) 1) (nI j) σ3 := by
        intro σ3 r1 r2 r3
        unfold J_X8_looks_28
        have hC3 := hC.fr r1
        refine ⟨vp_in_nI (by omega) (by decide), ?_⟩
        rw [ix_nI (by omega), hC3.h206]
        have hst : stepL (sZ (aS s j)) 1 c = none := stepL_chain _ 1 D c [] hall2
        refine steps_M hz.2 hcm (fun w w1 w2 => by rw [r2]; exact ht w w1 w2) (fun c' σ4 e _ _ => by rw [hst] at e; cases e) (fun σ4 _ t1 => ?_)
        show F_X8_looks_11 K _ (nI j) 0 σ4
        unfold F_X8_looks_11
        refine ⟨fun _ => ?_, fun z => absurd rfl z⟩
        have f4 : frX σ3 σ4 := ⟨fun c c1 c2 => t1.2 c (by omega), fun f _ _ _ => by rw [t1.2 204 (by omega)], fun c _ _ => by rw [t1.1], fun f _ => by rw [t1.1], by rw [t1.1]⟩
        refine hK σ4 (f1.tr (frX_Y (hf.tr (r1.tr f4)))) (frY_RM hr (f1.tr (frX_Y (hf.tr (r1.tr f4))))) (hC3.fr f4) ⟨⟨by rw [t1.2 204 (by omega)]; exact r3.rk.1, r3.rk.2.1, fun i hi => Row_fr (r3.rk.2.2 i hi) (by rw [t1.2 220 (by omega)]) (fun w _ _ => by rw [t1.2 221 (by omega)])⟩, by rw [t1.2 204 (by omega)]; exact r3.ct, by rw [t1.1]; exact r3.wa, fun a w a1 w1 w2 => by rw [t1.2 222 (by omega), t1.1]; exact r3.ab a w a1 w1 w2, by rw [t1.2 204 (by omega)]; exact r3.bo⟩ (by rw [t1.1, r1.2.2.2.1 29 (by decide), hf.2.2.2.1 29 (by decide)]; exact h29)
      have hadm : admL s j = (D ++ [c]).filter (fun l => @decide (admT (sgP s) (pjP s) (chP (aS s j)) (sZ (aS s j)) l) (Classical.propDecidable _)) := by unfold admL; rw [hall2]
      refine isAdm_M (sg := sgP s) (pj := pjP s) (by omega) hz.1 hz.2 rfl hcm hC.h206 (fun a w a1 w1 => hRM.co hj a1 w1) ht (by rw [hRM.g1]) (by rw [hRM.g2]) (fun ha => ⟨fun z => absurd z (by decide), fun _ => ?_⟩) (fun ha => ⟨fun _ => h28 σ' frX.rf rfl ?_, fun z => absurd rfl z⟩)
      · have hpa : D.filter (fun l => @decide (admT (sgP s) (pjP s) (chP (aS s j)) (sZ (aS s j)) l) (Classical.propDecidable _)) ++ [c] = (D ++ [c]).filter (fun l => @decide (admT (sgP s) (pjP s) (chP (aS s j)) (sZ (aS s j)) l) (Classical.propDecidable _)) := by
          rw [List.filter_append, List.filter_cons, if_pos (by simpa using ha)]; rfl
        refine meets_M hC hcm ht hL (rk_part hw hj (by rw [hpa]; rw [hall2] at hall; exact hall.sublist List.filter_sublist) (fun r hr => by rw [hpa] at hr; rw [hall2]; exact (List.mem_filter.mp hr).1)) (fun σ3 r1 r2 r3 => h28 σ3 r1 r2 ?_)
        rw [hadm, ← hpa]; exact r3
      · rw [hadm, List.filter_append, List.filter_cons, if_neg (by simpa using ha)]
        simpa using hL
    | cons e E ih =>
      intro D c σ' hall2 hf ht hL
      have hcm : c ∈ allT (sZ (aS s j)) := by rw [hall2]; simp
      have hC := hC1.fr hf
      have hRM := frY_RM hr (f1.tr (frX_Y hf))
      show F_X8_looks_11 K _ (nI j) 1 σ'
      unfold F_X8_looks_11
      refine ⟨fun z => absurd z (by decide), fun _ => ?_⟩
      have h28 : ∀ σ3, frX σ' σ3 → σ3.1 219 = σ'.1 219 → LK (sZ (aS s j)) (scI (aW s) (aS s j)) (potI (aW s) (aS s j) (aG s).2.2) (annL (aS s j)) σ3 ((D ++ [c]).filter (fun l => @decide (admT (sgP s) (pjP s) (chP (aS s j)) (sZ (aS s j)) l) (Classical.propDecidable _))) → J_X8_looks_28 K (Lp (fun c s => F_X8_looks_11 K c (nI j) s.1 s.2) (E.length + 2)) (nI j) σ3 := by
        intro σ3 r1 r2 r3
        unfold J_X8_looks_28
        have hC3 := hC.fr r1
        refine ⟨vp_in_nI (by omega) (by decide), ?_⟩
        rw [ix_nI (by omega), hC3.h206]
        have hst : stepL (sZ (aS s j)) 1 c = some e := stepL_chain _ 1 D c (e :: E) hall2
        refine steps_M hz.2 hcm (fun w w1 w2 => by rw [r2]; exact ht w w1 w2) (fun c' σ4 ee t1 t2 => ?_) (fun σ4 ee _ => by rw [hst] at ee; cases ee)
        rw [hst] at ee
        cases ee
        have f4 : frX σ3 σ4 := ⟨fun c c1 c2 => t1.2 c (by omega), fun f _ _ _ => by rw [t1.2 204 (by omega)], fun c _ _ => by rw [t1.1], fun f _ => by rw [t1.1], by rw [t1.1]⟩
        exact ih (D ++ [c]) e σ4 (by rw [hall2]; simp) (hf.tr (r1.tr f4)) t2 ⟨⟨by rw [t1.2 204 (by omega)]; exact r3.rk.1, r3.rk.2.1, fun i hi => Row_fr (r3.rk.2.2 i hi) (by rw [t1.2 220 (by omega)]) (fun w _ _ => by rw [t1.2 221 (by omega)])⟩, by rw [t1.2 204 (by omega)]; exact r3.ct, by rw [t1.1]; exact r3.wa, fun a w a1 w1 w2 => by rw [t1.2 222 (by omega), t1.1]; exact r3.ab a w a1 w1 w2, by rw [t1.2 204 (by omega)]; exact r3.bo⟩
      refine isAdm_M (sg := sgP s) (pj := pjP s) (by omega) hz.1 hz.2 rfl hcm hC.h206 (fun a w a1 w1 => hRM.co hj a1 w1) ht (by rw [hRM.g1]) (by rw [hRM.g2]) (fun ha => ⟨fun z => absurd z (by decide), fun _ => ?_⟩) (fun ha => ⟨fun _ => h28 σ' frX.rf rfl ?_, fun z => absurd rfl z⟩)
      · have hpa : D.filter (fun l => @decide (admT (sgP s) (pjP s) (chP (aS s j)) (sZ (aS s j)) l) (Classical.propDecidable _)) ++ [c] = (D ++ [c]).filter (fun l => @decide (admT (sgP s) (pjP s) (chP (aS s j)) (sZ (aS s j)) l) (Classical.propDecidable _)) := by
          rw [List.filter_append, List.filter_cons, if_pos (by simpa using ha)]; rfl
        have hall3 : allT (sZ (aS s j)) = (D ++ [c]) ++ (e :: E) := by rw [hall2]; simp
        refine meets_M hC hcm ht hL (rk_part hw hj (by rw [hpa]; rw [hall3] at hall; exact (List.pairwise_append.mp hall).1.sublist List.filter_sublist) (fun r hr => by rw [hpa] at hr; rw [hall3]; exact List.mem_append_left _ (List.mem_filter.mp hr).1)) (fun σ3 r1 r2 r3 => h28 σ3 r1 r2 ?_)
        rw [← hpa]; exact r3
      · rw [List.filter_append, List.filter_cons, if_neg (by simpa using ha)]
        simpa using hL
  obtain ⟨E, hE⟩ := seqs_head (n := sZ (aS s j)) (sZ (aS s j)) 1
  have f2 : frX σ1 σ2 := ⟨fun c c1 c2 => b1.2 c (by omega), fun f _ _ _ => by rw [b1.2 204 (by omega)], fun c _ _ => by rw [b1.1], fun f _ => by rw [b1.1], by rw [b1.1]⟩
  refine ⟨E.length + 2, key E [] (zer (sZ (aS s j))) σ2 hE f2 (fun w w1 w2 => by rw [b2 w (by omega), hL_zer]; rfl) ⟨⟨by rw [b1.2 204 (by omega)]; exact hL1.rk.1, hL1.rk.2.1, fun i hi => absurd hi (Nat.not_lt_zero _)⟩, by rw [b1.2 204 (by omega)]; exact hL1.ct, by rw [b1.1]; exact hL1.wa, fun a w a1 w1 w2 => by rw [b1.2 222 (by omega), b1.1]; exact hL1.ab a w a1 w1 w2, by rw [b1.2 204 (by omega)]; exact hL1.bo⟩⟩
end LOOK
