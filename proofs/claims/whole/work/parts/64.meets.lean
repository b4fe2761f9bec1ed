/-! the reference: isAdmissible, meets -/
section ADMM
variable {σ : St} {s : AS}
theorem isAdm_M {K : Int32 → St → Prop} {j n : Nat} {x : SentT} {sg pj : Prop} {l : List Nat} (hj : j < 4) (hn1 : 1 ≤ n) (hn : n ≤ 6) (hz : sZ x = n) (hl : l ∈ allT n) (h206 : σ.1 206 j = nI n) (hco : ∀ h w, h < 7 → w < 7 → σ.1 210 (49 * j + 7 * h + w) = sCo x h w) (ht : ∀ w, 1 ≤ w → w ≤ n → σ.1 219 w = nI (hL l w)) (hsg : σ.1 204 11 ≠ 0 ↔ sg) (hpj : σ.1 204 12 ≠ 0 ↔ pj) (h1 : admT sg pj (chP x) n l → K 1 σ) (h0 : ¬ admT sg pj (chP x) n l → K 0 σ) : P_X8_isAdmissible (nI j) σ K := by
  unfold P_X8_isAdmissible
  obtain ⟨hl1, hl2⟩ := allT_mem.mp hl
  have href := admT_ref (sg := sg) (pj := pj) (ch := chP x) hn1 hl
  refine ⟨vp_in_nI hj (by decide), fun v2 e2 => ?_⟩
  rw [ix_nI (by omega), h206] at e2
  subst e2
  have arcE : ∀ h w, 49 * nI j + 7 * nI h + nI w = nI (49 * j + 7 * h + w) := fun h w => by
    rw [show (49 : Int32) = nI 49 from rfl, show (7 : Int32) = nI 7 from rfl, pk_mul, pk_mul, nI_add, nI_add]
  refine LpE_for (S := Int32 × Int32 × St) (T := Unit) (fun i _ => (nI (rtC (hL l) i), nI (i + 1), σ)) (fun i _ => ∀ w, 1 ≤ w → w ≤ i → chP x (hL l w) w) n ?_ 0 () (by omega) (fun w w1 w2 => by omega)
  intro i _ c hi hI hc
  dsimp only
  unfold F_X8_isAdmissible_12
  have hrt := rtC_le (hL l) i
  rw [nI_ltI (by omega) (by omega)]
  refine ⟨fun z => ?_, fun z => ⟨vp_in_nI (by omega) (by decide), ?_⟩⟩
  · have hin : i = n := by omega
    subst hin
    have h135 : rtC (hL l) i ≠ 0 → (sg → rtC (hL l) i = 1) → J_X8_isAdmissible_135 K (nI i) σ := by
      intro r1 r2
      unfold J_X8_isAdmissible_135
      refine isTree_M (f := 0) (t := hL l) (by omega) (by omega) (show 0 + i < 7 by omega) (by decide) (fun v v1 v2 => by rw [Nat.zero_add]; exact ⟨ht v v1 v2, by have := (hl2 v v1 v2).1; omega⟩) (fun htr => ⟨fun y => absurd y (by decide), fun _ => ?_⟩) (fun htr => ⟨fun _ => h0 (fun hh => by rw [(href.mp hh).2.2.2.1] at htr; cases htr), fun y => absurd rfl y⟩)
      refine ⟨fun y => h1 (href.mpr ⟨hI, r1, r2, htr, fun hp => absurd y (hpj.mpr hp)⟩), fun y => crossed_M (f := 0) (t := hL l) hn1 hn (by omega) (show 0 + i < 7 by omega) (by decide) (fun v v1 v2 => by rw [Nat.zero_add]; exact ⟨ht v v1 v2, (hl2 v v1 v2).1⟩) ?_⟩
      have hcl := crA_le (hL l) (i + 1)
      have hb : (i + 1) * (i + 1) ≤ 7 * 7 := Nat.mul_le_mul (by omega) (by omega)
      rw [show (0 : Int32) = nI 0 from rfl, nI_eq (by omega) (by omega)]
      exact ⟨fun y2 => h1 (href.mpr ⟨hI, r1, r2, htr, fun _ => y2⟩), fun y2 => h0 (fun hh => y2 ((href.mp hh).2.2.2.2 (hpj.mp y)))⟩
    rw [show (0 : Int32) = nI 0 from rfl, nI_eq (by omega) (by omega), show (1 : Int32) = nI 1 from rfl, nI_eq (by omega) (by omega)]
    refine ⟨fun y => h0 (fun hh => (href.mp hh).2.1 y), fun y => ⟨fun y2 => h135 y (fun hs => absurd y2 (hsg.mpr hs)), fun y2 => ⟨fun y3 => h135 y (fun _ => y3), fun y3 => h0 (fun hh => y3 ((href.mp hh).2.2.1 (hsg.mp y2)))⟩⟩⟩
  · have hw := hl2 (i + 1) (by omega) (by omega)
    have h34 : ∀ d, rtC (hL l) (i + 1) = rtC (hL l) i + d → J_X8_isAdmissible_34 K c (nI j) (nI n) (nI (i + 1)) (nI (rtC (hL l) i)) (nI d) σ := by
      intro d hd
      unfold J_X8_isAdmissible_34 P_X8_arc
      intro v8 e8
      rw [nI_add, ← hd] at e8
      subst e8
      rw [ix_nI (by omega), ht (i + 1) (by omega) (by omega), arcE]
      dsimp only
      rw [ix_nI (by omega), hco _ _ (by omega) (by omega)]
      refine ⟨vp_in_nI (by omega) (by decide), vp_in_nI (by omega) (by decide), fun y => h0 (fun hh => ((href.mp hh).1 (i + 1) (by omega) (by omega)).2.2.1 y), fun y => ?_⟩
      refine LpE_for (S := Int32 × St) (T := Unit) (fun h _ => (nI h, σ)) (fun h _ => ∀ h', h' < h → h' ≠ i + 1 → h' ≠ hL l (i + 1) → sCo x h' (i + 1) ≠ 1) (n + 1) ?_ 0 () (by omega) (fun h' hh => absurd hh (Nat.not_lt_zero _))
      intro h _ c2 hh hI2 hc2
      dsimp only
      unfold F_X8_isAdmissible_63 P_X8_arc
      rw [nI_ltI (by omega) (by omega), nI_eq (by omega) (by omega), ix_nI (by omega), ht (i + 1) (by omega) (by omega), nI_eq (by omega) (by omega), arcE, nI_1, nI_1]
      have hgo : (h = i + 1 ∨ h = hL l (i + 1) ∨ sCo x h (i + 1) ≠ 1) → h < n + 1 → c2 (nI (h + 1), σ) := by
        intro hq hlt
        refine hc2 () hlt (fun h' a1 a2 a3 => ?_)
        by_cases e : h' = h
        · subst e
          rcases hq with q | q | q
          · exact absurd q a2
          · exact absurd q a3
          · exact q
        · exact hI2 h' (by omega) a2 a3
      refine ⟨fun y2 v13 e13 => ?_, fun y2 => ⟨fun y3 v14 e14 => by rw [e14]; exact hgo (Or.inl y3) (by omega), fun y3 => ⟨vp_in_nI (by omega) (by decide), fun y4 v16 e16 => by rw [e16]; exact hgo (Or.inr (Or.inl y4)) (by omega), fun y4 => ?_⟩⟩⟩
      · rw [e13]
        refine hc () (by omega) (fun w w1 w2 => ?_)
        by_cases e : w = i + 1
        · subst e
          exact ⟨by omega, hw.2, y, fun h' a1 a2 a3 => hI2 h' (by omega) a2 a3⟩
        · exact hI w w1 (by omega)
      · dsimp only
        rw [ix_nI (by omega), hco _ _ (by omega) (by omega)]
        refine ⟨vp_in_nI (by omega) (by decide), fun y5 => h0 (fun hh => ((href.mp hh).1 (i + 1) (by omega) (by omega)).2.2.2 h (by omega) y3 y4 y5), fun y5 v20 e20 => by rw [e20]; exact hgo (Or.inr (Or.inr y5)) (by omega)⟩
    rw [ix_nI (by omega), ht (i + 1) (by omega) (by omega), show (0 : Int32) = nI 0 from rfl, nI_eq (by omega) (by omega)]
    exact ⟨fun y => h34 1 (by rw [rtC, if_pos y]), fun y => h34 0 (by rw [rtC, if_neg y])⟩
end ADMM
/-- what lies still while the reference looks -/
def LC (n j : Nat) (sc pt : Nat → Nat → Int32) (an : List Nat) (σ : St) : Prop := (1 ≤ n) ∧ (n ≤ 6) ∧ (j < 4) ∧ (σ.1 206 j = nI n) ∧ (∀ h w, h ≤ n → 1 ≤ w → w ≤ n → h ≠ w → σ.1 217 (7 * h + w) = sc h w ∧ σ.1 218 (7 * h + w) = pt h w) ∧ (∀ w, 1 ≤ w → w ≤ n → σ.1 208 (7 * j + w) = nI (hL an w)) ∧ (an.length = n ∧ ∀ w, 1 ≤ w → w ≤ n → hL an w ≤ n)
theorem LC.n1 {n j : Nat} {sc pt : Nat → Nat → Int32} {an : List Nat} {σ : St} (h : LC n j sc pt an σ) : 1 ≤ n := h.1
theorem LC.n6 {n j : Nat} {sc pt : Nat → Nat → Int32} {an : List Nat} {σ : St} (h : LC n j sc pt an σ) : n ≤ 6 := h.2.1
theorem LC.j4 {n j : Nat} {sc pt : Nat → Nat → Int32} {an : List Nat} {σ : St} (h : LC n j sc pt an σ) : j < 4 := h.2.2.1
theorem LC.h206 {n j : Nat} {sc pt : Nat → Nat → Int32} {an : List Nat} {σ : St} (h : LC n j sc pt an σ) : σ.1 206 j = nI n := h.2.2.2.1
theorem LC.h217 {n j : Nat} {sc pt : Nat → Nat → Int32} {an : List Nat} {σ : St} (h : LC n j sc pt an σ) : ∀ h w, h ≤ n → 1 ≤ w → w ≤ n → h ≠ w → σ.1 217 (7 * h + w) = sc h w ∧ σ.1 218 (7 * h + w) = pt h w := h.2.2.2.2.1
theorem LC.h208 {n j : Nat} {sc pt : Nat → Nat → Int32} {an : List Nat} {σ : St} (h : LC n j sc pt an σ) : ∀ w, 1 ≤ w → w ≤ n → σ.1 208 (7 * j + w) = nI (hL an w) := h.2.2.2.2.2.1
theorem LC.anl {n j : Nat} {sc pt : Nat → Nat → Int32} {an : List Nat} {σ : St} (h : LC n j sc pt an σ) : an.length = n ∧ ∀ w, 1 ≤ w → w ≤ n → hL an w ≤ n := h.2.2.2.2.2.2
/-- what it has added up -/
def LK (n : Nat) (sc pt : Nat → Nat → Int32) (an : List Nat) (σ : St) (A : List (List Nat)) : Prop := (RKc sc n σ (rkL sc A)) ∧ (σ.1 204 24 = nI A.length) ∧ (σ.2.1 204 25 = wsL pt A) ∧ (∀ h w, h ≤ n → 1 ≤ w → w ≤ n → σ.1 222 (7 * h + w) = bstA sc h w A ∧ σ.2.1 223 (7 * h + w) = wsA pt h w A) ∧ (σ.1 204 28 = othA sc an A)
theorem LK.rk {n : Nat} {sc pt : Nat → Nat → Int32} {an : List Nat} {σ : St} {A : List (List Nat)} (h : LK n sc pt an σ A) : RKc sc n σ (rkL sc A) := h.1
theorem LK.ct {n : Nat} {sc pt : Nat → Nat → Int32} {an : List Nat} {σ : St} {A : List (List Nat)} (h : LK n sc pt an σ A) : σ.1 204 24 = nI A.length := h.2.1
theorem LK.wa {n : Nat} {sc pt : Nat → Nat → Int32} {an : List Nat} {σ : St} {A : List (List Nat)} (h : LK n sc pt an σ A) : σ.2.1 204 25 = wsL pt A := h.2.2.1
theorem LK.ab {n : Nat} {sc pt : Nat → Nat → Int32} {an : List Nat} {σ : St} {A : List (List Nat)} (h : LK n sc pt an σ A) : ∀ h w, h ≤ n → 1 ≤ w → w ≤ n → σ.1 222 (7 * h + w) = bstA sc h w A ∧ σ.2.1 223 (7 * h + w) = wsA pt h w A := h.2.2.2.1
theorem LK.bo {n : Nat} {sc pt : Nat → Nat → Int32} {an : List Nat} {σ : St} {A : List (List Nat)} (h : LK n sc pt an σ A) : σ.1 204 28 = othA sc an A := h.2.2.2.2
/-- what changes while it looks -/
def frX (σ σ' : St) : Prop := (∀ c, c ≠ 204 → c < 219 ∨ 222 < c → σ'.1 c = σ.1 c) ∧ (∀ f, f ≠ 21 → f ≠ 24 → f ≠ 28 → σ'.1 204 f = σ.1 204 f) ∧ (∀ c, c ≠ 204 → c ≠ 223 → σ'.2.1 c = σ.2.1 c) ∧ (∀ f, f ≠ 25 → σ'.2.1 204 f = σ.2.1 204 f) ∧ σ'.2.2 = σ.2.2
theorem frX.rf {a : St} : frX a a := ⟨fun _ _ _ => rfl, fun _ _ _ _ => rfl, fun _ _ _ => rfl, fun _ _ => rfl, rfl⟩
theorem frX.tr {a b c : St} (h : frX a b) (h2 : frX b c) : frX a c := ⟨fun k k1 k2 => (h2.1 k k1 k2).trans (h.1 k k1 k2), fun f f1 f2 f3 => (h2.2.1 f f1 f2 f3).trans (h.2.1 f f1 f2 f3), fun k k1 k2 => (h2.2.2.1 k k1 k2).trans (h.2.2.1 k k1 k2), fun f hf => (h2.2.2.2.1 f hf).trans (h.2.2.2.1 f hf), h2.2.2.2.2.trans h.2.2.2.2⟩
theorem LC.fr {n j : Nat} {sc pt : Nat → Nat → Int32} {an : List Nat} {σ σ' : St} (h : LC n j sc pt an σ) (hf : frX σ σ') : LC n j sc pt an σ' := ⟨h.n1, h.n6, h.j4, by rw [hf.1 206 (by decide) (by decide)]; exact h.h206, fun a w a1 w1 w2 hne => by rw [hf.1 217 (by decide) (by decide), hf.1 218 (by decide) (by decide)]; exact h.h217 a w a1 w1 w2 hne, fun w w1 w2 => by rw [hf.1 208 (by decide) (by decide)]; exact h.h208 w w1 w2, h.anl⟩
section MEET
variable {σ : St} {n j : Nat} {sc pt : Nat → Nat → Int32} {an l : List Nat} {A : List (List Nat)}
theorem drop_hd {l : List Nat} {i : Nat} (hi : i < l.length) : l.drop i = hL l (i + 1) :: l.drop (i + 1) := by
  rw [hL_get (by omega) (by omega), List.drop_eq_getElem_cons hi]; rfl
theorem sumOf_M {K : Int32 → St → Prop} (hC : LC n j sc pt an σ) (hl : l ∈ allT n) (ht : ∀ w, 1 ≤ w → w ≤ n → σ.1 219 w = nI (hL l w)) (hK : K (scL sc l) σ) : P_X8_sumOf (nI n) σ K := by
  unfold P_X8_sumOf
  have hn6 := hC.n6
  obtain ⟨hl1, hl2⟩ := allT_mem.mp hl
  refine LpE_inv (fun s' => s'.2.2 = σ ∧ ∃ i, i ≤ n ∧ s'.2.1 = nI (i + 1) ∧ totI sc (i + 1) s'.1 (l.drop i) = scL sc l) (fun s' => 20 - ix s'.2.1) ?_ _ ⟨rfl, 0, by omega, rfl, rfl⟩
  intro s' c hI hc
  obtain ⟨x1, x2, σ'⟩ := s'
  obtain ⟨e1, i, hi, e2, e3⟩ := hI
  dsimp only at e1 e2 e3
  subst e1 e2
  dsimp only
  unfold F_X8_sumOf_4
  rw [nI_ltI (by omega) (by omega)]
  refine ⟨fun z => ?_, fun z => ⟨vp_in_nI (by omega) (by decide), ?_⟩⟩
  · rw [List.drop_of_length_le (by omega), totI] at e3
    rw [e3]; exact hK
  · have hw := hl2 (i + 1) (by omega) (by omega)
    rw [ix_nI (by omega), ht (i + 1) (by omega) (by omega), pl7, ix_nI (by omega), (hC.h217 _ _ hw.1 (by omega) (by omega) hw.2).1, nI_1]
    refine ⟨vp_in_nI (by omega) (by decide), fun v3 e4 v4 e5 => ?_⟩
    subst e4 e5
    refine hc _ ⟨rfl, i + 1, by omega, rfl, ?_⟩ ?_
    · rw [drop_hd (by omega), totI] at e3; exact e3
    · show 20 - ix (nI (i + 1 + 1)) < 20 - ix (nI (i + 1))
      rw [ix_nI (by omega), ix_nI (by omega)]; omega
theorem isAnn_M {K : Int32 → St → Prop} (hC : LC n j sc pt an σ) (hl : l ∈ allT n) (ht : ∀ w, 1 ≤ w → w ≤ n → σ.1 219 w = nI (hL l w)) (h1 : l = an → K 1 σ) (h0 : l ≠ an → K 0 σ) : P_X8_isAnnotation (nI j) σ K := by
  unfold P_X8_isAnnotation
  have hn6 := hC.n6
  have hj4 := hC.j4
  obtain ⟨hl1, hl2⟩ := allT_mem.mp hl
  obtain ⟨a1, a2⟩ := hC.anl
  refine LpE_inv (fun s' => s'.2.2 = σ ∧ ∃ i, i ≤ n ∧ s'.2.1 = nI (i + 1) ∧ ((s'.1 = 1 ∧ ∀ w, 1 ≤ w → w ≤ i → hL l w = hL an w) ∨ (s'.1 = 0 ∧ l ≠ an))) (fun s' => 20 - ix s'.2.1) ?_ _ ⟨rfl, 0, by omega, rfl, Or.inl ⟨rfl, fun w w1 w2 => by omega⟩⟩
  intro s' c hI hc
  obtain ⟨x1, x2, σ'⟩ := s'
  obtain ⟨e1, i, hi, e2, e3⟩ := hI
  dsimp only at e1 e2 e3
  subst e1 e2
  dsimp only
  unfold F_X8_isAnnotation_4
  refine ⟨vp_in_nI (by omega) (by decide), ?_⟩
  rw [ix_nI (by omega), hC.h206, nI_ltI (by omega) (by omega), nI_1]
  have hms : 20 - ix (nI (i + 1 + 1)) < 20 - ix (nI (i + 1)) := by rw [ix_nI (by omega), ix_nI (by omega)]; omega
  refine ⟨fun z => ?_, fun z => ⟨fun z2 v2 e2 => ?_, fun z2 => ?_⟩⟩
  · rcases e3 with ⟨rfl, e3⟩ | ⟨rfl, e3⟩
    · exact ⟨isB1, h1 (hL_ext (by omega) (fun w w1 w2 => e3 w w1 (by omega)))⟩
    · exact ⟨isB0, h0 e3⟩
  · rcases e3 with ⟨rfl, e3⟩ | ⟨rfl, e3⟩
    · exact absurd z2 (by decide)
    · subst e2; exact hc _ ⟨rfl, i + 1, by omega, rfl, Or.inr ⟨rfl, e3⟩⟩ hms
  · rcases e3 with ⟨rfl, e3⟩ | ⟨rfl, e3⟩
    · unfold P_X8_word
      have hw := hl2 (i + 1) (by omega) (by omega)
      have ha := a2 (i + 1) (by omega) (by omega)
      rw [pl7]
      dsimp only
      rw [ix_nI (by omega), ix_nI (by omega), ht (i + 1) (by omega) (by omega), hC.h208 (i + 1) (by omega) (by omega), nI_eq (by omega) (by omega)]
      refine ⟨vp_in_nI (by omega) (by decide), vp_in_nI (by omega) (by decide), fun q v8 e8 => ?_, fun q v7 e7 => ?_⟩
      · subst e8
        refine hc _ ⟨rfl, i + 1, by omega, rfl, Or.inl ⟨rfl, fun w w1 w2 => ?_⟩⟩ hms
        by_cases e : w = i + 1
        · rw [e]; exact q
        · exact e3 w w1 (by omega)
      · subst e7
        exact hc _ ⟨rfl, i + 1, by omega, rfl, Or.inr ⟨rfl, fun e => q (by rw [e])⟩⟩ hms
    · exact absurd rfl z2
theorem meets_M {K : St → Prop} (hC : LC n j sc pt an σ) (hl : l ∈ allT n) (ht : ∀ w, 1 ≤ w → w ≤ n → σ.1 219 w = nI (hL l w)) (hL0 : LK n sc pt an σ A) (hpart : rkL sc A = (rkL sc A).filter (fun r => decide ((scL sc l).toInt ≤ (scL sc r).toInt)) ++ (rkL sc A).filter (fun r => !decide ((scL sc l).toInt ≤ (scL sc r).toInt))) (hK : ∀ σ', frX σ σ' → σ'.1 219 = σ.1 219 → LK n sc pt an σ' (A ++ [l]) → K σ') : P_X8_meets (nI j) σ K := by
  unfold P_X8_meets
  have hn6 := hC.n6
  have hn1 := hC.n1
  have hj4 := hC.j4
  obtain ⟨hl1, hl2⟩ := allT_mem.mp hl
  refine ⟨vp_in_nI (by omega) (by decide), fun v2 e2 => ?_⟩
  rw [ix_nI (by omega), hC.h206] at e2
  subst e2
  refine sumOf_M hC hl ht ?_
  refine LpE_inv (fun s' => s'.2.2 = σ ∧ ∃ i, i ≤ n ∧ s'.2.1 = nI (i + 1) ∧ totW pt (i + 1) s'.1 (l.drop i) = wtL pt l) (fun s' => 20 - ix s'.2.1) ?_ _ ⟨rfl, 0, by omega, rfl, rfl⟩
  intro s' c hI hc
  obtain ⟨x1, x2, σ'⟩ := s'
  obtain ⟨e1, i, hi, e2, e3⟩ := hI
  dsimp only at e1 e2 e3
  subst e1 e2
  dsimp only
  unfold F_X8_meets_19
  rw [nI_ltI (by omega) (by omega)]
  refine ⟨fun z => ?_, fun z => ⟨vp_in_nI (by omega) (by decide), ?_⟩⟩
  · rw [List.drop_of_length_le (by omega), totW] at e3
    subst e3
    have hb1 : ∀ h w, bstA sc h w (A ++ [l]) = if hL l w = h then (if scL sc l ≤ bstA sc h w A then bstA sc h w A else scL sc l) else bstA sc h w A := fun h w => by unfold bstA; rw [List.foldl_append]; rfl
    have hb2 : ∀ h w, wsA pt h w (A ++ [l]) = if hL l w = h then wsA pt h w A + wtL pt l else wsA pt h w A := fun h w => by unfold wsA; rw [List.foldl_append]; rfl
    refine LpE_for (S := Int32 × St) (fun w t => (nI (w + 1), t)) (fun w σ2 => (σ2.1 204 = σ'.1 204 ∧ (∀ c, c ≠ 222 → σ2.1 c = σ'.1 c) ∧ (∀ c, c ≠ 223 → σ2.2.1 c = σ'.2.1 c) ∧ σ2.2.2 = σ'.2.2) ∧ ∀ h u, h ≤ n → 1 ≤ u → u ≤ n → (u ≤ w → σ2.1 222 (7 * h + u) = bstA sc h u (A ++ [l]) ∧ σ2.2.1 223 (7 * h + u) = wsA pt h u (A ++ [l])) ∧ (w < u → σ2.1 222 (7 * h + u) = bstA sc h u A ∧ σ2.2.1 223 (7 * h + u) = wsA pt h u A)) n ?_ 0 σ' (by omega) ⟨⟨rfl, fun _ _ => rfl, fun _ _ => rfl, rfl⟩, fun h u h1 u1 u2 => ⟨fun y => by omega, fun _ => hL0.ab h u h1 u1 u2⟩⟩
    intro w σ2 c2 hw ⟨g1, g2⟩ hc2
    dsimp only
    unfold F_X8_meets_58
    rw [nI_ltI (by omega) (by omega)]
    refine ⟨fun y s5 e5 s6 e6 => ?_, fun y => ⟨vp_in_nI (by omega) (by decide), fun v12 e12 => ?_⟩⟩
    · have hwn : w = n := by omega
      rw [show σ2.1 204 24 = nI A.length by rw [g1.1]; exact hL0.ct, nI_1] at e5
      rw [show s5.2.1 204 25 = wsL pt A by rw [e5, wI_2, g1.2.2.1 204 (by omega)]; exact hL0.wa] at e6
      have f6 : frX σ' s6 := ⟨fun c c1 c2 => by rw [e6, wL_1, e5, wI_ne c1]; exact g1.2.1 c (by omega), fun f f1 f2 f3 => by rw [e6, wL_1, e5, wI_ni f2, g1.1], fun c c1 c2 => by rw [e6, wL_ne c1, e5, wI_2]; exact g1.2.2.1 c c2, fun f hf => by
        rw [e6, wL_at, if_neg (fun q => hf q.2), e5, wI_2, g1.2.2.1 204 (by omega)], by rw [e6, wL_22, e5, wI_2]; exact g1.2.2.2⟩
      have hC6 := hC.fr f6
      have ht6 : ∀ u, 1 ≤ u → u ≤ n → s6.1 219 u = nI (hL l u) := fun u u1 u2 => by rw [e6, wL_1, e5, wI_ne (by omega), g1.2.1 219 (by omega)]; exact ht u u1 u2
      have h28 : s6.1 204 28 = othA sc an A := by rw [e6, wL_1, e5, wI_ni (by omega), g1.1]; exact hL0.bo
      have hob : othA sc an (A ++ [l]) = if scL sc l ≤ othA sc an A then othA sc an A else if l = an then othA sc an A else scL sc l := by unfold othA; rw [List.foldl_append]; rfl
      have h172 : ∀ t1, t1 = othA sc an (A ++ [l]) → J_X8_meets_172 K (nI n) (scL sc l) t1 s6 := by
        intro t1 et1
        unfold J_X8_meets_172
        intro s7 e7
        have f7 : ∀ c, c ≠ 204 → s7.1 c = s6.1 c := fun c c1 => by rw [e7, wI_ne c1]
        have f74 : ∀ f, f ≠ 28 → s7.1 204 f = s6.1 204 f := fun f hf => by rw [e7, wI_ni hf]
        have hR7 : RKc sc n s7 ((rkL sc A).filter (fun r => decide ((scL sc l).toInt ≤ (scL sc r).toInt)) ++ (rkL sc A).filter (fun r => !decide ((scL sc l).toInt ≤ (scL sc r).toInt))) := by
          rw [← hpart]
          obtain ⟨r1, r2, r3⟩ := hL0.rk
          refine ⟨by rw [f74 21 (by omega), e6, wL_1, e5, wI_ni (by omega), g1.1]; exact r1, r2, fun q hq => Row_fr (r3 q hq) (by rw [f7 220 (by omega), e6, wL_1, e5, wI_ne (by omega), g1.2.1 220 (by omega)]) (fun u _ _ => by rw [f7 221 (by omega), e6, wL_1, e5, wI_ne (by omega), g1.2.1 221 (by omega)])⟩
        refine ranks_M hn1 hn6 hR7 (fun a ha => by simpa using (List.mem_filter.mp ha).2) (fun b hb => by have := (List.mem_filter.mp hb).2; simp at this; omega) (fun u u1 u2 => by rw [f7 219 (by omega)]; exact ht6 u u1 u2) (fun σ8 ⟨r1, r2, r3⟩ r4 => ?_)
        have hrk : rkL sc (A ++ [l]) = insR sc (rkL sc A) l := by unfold rkL; rw [List.foldl_append]; rfl
        refine hK σ8 (f6.tr ⟨fun c c1 c2 => by rw [r2 c c1 (by omega) (by omega), f7 c c1], fun f f1 f2 f3 => by rw [r3 f f1, f74 f f3], fun c c1 c2 => by rw [r1, e7, wI_2], fun f hf => by rw [r1, e7, wI_2], by rw [r1, e7, wI_2]⟩) ?_ ⟨by rw [hrk]; exact r4, ?_, ?_, fun h u h1 u1 u2 => ?_, ?_⟩
        · rw [r2 219 (by omega) (by omega) (by omega), f7 219 (by omega), e6, wL_1, e5, wI_ne (by omega), g1.2.1 219 (by omega)]
        · rw [r3 24 (by omega), f74 24 (by omega), e6, wL_1, e5, wI_self, List.length_append]; rfl
        · rw [r1, e7, wI_2, e6, wL_at, if_pos ⟨rfl, rfl⟩]
          unfold wsL; rw [List.foldl_append]; rfl
        · have := (g2 h u h1 u1 u2).1 (by omega)
          rw [r2 222 (by omega) (by omega) (by omega), f7 222 (by omega), r1, e7, wI_2, e6, wL_1, wL_ne (by omega), e5, wI_ne (by omega), wI_2]; exact this
        · rw [r3 28 (by omega), e7, wI_self]; exact et1
      rw [h28]
      refine ⟨fun y2 => ?_, fun y2 => isAnn_M hC6 hl ht6 (fun ha => ⟨fun y3 => absurd y3 (by decide), fun _ => ?_⟩) (fun ha => ⟨fun _ => h172 _ (by rw [hob, if_neg y2, if_neg ha]), fun y3 => absurd rfl y3⟩)⟩
      · unfold J_X8_meets_168
        rw [h28]
        exact h172 _ (by rw [hob, if_pos y2])
      · unfold J_X8_meets_168
        rw [h28]
        exact h172 _ (by rw [hob, if_neg y2, if_pos ha])
    · have hwt := hl2 (w + 1) (by omega) (by omega)
      rw [ix_nI (by omega), show σ2.1 219 (w + 1) = nI (hL l (w + 1)) by rw [g1.2.1 219 (by omega)]; exact ht (w + 1) (by omega) (by omega), pl7] at e12
      subst e12
      obtain ⟨b1, b2⟩ := (g2 (hL l (w + 1)) (w + 1) hwt.1 (by omega) (by omega)).2 (by omega)
      have h107 : ∀ t2, t2 = bstA sc (hL l (w + 1)) (w + 1) (A ++ [l]) → J_X8_meets_107 K c2 (nI j) (nI n) (scL sc l) (wtL pt l) (nI (w + 1)) (nI (7 * hL l (w + 1) + (w + 1))) (nI (7 * hL l (w + 1) + (w + 1))) t2 σ2 := by
        intro t2 et2
        unfold J_X8_meets_107
        rw [ix_nI (by omega)]
        refine ⟨vp_in_nI (by omega) (by decide), fun s16 e16 => ⟨vp_in_nI (by omega) (by decide), vp_in_nI (by omega) (by decide), fun s19 e19 v20 e20 => ?_⟩⟩
        rw [nI_1] at e20
        rw [e20]
        rw [show s16.2.1 223 (7 * hL l (w + 1) + (w + 1)) = wsA pt (hL l (w + 1)) (w + 1) A by rw [e16, wI_2]; exact b2] at e19
        have q222 : ∀ z, s19.1 222 z = if z = 7 * hL l (w + 1) + (w + 1) then t2 else σ2.1 222 z := fun z => by
          rw [e19, wL_1, e16]
          by_cases q : z = 7 * hL l (w + 1) + (w + 1)
          · rw [if_pos q, q]; exact wI_self
          · rw [if_neg q, wI_ni q]
        have q223 : ∀ z, s19.2.1 223 z = if z = 7 * hL l (w + 1) + (w + 1) then wsA pt (hL l (w + 1)) (w + 1) A + wtL pt l else σ2.2.1 223 z := fun z => by
          rw [e19, wL_at, e16, wI_2]
          by_cases q : z = 7 * hL l (w + 1) + (w + 1)
          · rw [if_pos q, if_pos ⟨rfl, q⟩]
          · rw [if_neg q, if_neg (fun y => q y.2)]
        refine hc2 s19 (by omega) ⟨⟨by rw [e19, wL_1, e16, wI_ne (by omega)]; exact g1.1, fun c hc => by rw [e19, wL_1, e16, wI_ne hc]; exact g1.2.1 c hc, fun c hc => by rw [e19, wL_ne hc, e16, wI_2]; exact g1.2.2.1 c hc, by rw [e19, wL_22, e16, wI_2]; exact g1.2.2.2⟩, fun h u h1 u1 u2 => ?_⟩
        rw [q222, q223]
        refine ⟨fun y2 => ?_, fun y2 => ?_⟩
        · by_cases e : u = w + 1
          · subst e
            by_cases e4 : hL l (w + 1) = h
            · subst e4
              rw [if_pos rfl, if_pos rfl, hb2, if_pos rfl]
              exact ⟨et2, rfl⟩
            · rw [if_neg (by omega), if_neg (by omega), hb1, hb2, if_neg e4, if_neg e4]
              exact (g2 h (w + 1) h1 u1 u2).2 (by omega)
          · rw [if_neg (by omega), if_neg (by omega)]
            exact (g2 h u h1 u1 u2).1 (by omega)
        · rw [if_neg (by omega), if_neg (by omega)]
          exact (g2 h u h1 u1 u2).2 (by omega)
      rw [ix_nI (by omega), b1]
      refine ⟨vp_in_nI (by omega) (by decide), fun y2 => ⟨vp_in_nI (by omega) (by decide), h107 _ (by rw [hb1, if_pos rfl, if_pos y2])⟩, fun y2 => h107 _ (by rw [hb1, if_pos rfl, if_neg y2])⟩
  · have hw := hl2 (i + 1) (by omega) (by omega)
    rw [ix_nI (by omega), ht (i + 1) (by omega) (by omega), pl7, ix_nI (by omega), (hC.h217 _ _ hw.1 (by omega) (by omega) hw.2).2, nI_1]
    refine ⟨vp_in_nI (by omega) (by decide), fun v23 e23 v24 e24 => ?_⟩
    subst e23 e24
    refine hc _ ⟨rfl, i + 1, by omega, rfl, ?_⟩ ?_
    · rw [drop_hd (by omega), totW] at e3; exact e3
    · show 20 - ix (nI (i + 1 + 1)) < 20 - ix (nI (i + 1))
      rw [ix_nI (by omega), ix_nI (by omega)]; omega
end MEET
