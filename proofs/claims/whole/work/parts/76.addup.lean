/-! the class: the sum of all trees -/
theorem bt_has : ∀ S, S < 64 → ∀ i, i < 6 → ((nI S &&& (1 <<< ((nI (i + 1) - 1) &&& 31))) = 0 ↔ S.testBit i = false) := by decide +kernel
theorem bt_xor : ∀ S, S < 64 → ∀ i, i < 6 → nI S ^^^ (1 <<< ((nI (i + 1) - 1) &&& 31)) = nI (S ^^^ 2 ^ i) ∧ S ^^^ 2 ^ i < 64 := by decide +kernel
theorem bt_low : ∀ S, S < 64 → S ≠ 0 → ∀ b, b < 64 → ((nI b &&& (nI S &&& (-nI S))) = 0 ↔ b.testBit (loB S) = false) := by decide +kernel
theorem bt_next : ∀ S, S < 64 → ∀ b, b < 64 → b ≠ 0 → ((nI b - 1) &&& nI S) = nI ((b - 1) &&& S) ∧ (b - 1) &&& S < b := by decide +kernel
theorem bt_x : ∀ S, S < 64 → ∀ b, b < 64 → nI S ^^^ nI b = nI (S ^^^ b) ∧ S ^^^ b < 64 := by decide +kernel
theorem bt_all : ∀ n, n < 7 → ((1 <<< (nI n &&& 31)) - 1 : Int32) = nI (2 ^ n - 1) ∧ 2 ^ n - 1 < 64 := by decide +kernel
def mbI (c : Int32) (M : Nat) : Bool := decide (c = 0) || decide ((nI M &&& (nI M + (nI M &&& (-nI M)))) = 0)
def ctB (M : Nat) : Bool := (List.range 6).all fun i => (List.range 6).all fun j => (List.range 6).all fun k => !(decide (i < j) && decide (j < k) && M.testBit i && M.testBit k) || M.testBit j
theorem bt_ctB : ∀ M, M < 64 → M ≠ 0 → ((nI M &&& (nI M + (nI M &&& (-nI M)))) = 0 ↔ ctB M = true) := by decide +kernel
theorem ctB_iff {M : Nat} : ctB M = true ↔ ∀ i, i < 6 → ∀ j, j < 6 → ∀ k, k < 6 → (i < j ∧ j < k ∧ M.testBit i = true ∧ M.testBit k = true) → M.testBit j = true := by
  unfold ctB
  simp only [List.all_eq_true, List.mem_range]
  constructor
  · intro h i i6 j j6 k k6 ⟨a, b, c, d⟩
    have := h i i6 j j6 k k6
    simpa [a, b, c, d] using this
  · intro h i i6 j j6 k k6
    have := h i i6 j j6 k k6
    by_cases a : i < j
    · by_cases b : j < k
      · cases c : M.testBit i
        · simp
        · cases d : M.testBit k
          · simp
          · rw [this ⟨a, b, c, d⟩]; simp
      · simp [b]
    · simp [a]
theorem bt_may {M : Nat} (hM : M < 64) (h0 : M ≠ 0) : ((nI M &&& (nI M + (nI M &&& (-nI M)))) = 0 ↔ ∀ i, i < 6 → ∀ j, j < 6 → ∀ k, k < 6 → (i < j ∧ j < k ∧ M.testBit i = true ∧ M.testBit k = true) → M.testBit j = true) := (bt_ctB M hM h0).trans ctB_iff
theorem mbI_ok {c : Int32} {M : Nat} (hM : M < 64) (h0 : M ≠ 0) : mbI c M = true ↔ (c ≠ 0 → ∀ i j k, i < j → j < k → inS M i → inS M k → inS M j) := by
  unfold mbI
  rw [Bool.or_eq_true, decide_eq_true_iff, decide_eq_true_iff, bt_may hM h0]
  have h6 : ∀ w, inS M w → w ≤ 6 := fun w hw => inS_le (n := 6) (by exact hM) hw
  constructor
  · rintro (z | z) hc i j k hij hjk hi hk
    · exact absurd z hc
    · have := hi.1
      have := h6 k hk
      exact ⟨by omega, z (i - 1) (by omega) (j - 1) (by omega) (k - 1) (by omega) ⟨by omega, by omega, hi.2, hk.2⟩⟩
  · intro z
    by_cases e : c = 0
    · exact Or.inl e
    · refine Or.inr (fun i i6 j j6 k k6 ⟨hij, hjk, hi, hk⟩ => ?_)
      exact inS_i.mp (z e (i + 1) (j + 1) (k + 1) (by omega) (by omega) (inS_i.mpr hi) (inS_i.mpr hk))
section ADDUP
variable {σ : St} {n h S : Nat}
theorem hasNode_C {K : Int32 → St → Prop} {w : Nat} (hS : S < 64) (hw : w ≤ 6) (h1 : inS S w → K 1 σ) (h0 : ¬ inS S w → K 0 σ) : P_X5_hasNode (nI S) (nI w) σ K := by
  unfold P_X5_hasNode P_X5_bit
  rw [show (0 : Int32) = nI 0 from rfl, nI_leI (by omega) (by omega)]
  refine ⟨fun z => h0 (fun y => by have := y.1; omega), fun z => ?_⟩
  obtain ⟨i, rfl⟩ : ∃ i, w = i + 1 := ⟨w - 1, by omega⟩
  rw [show nI 0 = (0 : Int32) from rfl, bt_has S hS i (by omega)]
  refine ⟨fun z => h0 (fun y => by rw [inS_i.mp y] at z; cases z), fun z => h1 (inS_i.mpr ?_)⟩
  cases e : S.testBit i
  · exact absurd e z
  · rfl
theorem mayBr_C {K : Int32 → St → Prop} (h1 : mbI (σ.1 125 1) S = true → K 1 σ) (h0 : ¬ mbI (σ.1 125 1) S = true → K 0 σ) : P_X5_mayBranch (nI S) σ K := by
  unfold P_X5_mayBranch
  unfold mbI at h1 h0
  rw [Bool.or_eq_true, decide_eq_true_iff, decide_eq_true_iff] at h1 h0
  exact ⟨fun z => h1 (Or.inl z), fun z => ⟨fun y => h1 (Or.inr y), fun y => h0 (fun q => q.elim z y)⟩⟩
theorem rng_step {i : Nat} {g : Nat → Int64} : sm (wsM (i + 1) S) g = if S.testBit i = true then sm (wsM i S) g + g i else sm (wsM i S) g := by
  unfold wsM
  rw [List.range_succ, List.filter_append, List.filter_cons, List.filter_nil]
  split
  · rw [sm_app, sm_cons, sm_nil, Int64.add_zero]
  · rw [List.append_nil]
theorem addBr_C {K : Int64 → St → Prop} {g : Nat → Int64} (hn : n ≤ 6) (h6 : h ≤ 6) (hz : σ.1 147 1 = nI n) (hS : S < 64) (hg : ∀ i, i < n → S.testBit i = true → σ.2.1 (149 + h) (i + 1) * σ.2.1 (165 + (i + 1)) (S ^^^ 2 ^ i) = g i) (hK : K (if mbI (σ.1 125 1) S = true then sm (wsM n S) g else 0) σ) : P_X5_addBranches (nI h) (nI S) σ K := by
  unfold P_X5_addBranches
  refine mayBr_C (fun hm => ⟨fun z => absurd z (by decide), fun _ => ?_⟩) (fun hm => ⟨fun _ => ?_, fun z => absurd rfl z⟩)
  · rw [if_pos hm] at hK
    refine LpE_for (S := Int64 × Int32 × St) (T := Unit) (fun i _ => (sm (wsM i S) g, nI (i + 1), σ)) (fun _ _ => True) n ?_ 0 () (by omega) trivial
    intro i _ c hi _ hc
    dsimp only
    unfold F_X5_addBranches_15
    rw [hz, nI_ltI (by omega) (by omega)]
    refine ⟨fun z => ?_, fun z => hasNode_C hS (by omega) (fun hh => ⟨fun y => absurd y (by decide), fun _ => ?_⟩) (fun hh => ⟨fun _ v5 e5 => ?_, fun y => absurd rfl y⟩)⟩
    · have : i = n := by omega
      subst this; exact hK
    · unfold P_X5_bit
      dsimp only
      have hb := inS_i.mp hh
      obtain ⟨x1, x2⟩ := bt_xor S hS i (by omega)
      rw [x1]
      refine ⟨vp_in_nI (by omega) (by decide), vp_in_nI (by omega) (by decide), vp_in_nI (by omega) (by decide), vp_in_nI x2 (by decide), fun v12 e12 v13 e13 => ?_⟩
      rw [nI_1] at e13
      rw [ix_nI (by omega), ix_nI (by omega), ix_nI (by omega), show 148 + 1 + h = 149 + h by omega, show 164 + 1 + (i + 1) = 165 + (i + 1) by omega, hg i (by omega) hb] at e12
      have := hc () (by omega) trivial
      rw [rng_step, if_pos hb] at this
      rw [e12, e13]; exact this
    · have hb : ¬ S.testBit i = true := fun y => hh (inS_i.mpr y)
      have := hc () (by omega) trivial
      rw [rng_step, if_neg hb] at this
      rw [nI_1] at e5
      rw [e5]; exact this
  · rw [if_neg hm] at hK; exact hK
theorem addFo_C {K : Int64 → St → Prop} {g : Nat → Int64} (h6 : h ≤ 6) (hS : S < 64) (h0 : S ≠ 0) (hg : ∀ B, B ∈ subs S → σ.2.1 (157 + h) B * σ.2.1 (165 + h) (S ^^^ B) = g B) (hK : K (sm (subs S) g) σ) : P_X5_addForests (nI h) (nI S) σ K := by
  unfold P_X5_addForests
  intro v1 e1
  have key : ∀ f b acc, b < f → b < 64 → (∀ B, B ∈ (sbF S f b).filter (fun b => b.testBit (loB S)) → σ.2.1 (157 + h) B * σ.2.1 (165 + h) (S ^^^ B) = g B) → K (acc + sm ((sbF S f b).filter (fun b => b.testBit (loB S))) g) σ → Lp (fun c s => F_X5_addForests_11 K c (nI h) (nI S) v1 s.1 s.2.1 s.2.2) f (acc, nI b, σ) := by
    intro f
    induction f with
    | zero => intro b acc h1; omega
    | succ f ih =>
      intro b acc hb hb64 hB hK
      show F_X5_addForests_11 K (Lp (fun c s => F_X5_addForests_11 K c (nI h) (nI S) v1 s.1 s.2.1 s.2.2) f) (nI h) (nI S) v1 acc (nI b) σ
      generalize Lp (fun c s => F_X5_addForests_11 K c (nI h) (nI S) v1 s.1 s.2.1 s.2.2) f = c at ih ⊢
      unfold F_X5_addForests_11 J_X5_addForests_49
      rw [show (0 : Int32) = nI 0 from rfl, nI_leI (by omega) (by omega), show nI 0 = (0 : Int32) from rfl, e1]
      rw [sbF] at hB hK
      refine ⟨fun z => ?_, fun z => ?_⟩
      · rw [if_pos (by omega), List.filter_nil, sm_nil, Int64.add_zero] at hK; exact hK
      · have b0 : b ≠ 0 := by omega
        rw [if_neg b0] at hB hK
        obtain ⟨n1, n2⟩ := bt_next S hS b hb64 b0
        obtain ⟨x1, x2⟩ := bt_x S hS b hb64
        rw [bt_low S hS h0 b hb64, n1, x1]
        refine ⟨fun y v2 e2 => ?_, fun y => ⟨vp_in_nI (by omega) (by decide), vp_in_nI (by omega) (by decide), vp_in_nI (by omega) (by decide), vp_in_nI (by omega) (by decide), fun v7 e7 v2 e2 => ?_⟩⟩
        · have y2 : ¬ b.testBit (loB S) = true := by rw [y]; decide
          rw [List.filter_cons, if_neg y2] at hB hK
          rw [e2]; exact ih _ acc (by omega) (by omega) hB hK
        · have y2 : b.testBit (loB S) = true := by
            cases q : b.testBit (loB S)
            · exact absurd q y
            · rfl
          rw [List.filter_cons, if_pos y2] at hB hK
          rw [ix_nI (by omega), ix_nI (by omega), ix_nI (by omega), show 156 + 1 + h = 157 + h by omega, show 164 + 1 + h = 165 + h by omega, hB b List.mem_cons_self] at e7
          rw [sm_cons, ← Int64.add_assoc] at hK
          rw [e2, e7]
          exact ih _ _ (by omega) (by omega) (fun B hB' => hB B (List.mem_cons_of_mem _ hB')) hK
  exact ⟨64, key 64 S 0 hS hS hg (by rw [Int64.zero_add]; exact hK)⟩
/-- what addUp changes -/
def frT (σ σ' : St) : Prop := σ'.1 = σ.1 ∧ (∀ c, c < 157 ∨ 171 < c → σ'.2.1 c = σ.2.1 c) ∧ σ'.2.2 = σ.2.2
theorem frT.rf {σ : St} : frT σ σ := ⟨rfl, fun _ _ => rfl, rfl⟩
theorem frT.tr {a b c : St} (h : frT a b) (h2 : frT b c) : frT a c := ⟨h2.1.trans h.1, fun k hk => (h2.2.1 k hk).trans (h.2.1 k hk), h2.2.2.trans h.2.2⟩
theorem frT.wL {a : St} {c i : Nat} {v : Int64} (hc : 157 ≤ c ∧ c ≤ 171) : frT a (wL a c i v) := ⟨wL_1, fun k hk => wL_ne (by omega), wL_22⟩
/-- the table at a set -/
def okT (n : Nat) (b f : Nat → Nat → List Mon) (p : Nat → Nat → Int64) (σ : St) (S h : Nat) : Prop := ¬ inS S h → (S ≠ 0 → σ.2.1 (157 + h) S = sm (b h S) (prM p)) ∧ σ.2.1 (165 + h) S = sm (f h S) (prM p)
variable {b f : Nat → Nat → List Mon} {p : Nat → Nat → Int64}
theorem addUp_C {K : Int64 → St → Prop} (h1 : 1 ≤ n) (hn : n ≤ 6) (hz : σ.1 147 1 = nI n) (E : EQS n (mbI (σ.1 125 1)) b f) (hp : ∀ h w, h ≤ n → 1 ≤ w → w ≤ n → σ.2.1 (149 + h) w = p h w) (hK : ∀ σ', frT σ σ' → (∀ S h, S < 2 ^ n → h ≤ n → okT n b f p σ' S h) → K (sm (totL (decide (σ.1 125 0 ≠ 0)) n b f) (prM p)) σ') : P_X5_addUp σ K := by
  unfold P_X5_addUp
  intro v1 e1
  obtain ⟨a1, a2⟩ := bt_all n (by omega)
  rw [hz, a1] at e1
  have hpw : 2 ^ n - 1 < 2 ^ n := full_lt hn
  refine LpE_for1 (fun i σ' => frT σ σ' ∧ ∀ h, h < i → σ'.2.1 (165 + h) 0 = 1) (n + 1) ?_ 0 σ (by omega) ⟨frT.rf, fun h hh => absurd hh (Nat.not_lt_zero _)⟩
  intro i σ1 c hi ⟨f1, f2⟩ hc
  dsimp only
  unfold F_X5_addUp_11
  rw [f1.1, hz, nI_ltI (by omega) (by omega)]
  refine ⟨fun q => ?_, fun q => ⟨vp_in_nI (by omega) (by decide), fun s20 e20 v21 e21 => ?_⟩⟩
  · -- the sets
    refine LpE_for (S := Int32 × St) (fun i t => (nI (i + 1), t)) (fun i σ' => frT σ σ' ∧ ∀ S h, S ≤ i → h ≤ n → okT n b f p σ' S h) (2 ^ n - 1) ?_ 0 σ1 (by omega) ⟨f1, fun S h hS hh => ?_⟩
    · intro k σ2 c2 hk ⟨g1, g2⟩ hc2
      dsimp only
      unfold F_X5_addUp_36
      rw [e1, nI_ltI (by omega) (by omega)]
      refine ⟨fun z => ?_, fun z => ?_⟩
      · have hkn : k = 2 ^ n - 1 := by omega
        have hfin := hK σ2 g1 (fun S h hS hh => g2 S h (by omega) hh)
        obtain ⟨t1, t2⟩ := g2 (2 ^ n - 1) 0 (by omega) (by omega) no_root
        rw [g1.1, ix_nI (by omega)]
        unfold totL at hfin
        refine ⟨fun y => ⟨vp_in_nI (by omega) (by decide), ?_⟩, fun y => ⟨vp_in_nI (by omega) (by decide), ?_⟩⟩
        · rw [if_neg (by rw [decide_eq_true_iff]; exact fun q => q y), ← t2] at hfin; exact hfin
        · rw [if_pos (by rw [decide_eq_true_iff]; exact y), ← t1 (full_ne h1)] at hfin; exact hfin
      · have hS64 : k + 1 < 64 := by omega
        have hS0 : k + 1 ≠ 0 := by omega
        refine LpE_for1 (fun i σ' => frT σ σ' ∧ (∀ S h, S ≤ k → h ≤ n → okT n b f p σ' S h) ∧ ∀ h, h < i → okT n b f p σ' (k + 1) h) (n + 1) ?_ 0 σ2 (by omega) ⟨g1, g2, fun h hh => absurd hh (Nat.not_lt_zero _)⟩
        intro d σ3 c3 hd ⟨k1, k2, k3⟩ hc3
        dsimp only
        unfold F_X5_addUp_43
        rw [k1.1, hz, nI_ltI (by omega) (by omega), nI_1, nI_1]
        refine ⟨fun y v4 e4 => ?_, fun y => ?_⟩
        · rw [e4]
          refine hc2 σ3 (by omega) ⟨k1, fun S h hS hh => ?_⟩
          by_cases e : S = k + 1
          · subst e; exact k3 h (by omega)
          · exact k2 S h (by omega) hh
        · refine hasNode_C hS64 (by omega) (fun hh => ⟨fun q => absurd q (by decide), fun _ v7 e7 => ?_⟩) (fun hh => ⟨fun _ => ?_, fun q => absurd rfl q⟩)
          · rw [e7]
            refine hc3 σ3 (by omega) ⟨k1, k2, fun h h2 => ?_⟩
            by_cases e : h = d
            · subst e; exact fun q => absurd hh q
            · exact k3 h (by omega)
          · refine ⟨vp_in_nI (by omega) (by decide), addBr_C (g := fun i => p d (i + 1) * sm (f (i + 1) ((k + 1) ^^^ 2 ^ i)) (prM p)) hn (by omega) (by rw [k1.1]; exact hz) hS64 (fun i hi hb => ?_) ⟨vp_in_nI hS64 (by decide), fun s12 e12 => ⟨vp_in_nI (by omega) (by decide), ?_⟩⟩⟩
            · have := xor_lt (k + 1) hS64 i (by omega) hb
              rw [k1.2.1 (149 + d) (by omega), hp d (i + 1) (by omega) (by omega) (by omega), (k2 _ (i + 1) (by omega) (by omega) (fun z => ((inS_bit hb).mp z).2 rfl)).2]
            · rw [ix_nI (by omega), ix_nI (by omega), show 156 + 1 + d = 157 + d by omega, k1.1, ← eb_eq E hS0 hS64] at e12
              have l1 : frT σ s12 := k1.tr (by rw [e12]; exact frT.wL (by omega))
              have l2 : ∀ S h, S ≤ k → h ≤ n → okT n b f p s12 S h := fun S h hS hh' q => by
                have := k2 S h hS hh' q
                rw [e12, wL_at, wL_at, if_neg (by omega), if_neg (by omega)]; exact this
              have l3 : ∀ h, h < d → okT n b f p s12 (k + 1) h := fun h hh' q => by
                have := k3 h hh' q
                rw [e12, wL_at, wL_at, if_neg (by omega), if_neg (by omega)]; exact this
              have l4 : s12.2.1 (157 + d) (k + 1) = sm (b d (k + 1)) (prM p) := by rw [e12, wL_at, if_pos ⟨rfl, rfl⟩]
              refine addFo_C (g := fun B => sm (b d B) (prM p) * sm (f d ((k + 1) ^^^ B)) (prM p)) (by omega) hS64 hS0 (fun B hB => ?_) ⟨vp_in_nI hS64 (by decide), fun s17 e17 v18 e18 => ?_⟩
              · obtain ⟨b1, b2, b3, b4⟩ := subs_lt (k + 1) hS64 B hB
                have bs := ((subs_mem (k + 1) hS64 hS0 B b1).mp hB).1
                rw [(l2 _ d (by omega) (by omega) (fun z => hh ((inS_xor bs).mp z).1)).2]
                by_cases e : B = k + 1
                · rw [e, l4]
                · rw [(l2 B d (by omega) (by omega) (fun z => hh (inS_sub bs z))).1 b4]
              · rw [ix_nI (by omega), ix_nI (by omega), show 164 + 1 + d = 165 + d by omega, ← ef_eq E hS0 hS64] at e17
                rw [e18]
                refine hc3 s17 (by omega) ⟨l1.tr (by rw [e17]; exact frT.wL (by omega)), fun S h hS hh' q => ?_, fun h hh' q => ?_⟩
                · have := l2 S h hS hh' q
                  rw [e17, wL_at, wL_at, if_neg (by omega), if_neg (by omega)]; exact this
                · rw [e17, wL_at, wL_at, if_neg (by omega)]
                  by_cases e : h = d
                  · subst e
                    rw [if_pos ⟨rfl, rfl⟩]
                    exact ⟨fun _ => l4, rfl⟩
                  · rw [if_neg (by omega)]
                    exact l3 h (by omega) q
    · have : S = 0 := by omega
      subst this
      exact fun _ => ⟨fun z => absurd rfl z, by rw [f2 h (by omega), ef_0 E h]⟩
  · rw [nI_1] at e21
    rw [ix_nI (by omega), show 164 + 1 + i = 165 + i by omega, show ix (0 : Int32) = 0 from rfl] at e20
    rw [e21]
    refine hc s20 (by omega) ⟨f1.tr (by rw [e20]; exact frT.wL (by omega)), fun h hh => ?_⟩
    rw [e20, wL_at]
    by_cases e : h = i
    · rw [if_pos ⟨by omega, rfl⟩]
    · rw [if_neg (by omega)]; exact f2 h (by omega)
end ADDUP
