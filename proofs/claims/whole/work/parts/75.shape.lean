/-! no crossings: each branch side by side -/
section PRJ
variable {n : Nat} {t : Nat → Nat}
theorem anc_pos (H : HT n t) {u v : Nat} (hv : 1 ≤ v) (h : anc t u v) : 1 ≤ u := by
  rcases Nat.eq_zero_or_pos u with e | e
  · subst e
    obtain ⟨k, hk⟩ := h
    rw [itN_0 H.1] at hk
    omega
  · exact e
theorem ct_anc (H : HT n t) (ht : ∀ w, 1 ≤ w → w ≤ n → t w ≤ n) (hc : ∀ v, 1 ≤ v → v ≤ n → ∀ i j k, i < j → j < k → k ≤ n → anc t i v → anc t k v → anc t j v) {u w : Nat} (u1 : 1 ≤ u) (u2 : u ≤ n) (w1 : 1 ≤ w) (w2 : w ≤ n) (h : crP (t w) w (t u) u) : anc t (t u) (t w) := by
  have hb : ∀ x, x ≤ n → ((t w < x ∧ x < w) ∨ (w < x ∧ x < t w)) → anc t x (t w) := by
    intro x x2 hx
    rcases Nat.eq_zero_or_pos (t w) with e | e
    · rw [e]; exact ⟨n, H.2 x (by omega) x2⟩
    · rcases hx with z | z
      · exact hc (t w) e (ht w w1 w2) (t w) x w z.1 z.2 w2 anc_rf anc_up
      · exact hc (t w) e (ht w w1 w2) w x (t w) z.1 z.2 (ht w w1 w2) anc_up anc_rf
  rcases h with ⟨z, _⟩ | ⟨z, _⟩
  · exact hb (t u) (ht u u1 u2) z
  · refine anc_st (hb u u2 z) (by omega)
theorem ct_nc (H : HT n t) (ht : ∀ w, 1 ≤ w → w ≤ n → t w ≤ n) (hc : ∀ v, 1 ≤ v → v ≤ n → ∀ i j k, i < j → j < k → k ≤ n → anc t i v → anc t k v → anc t j v) {u w : Nat} (u1 : 1 ≤ u) (u2 : u ≤ n) (w1 : 1 ≤ w) (w2 : w ≤ n) : ¬ crP (t w) w (t u) u := by
  intro h
  have a1 := ct_anc H ht hc u1 u2 w1 w2 h
  have a2 := ct_anc H ht hc w1 w2 u1 u2 (crP_symm.mp h)
  have := anc_as H (ht u u1 u2) a1 a2
  rw [this] at h
  unfold crP at h
  omega
theorem nc_out (H : HT n t) (ht : ∀ w, 1 ≤ w → w ≤ n → t w ≤ n) (hnc : ∀ u w, 1 ≤ u → u ≤ n → 1 ≤ w → w ≤ n → u ≠ w → ¬ crP (t w) w (t u) u) {v x : Nat} (hv : 1 ≤ v) (x1 : 1 ≤ x) (x2 : x ≤ n) (hx : anc t (t x) v) : ∀ k y, y ≤ n → ¬ anc t y v → itN t k y = 0 → (y < x ∧ y < t x) ∨ (x < y ∧ t x < y) := by
  have htx := anc_pos H hv hx
  have hxv : anc t x v := anc_tr anc_up hx
  intro k
  induction k with
  | zero => intro y _ _ e; have : y = 0 := e; omega
  | succ k ih =>
    intro y y2 hy e
    rcases Nat.eq_zero_or_pos y with z | z
    · omega
    · have h1 := ih (t y) (ht y z y2) (fun q => hy (anc_tr anc_up q)) e
      have n1 : y ≠ x := fun q => hy (q ▸ hxv)
      have n2 : y ≠ t x := fun q => hy (q ▸ hx)
      have h2 := hnc y x z y2 x1 x2 n1
      unfold crP at h2
      omega
theorem nc_ct (H : HT n t) (ht : ∀ w, 1 ≤ w → w ≤ n → t w ≤ n) (hnc : ∀ u w, 1 ≤ u → u ≤ n → 1 ≤ w → w ≤ n → u ≠ w → ¬ crP (t w) w (t u) u) {v : Nat} (hv : 1 ≤ v) (hvn : v ≤ n) {i j k : Nat} (h1 : i < j) (h2 : j < k) (h3 : k ≤ n) (hi : anc t i v) (hk : anc t k v) : anc t j v := by
  apply Classical.byContradiction
  intro hj
  have j1 : 1 ≤ j := by have := anc_pos H hv hi; omega
  have key : ∀ d z, z ≤ n → itN t d z = v → (z < j ↔ v < j) := by
    intro d
    induction d with
    | zero => intro z _ e; have : z = v := e; rw [this]
    | succ d ih =>
      intro z z2 e
      have z1 : 1 ≤ z := anc_pos H hv ⟨d + 1, e⟩
      have e2 := ih (t z) (ht z z1 z2) e
      have := nc_out H ht hnc hv z1 z2 ⟨d, e⟩ n j (by omega) hj (H.2 j j1 (by omega))
      omega
  obtain ⟨d1, e1⟩ := hi
  obtain ⟨d2, e2⟩ := hk
  have a1 := key d1 i (by omega) e1
  have a2 := key d2 k h3 e2
  omega
/-- as the sums ask it -/
theorem MB_full {pj : Prop} {mb : Nat → Bool} (hn : n ≤ 6) (H : HT n t) (ht : ∀ w, 1 ≤ w → w ≤ n → t w ≤ n) (hmb : ∀ M, M < 64 → M ≠ 0 → (mb M = true ↔ (pj → ∀ i j k, i < j → j < k → inS M i → inS M k → inS M j))) : MB t mb (2 ^ n - 1) ↔ (pj → ∀ u w, 1 ≤ u → u < w → w ≤ n → ¬ crP (t w) w (t u) u) := by
  have hne : ∀ M v, inS M v → M ≠ 0 := fun M v h e => no0 v (e ▸ h)
  constructor
  · intro hM hp u w u1 uw wn
    refine ct_nc H ht (fun v v1 v2 i j k hij hjk hkn hi hk => ?_) u1 (by omega) (by omega) wn
    obtain ⟨M, m1, m2⟩ := inS_mk (fun u => anc t u v) n
    have hm := hM v M (inS_full.mpr ⟨v1, v2⟩) (s64 hn m1) (fun u => by rw [m2 u, inS_full]; exact ⟨fun z => ⟨⟨z.1, z.2.1⟩, z.2.2⟩, fun z => ⟨z.1.1, z.1.2, z.2⟩⟩)
    have i1 := anc_pos H v1 hi
    have ii := (m2 i).mpr ⟨i1, by omega, hi⟩
    exact ((m2 j).mp ((hmb M (s64 hn m1) (hne M i ii)).mp hm hp i j k hij hjk ii ((m2 k).mpr ⟨by omega, hkn, hk⟩))).2.2
  · intro h v M hv hM hu
    obtain ⟨v1, v2⟩ := inS_full.mp hv
    have hvM : inS M v := (hu v).mpr ⟨hv, anc_rf⟩
    refine (hmb M hM (hne M v hvM)).mpr (fun hp i j k hij hjk hi hk => ?_)
    have hi := (hu i).mp hi
    have hk := (hu k).mp hk
    have i2 := inS_full.mp hi.1
    have k2 := inS_full.mp hk.1
    refine (hu j).mpr ⟨inS_full.mpr ⟨by omega, by omega⟩, nc_ct H ht (fun u w u1 u2 w1 w2 hne => ?_) v1 v2 hij hjk k2.2 hi.2 hk.2⟩
    rcases Nat.lt_or_gt_of_ne hne with z | z
    · exact h hp u w u1 z w2
    · exact fun y => h hp w u w1 z u2 (crP_symm.mp y)
theorem isT_anc (h0 : t 0 = 0) (ht : ∀ w, 1 ≤ w → w ≤ n → t w ≤ n) (h : ∀ v, 1 ≤ v → v ≤ n → anc t v 0) : isT n t := by
  have hle : ∀ j v, v ≤ n → itN t j v ≤ n := by
    intro j
    induction j with
    | zero => intro v hv; exact hv
    | succ j ih =>
      intro v hv
      rw [itN]
      rcases Nat.eq_zero_or_pos v with e | e
      · rw [e, h0]; exact ih 0 (by omega)
      · exact ih _ (ht v e hv)
  intro w w1 w2
  obtain ⟨j, hj⟩ := h w w1 w2
  obtain ⟨d, d1, d2, d3⟩ := first_out (k := n) j (by rw [hj]; omega)
  have hd := out_bound d2 d3
  have h3 := hle d w w2
  have h4 : itN t d w = 0 := by omega
  rw [show n = (n - d) + d by omega, itN_add, h4]
  exact itN_0 h0 _
end PRJ
/-- the whole sum, as a list -/
def totL (sg : Bool) (n : Nat) (b f : Nat → Nat → List Mon) : List Mon := if sg = true then b 0 (2 ^ n - 1) else f 0 (2 ^ n - 1)
def shP (sg : Bool) (pj : Prop) (n : Nat) (l : List Nat) : Prop := admT (sg = true) pj (fun _ _ => True) n l
theorem adm_sh {sg : Bool} {pj : Prop} {ch : Nat → Nat → Prop} {n : Nat} {l : List Nat} : admT (sg = true) pj ch n l ↔ shP sg pj n l ∧ ∀ w, 1 ≤ w → w ≤ n → ch (hL l w) w := by
  unfold shP admT
  exact ⟨fun h => ⟨⟨fun _ _ _ => trivial, h.2⟩, h.1⟩, fun h => ⟨h.2, h.1.2⟩⟩
section TOT
variable {sg : Bool} {pj : Prop} {n : Nat} {mb : Nat → Bool} {b f : Nat → Nat → List Mon}
theorem full_lt (hn : n ≤ 6) : 2 ^ n - 1 < 2 ^ n := by have := Nat.two_pow_pos n; omega
theorem full_ne (h1 : 1 ≤ n) : 2 ^ n - 1 ≠ 0 := by
  have : 2 ^ 1 ≤ 2 ^ n := Nat.pow_le_pow_right (by decide) h1
  omega
theorem no_root : ¬ inS (2 ^ n - 1) 0 := fun h => absurd h.1 (by omega)
theorem tot_cnt (h1 : 1 ≤ n) (hn : n ≤ 6) (E : EQS n mb b f) (hmb : ∀ M, M < 64 → M ≠ 0 → (mb M = true ↔ (pj → ∀ i j k, i < j → j < k → inS M i → inS M k → inS M j))) {l : List Nat} (hl : l ∈ allT n) : (shP sg pj n l → (totL sg n b f).countP (qT (hL l)) = 1) ∧ (¬ shP sg pj n l → (totL sg n b f).countP (qT (hL l)) = 0) := by
  obtain ⟨l1, l2⟩ := allT_mem.mp hl
  have h0 : hL l 0 = 0 := rfl
  have ht : ∀ w, 1 ≤ w → w ≤ n → hL l w ≤ n := fun w w1 w2 => (l2 w w1 w2).1
  by_cases hT : isT n (hL l)
  · have H : HT n (hL l) := ⟨h0, hT⟩
    obtain ⟨c1, c2⟩ := cnt_all H hn E (2 ^ n - 1) (2 ^ n - 1) 0 (Nat.le_refl _) (full_lt hn) no_root
    have c1 := c1 (full_ne h1)
    have hM := MB_full (pj := pj) (mb := mb) hn H ht hmb
    cases sg with
    | false =>
      have e : shP false pj n l ↔ PF (hL l) mb 0 (2 ^ n - 1) := by
        unfold shP admT PF
        rw [hM]
        constructor
        · intro z
          refine ⟨fun v hv => ?_, z.2.2.2⟩
          obtain ⟨v1, v2⟩ := inS_full.mp hv
          have := ht v v1 v2
          rcases Nat.eq_zero_or_pos (hL l v) with q | q
          · exact Or.inl q
          · exact Or.inr (inS_full.mpr ⟨q, this⟩)
        · intro z
          exact ⟨fun _ _ _ => trivial, fun q => (by cases q), hT, z.2⟩
      rw [e]
      exact c2
    | true =>
      have e : shP true pj n l ↔ PB (hL l) mb 0 (2 ^ n - 1) := by
        unfold shP admT PB
        rw [hM]
        constructor
        · intro z
          refine ⟨?_, z.2.2.2⟩
          obtain ⟨w, w1, _, w3⟩ := uc_anc H (A := inS (2 ^ n - 1)) (h := 0) (fun v hv => inS_full.mp hv) (fun v hv => by
            obtain ⟨v1, v2⟩ := inS_full.mp hv
            rcases Nat.eq_zero_or_pos (hL l v) with q | q
            · exact Or.inl q
            · exact Or.inr (inS_full.mpr ⟨q, ht v v1 v2⟩)) 1 (inS_full.mpr ⟨Nat.le_refl _, h1⟩)
          refine ⟨w, w1, w3, fun v hv hne => ?_⟩
          obtain ⟨v1, v2⟩ := inS_full.mp hv
          obtain ⟨u1, u2⟩ := inS_full.mp w1
          refine inS_full.mpr ⟨?_, ht v v1 v2⟩
          rcases Nat.eq_zero_or_pos (hL l v) with q | q
          · rcases Nat.lt_or_gt_of_ne hne with y | y
            · exact absurd ⟨q, w3⟩ (z.2.1 rfl v w v1 y u2)
            · exact absurd ⟨w3, q⟩ (z.2.1 rfl w v u1 y v2)
          · exact q
        · rintro ⟨⟨w, w1, w2, w3⟩, z⟩
          refine ⟨fun _ _ _ => trivial, fun _ u v u1 uv vn hc => ?_, hT, z⟩
          have hz : ∀ x, 1 ≤ x → x ≤ n → hL l x = 0 → x = w := by
            intro x x1 x2 e
            apply Classical.byContradiction
            intro q
            have := (w3 x (inS_full.mpr ⟨x1, x2⟩) q).1
            omega
          have := hz u u1 (by omega) hc.1
          have := hz v (by omega) vn hc.2
          omega
      rw [e]
      exact c1
  · refine ⟨fun z => absurd z.2.2.1 hT, fun _ => ?_⟩
    rw [List.countP_eq_zero]
    intro m hm q
    obtain ⟨m1, m2⟩ := mem_all (t := hL l) hn E (2 ^ n - 1) (2 ^ n - 1) 0 (Nat.le_refl _) (full_lt hn) no_root (Nat.zero_le _)
    have ok : okM n (hL l) (2 ^ n - 1) 0 m := by
      unfold totL at hm
      split at hm
      · exact m1 (full_ne h1) m hm
      · exact m2 m hm
    exact hT (isT_anc h0 ht (fun v v1 v2 => ok.2.2 q v (inS_full.mpr ⟨v1, v2⟩)))
theorem tot_ok (h1 : 1 ≤ n) (hn : n ≤ 6) (E : EQS n mb b f) : ∀ m, m ∈ totL sg n b f → wdS (2 ^ n - 1) m ∧ ∀ x, x ∈ m → x.1 ≤ n ∧ x.1 ≠ x.2 := by
  intro m hm
  obtain ⟨m1, m2⟩ := mem_all (t := fun _ => 0) hn E (2 ^ n - 1) (2 ^ n - 1) 0 (Nat.le_refl _) (full_lt hn) no_root (Nat.zero_le _)
  unfold totL at hm
  split at hm
  · exact ⟨(m1 (full_ne h1) m hm).1, (m1 (full_ne h1) m hm).2.1⟩
  · exact ⟨(m2 m hm).1, (m2 m hm).2.1⟩
/-- all trees of the shape -/
noncomputable def shL (sg : Bool) (pj : Prop) (n : Nat) : List (List Nat) := (allT n).filter (fun l => @decide (shP sg pj n l) (Classical.propDecidable _))
theorem allT_nd (hn : n ≤ 6) : (allT n).Nodup := (allT_sorted hn).imp (fun h e => by rw [e] at h; omega)
theorem tot_ev (p : Nat → Nat → Int64) (h1 : 1 ≤ n) (hn : n ≤ 6) (E : EQS n mb b f) (hmb : ∀ M, M < 64 → M ≠ 0 → (mb M = true ↔ (pj → ∀ i j k, i < j → j < k → inS M i → inS M k → inS M j))) : sm (totL sg n b f) (prM p) = sm (shL sg pj n) (fun l => prW p (hL l) (List.range' 1 n)) := by
  refine trees_sum (allT_nd hn) (fun m hm => ?_) (fun l hl => ?_) (fun m hm l hl q => ?_)
  · have := tot_ok h1 hn E m hm
    exact mon_tree this.1 this.2
  · have := tot_cnt (sg := sg) h1 hn E hmb hl
    exact ⟨fun z => this.1 (@of_decide_eq_true _ (Classical.propDecidable _) z), fun z => this.2 (fun y => z (@decide_eq_true _ (Classical.propDecidable _) y))⟩
  · exact prM_tree (tot_ok h1 hn E m hm).1 q
theorem tot_de (p : Nat → Nat → Int64) {h w : Nat} (w1 : 1 ≤ w) (w2 : w ≤ n) (h1 : 1 ≤ n) (hn : n ≤ 6) (E : EQS n mb b f) (hmb : ∀ M, M < 64 → M ≠ 0 → (mb M = true ↔ (pj → ∀ i j k, i < j → j < k → inS M i → inS M k → inS M j))) : sm (totL sg n b f) (dMo p (h, w)) = sm (shL sg pj n) (fun l => if hL l w = h then prW p (hL l) (List.range' 1 n) else 0) := by
  refine trees_sum (allT_nd hn) (fun m hm => ?_) (fun l hl => ?_) (fun m hm l hl q => ?_)
  · have := tot_ok h1 hn E m hm
    exact mon_tree this.1 this.2
  · have := tot_cnt (sg := sg) h1 hn E hmb hl
    exact ⟨fun z => this.1 (@of_decide_eq_true _ (Classical.propDecidable _) z), fun z => this.2 (fun y => z (@decide_eq_true _ (Classical.propDecidable _) y))⟩
  · exact dMo_tree w1 w2 (tot_ok h1 hn E m hm).1 q
end TOT
