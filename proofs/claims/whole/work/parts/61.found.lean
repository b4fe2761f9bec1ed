/-! the class: scoreAt, headAt, keepOnly -/
section FND
variable {σ : St}
theorem xor_pos {y : Int64} : 0 ≤ (y ^^^ 117649) ↔ 0 ≤ y.toInt := by
  rw [Int64.le_iff_toInt_le]
  show (0 : Int64).toInt ≤ (y ^^^ 117649).toBitVec.toInt ↔ 0 ≤ y.toBitVec.toInt
  have h1 : ∀ b : BitVec 64, 0 ≤ b.toInt ↔ b.msb = false := by
    intro b
    have := BitVec.msb_eq_toInt (x := b)
    rw [this]
    simp
  rw [show (0 : Int64).toInt = 0 from rfl, h1, h1, Int64.toBitVec_xor, BitVec.msb_xor]
  have : (117649 : Int64).toBitVec.msb = false := by decide
  rw [this]
  simp
theorem td_nn {a : Int} (h : 0 ≤ a) : a.tdiv 117649 = a / 117649 := by rw [Int.tdiv_eq_ediv, if_pos (Or.inl h)]; omega
theorem td_ng {a : Int} (h : a < 0) : a.tdiv 117649 = if a % 117649 = 0 then a / 117649 else a / 117649 + 1 := by
  rw [Int.tdiv_eq_ediv]
  by_cases q : a % 117649 = 0
  · rw [if_pos (Or.inr (Int.dvd_of_emod_eq_zero q)), if_pos q]; omega
  · rw [if_neg, if_neg q]; rfl
    rintro (z | z)
    · omega
    · exact q (Int.emod_eq_zero_of_dvd z)
theorem div64 {y : Int64} (h : -2 ^ 62 ≤ y.toInt) : (y / 117649).toInt = y.toInt.tdiv 117649 := by
  have hne : y ≠ Int64.minValue := fun e => by rw [e] at h; revert h; decide
  rw [Int64.toInt_div_of_ne_left _ _ hne]; rfl
theorem floorDiv_J {K : Int64 → St → Prop} {y : Int64} (h1 : -2 ^ 62 ≤ y.toInt) (h2 : y.toInt ≤ 2 ^ 62) (hK : ∀ r, r.toInt = y.toInt / 117649 → K r σ) : P_J9_floorDiv_f86c9 y 117649 σ K := by
  unfold P_J9_floorDiv_f86c9
  refine ⟨by decide, fun v2 e2 => ?_⟩
  have hd := div64 h1
  have c117 : (117649 : Int64).toInt = 117649 := by decide
  rw [xor_pos]
  refine ⟨fun z => hK _ (by rw [e2, hd, td_nn z]), fun z => ?_⟩
  have hz : y.toInt < 0 := by omega
  rw [td_ng hz] at hd
  have hb : ((y / 117649) * 117649).toInt = (y / 117649).toInt * 117649 := by
    rw [I64_mul, c117]
    · rw [c117, hd]; split <;> omega
    · rw [c117, hd]; split <;> omega
  have hiff : v2 * 117649 = y ↔ y.toInt % 117649 = 0 := by
    rw [← Int64.toInt_inj, e2, hb, hd]
    by_cases q : y.toInt % 117649 = 0
    · rw [if_pos q]; omega
    · rw [if_neg q]; omega
  rw [hiff]
  refine ⟨fun q => hK _ (by rw [e2, hd, if_pos q]), fun q => hK _ ?_⟩
  rw [e2, I64_sub, hd, if_neg q, show (1 : Int64).toInt = 1 from rfl]
  · omega
  · rw [hd, if_neg q, show (1 : Int64).toInt = 1 from rfl]; omega
  · rw [hd, if_neg q, show (1 : Int64).toInt = 1 from rfl]; omega
theorem floorMod_J {K : Int64 → St → Prop} {y : Int64} (h1 : -2 ^ 62 ≤ y.toInt) (h2 : y.toInt ≤ 2 ^ 62) (hK : ∀ r, r.toInt = y.toInt % 117649 → K r σ) : P_J9_floorMod_f86c9 y 117649 σ K := by
  unfold P_J9_floorMod_f86c9
  refine ⟨by decide, fun v2 e2 => ?_⟩
  have hd := div64 h1
  have c117 : (117649 : Int64).toInt = 117649 := by decide
  rw [xor_pos]
  have hb : ∀ q : Int, (y / 117649).toInt = q → -2 ^ 62 ≤ q * 117649 → q * 117649 ≤ 2 ^ 62 → ((y / 117649) * 117649).toInt = q * 117649 := by
    intro q hq a b
    rw [I64_mul, c117, hq]
    · rw [c117, hq]; omega
    · rw [c117, hq]; omega
  refine ⟨fun z => ?_, fun z => ?_⟩
  · rw [td_nn z] at hd
    have hm := hb _ hd (by omega) (by omega)
    refine hK _ ?_
    rw [e2, I64_sub, hm]
    · omega
    · rw [hm]; omega
    · rw [hm]; omega
  · have hz : y.toInt < 0 := by omega
    rw [td_ng hz] at hd
    by_cases q : y.toInt % 117649 = 0
    · rw [if_pos q] at hd
      have hm := hb _ hd (by omega) (by omega)
      have hv2 : v2.toInt = 0 := by
        rw [e2, I64_sub, hm]
        · omega
        · rw [hm]; omega
        · rw [hm]; omega
      refine ⟨fun _ => hK _ (by rw [hv2, q]), fun z2 => absurd ?_ z2⟩
      rw [← Int64.toInt_inj, hv2]; rfl
    · rw [if_neg q] at hd
      have hm := hb _ hd (by omega) (by omega)
      have hv2 : v2.toInt = y.toInt % 117649 - 117649 := by
        rw [e2, I64_sub, hm]
        · omega
        · rw [hm]; omega
        · rw [hm]; omega
      refine ⟨fun z2 => ?_, fun _ => hK _ ?_⟩
      · rw [← Int64.toInt_inj, hv2] at z2
        have : (0 : Int64).toInt = 0 := rfl
        omega
      · rw [I64_add, hv2, c117]
        · omega
        · rw [hv2, c117]; omega
        · rw [hv2, c117]; omega
theorem scoreAt_C {K : Int32 → St → Prop} {k i n : Nat} {L : List Int} {v : Nat → Nat → Int} {l : List Nat} {sI : Int32} (hn : n ≤ 6) (hk6 : k ≤ 6) (h : KS σ k L) (hi : i < L.length) (hl : l ∈ allT n) (e : L[i] = WT v l) (hs : sI.toInt = tot v 1 l) (hK : K sI σ) : P_X4_scoreAt (nI i) σ K := by
  unfold P_X4_scoreAt
  have hc := WT_code hn hl
  have hlt := h.1
  rw [ix_nI (by omega)]
  have hx := h.2.2 i hi
  rw [e, WT_eq] at hx
  have b1 := sI.toInt_lt
  have b2 := sI.le_toInt
  rw [← hs] at hx
  have hneg : (-(σ.2.1 146 i)).toInt = -(sI.toInt * 117649 - (cod 1 l : Int)) := by
    rw [I64_neg, hx]
    rw [hx]; omega
  refine ⟨vp_in_nI (by omega) (by decide), floorDiv_J (by rw [hneg]; omega) (by rw [hneg]; omega) (fun r hr => ?_)⟩
  rw [hneg] at hr
  have hr2 : r.toInt = -sI.toInt := by omega
  have : Int64.toInt32 (-r) = sI := by
    rw [← Int32.toInt_inj, Int64.toInt_toInt32, I64_neg (by rw [hr2]; omega), hr2, Int.neg_neg]
    exact Int.bmod_eq_of_le b2 b1
  rw [this]; exact hK
theorem cod_digit : ∀ (l : List Nat) (w0 w : Nat), 1 ≤ w0 → w0 ≤ w → w < w0 + l.length → w0 + l.length ≤ 7 → (∀ a, a ∈ l → a ≤ 6) → (hw : w - w0 < l.length) → (cod w0 l / 7 ^ (6 - w)) % 7 = l[w - w0]
  | [], w0, w, _, _, h3, _, _, hw => by simp at hw
  | h :: r, w0, w, h1, h2, h3, h4, ha, hw => by
    rw [List.length_cons] at h3 h4
    rw [cod]
    have hc := cod_lt r (w0 + 1) (by omega) (by omega) (fun a m => ha a (List.mem_cons_of_mem _ m))
    rw [show 7 - (w0 + 1) = 6 - w0 by omega] at hc
    have hh := ha h List.mem_cons_self
    by_cases e : w = w0
    · subst e
      simp only [Nat.sub_self, List.getElem_cons_zero]
      rw [Nat.mul_comm, Nat.mul_add_div (Nat.pow_pos (by decide)), Nat.div_eq_of_lt hc, Nat.add_zero]
      omega
    · have ih := cod_digit r (w0 + 1) w (by omega) (by omega) (by omega) (by omega) (fun a m => ha a (List.mem_cons_of_mem _ m)) (by omega)
      have e2 : h * 7 ^ (6 - w0) = 7 ^ (6 - w) * (h * 7 ^ (w - w0 - 1) * 7) := by
        rw [show 6 - w0 = (6 - w) + (w - w0 - 1) + 1 by omega, Nat.pow_succ, Nat.pow_add]
        ac_rfl
      rw [e2, Nat.mul_add_div (Nat.pow_pos (by decide)), Nat.mul_add_mod_self_right, ih]
      have e3 : w - w0 = (w - (w0 + 1)) + 1 := by omega
      simp only [e3, List.getElem_cons_succ]
theorem nI_div7 {a : Nat} (h : a < 2 ^ 31) : nI a / 7 = nI (a / 7) := by
  rw [← Int32.toInt_inj, nI_toInt (by omega)]
  have hne : nI a ≠ Int32.minValue := fun e => by
    have := nI_toInt h
    rw [e] at this
    have h2 : Int32.minValue.toInt = -2147483648 := by decide
    omega
  rw [Int32.toInt_div_of_ne_left _ _ hne, nI_toInt h, show (7 : Int32).toInt = 7 from rfl, Int.tdiv_eq_ediv, if_pos (Or.inl (by omega))]
  omega
theorem headAt_C2 {K : Int32 → St → Prop} {k i n w : Nat} {L : List Int} {v : Nat → Nat → Int} {l : List Nat} (hn : n ≤ 6) (hk6 : k ≤ 6) (h : KS σ k L) (hi : i < L.length) (hl : l ∈ allT n) (e : L[i] = WT v l) (hs : -2 ^ 45 ≤ tot v 1 l ∧ tot v 1 l ≤ 2 ^ 45) (hw1 : 1 ≤ w) (hw2 : w ≤ n) (hK : K (nI (hL l w)) σ) : P_X4_headAt (nI i) (nI w) σ K := by
  unfold P_X4_headAt
  have hc := WT_code hn hl
  have hlt := h.1
  obtain ⟨hl1, hl2⟩ := all6 hn hl
  rw [ix_nI (by omega)]
  have hx := h.2.2 i hi
  rw [e, WT_eq] at hx
  have hneg : (-(σ.2.1 146 i)).toInt = -(tot v 1 l * 117649 - (cod 1 l : Int)) := by
    rw [I64_neg, hx]
    rw [hx]; omega
  refine ⟨vp_in_nI (by omega) (by decide), floorMod_J (by rw [hneg]; omega) (by rw [hneg]; omega) (fun r hr v4 e4 => ?_)⟩
  rw [hneg] at hr
  have hr2 : r.toInt = (cod 1 l : Int) := by omega
  have e4' : v4 = nI (cod 1 l) := by
    rw [e4, ← Int32.toInt_inj, Int64.toInt_toInt32, hr2, nI_toInt (by omega)]
    exact Int.bmod_eq_of_le (by omega) (by omega)
  subst e4'
  rw [show nI (cod 1 l) = nI (cod 1 l / 7 ^ 0) by rw [Nat.pow_zero, Nat.div_one]]
  refine LpE_for (S := Int32 × Int32 × St) (T := Unit) (fun i _ => (nI (cod 1 l / 7 ^ i), nI (6 - i), σ)) (fun _ _ => True) (6 - w) ?_ 0 () (by omega) trivial
  intro j _ c hj _ hc2
  dsimp only
  unfold F_X4_headAt_19
  have hq : cod 1 l / 7 ^ j ≤ cod 1 l := Nat.div_le_self _ _
  rw [nI_leI (by omega) (by omega)]
  refine ⟨fun z => ?_, fun z v5 e5 v6 e6 => ?_⟩
  · have ej : j = 6 - w := by omega
    subst ej
    have hd := cod_digit l 1 w (Nat.le_refl _) hw1 (by omega) (by omega) hl2 (by omega)
    rw [← hL_get hw1 (by omega)] at hd
    rw [nI_div7 (by omega), show (7 : Int32) = nI 7 from rfl, pk_mul, pk_sub (by omega)]
    have : cod 1 l / 7 ^ (6 - w) - cod 1 l / 7 ^ (6 - w) / 7 * 7 = hL l w := by rw [← hd]; omega
    rw [this]; exact hK
  · rw [nI_div7 (by omega), Nat.div_div_eq_div_mul, ← Nat.pow_succ] at e5
    rw [← Int32.sub_eq_add_neg, show nI (6 - j) - 1 = nI (6 - j - 1) from pk_sub (b := 1) (by omega), show 6 - j - 1 = 6 - (j + 1) by omega] at e6
    rw [e5, e6]
    exact hc2 () (by omega) trivial
theorem headAt_C {K : Int32 → St → Prop} {k i n w : Nat} {L : List Int} {v : Nat → Nat → Int} {l : List Nat} (hn : n ≤ 6) (hk6 : k ≤ 6) (h : KS σ k L) (hi : i < L.length) (hl : l ∈ allT n) (e : L[i] = WT v l) (hs : -2 ^ 44 ≤ tot v 1 l ∧ tot v 1 l ≤ 2 ^ 44) (hw1 : 1 ≤ w) (hw2 : w ≤ n) (hK : K (nI (hL l w)) σ) : P_X4_headAt (nI i) (nI w) σ K := headAt_C2 hn hk6 h hi hl e ⟨by have := hs.1; omega, by have := hs.2; omega⟩ hw1 hw2 hK
theorem keepOnly_C {K : St → Prop} {n h w : Nat} {sg pj : Prop} {ch : Nat → Nat → Prop} {v : Nat → Nat → Int} {of : Nat → List Nat} (hO : OFS n sg pj ch v of σ) (hw1 : 1 ≤ w) (hw2 : w ≤ n) (hh : h ≤ n) (hK : ∀ σ' of', OFS n sg pj (fun a u => ch a u ∧ (u = w → a = h)) v of' σ' → (σ'.2 = σ.2 ∧ ∀ c, c ≠ 136 + w → c ≠ 143 → σ'.1 c = σ.1 c) → K σ') : P_X4_keepOnly (nI h) (nI w) σ K := by
  unfold P_X4_keepOnly
  have hn6 := hO.n6
  obtain ⟨⟨o1, o2, o3, o4, o5⟩, o6, o7⟩ := hO.ow w hw1 hw2
  refine LpE_inv (fun s' => s'.2.2 = σ ∧ ∃ i, i ≤ (of w).length ∧ s'.2.1 = nI i ∧ s'.1 = if h ∈ (of w).take i then 1 else 0) (fun s' => 20 - ix s'.2.1) ?_ _ ⟨rfl, 0, by omega, rfl, by simp⟩
  intro s' c hI hc
  obtain ⟨x1, x2, σ'⟩ := s'
  obtain ⟨e1, i, hi, e2, e3⟩ := hI
  dsimp only at e1 e2 e3
  subst e1 e2 e3
  dsimp only
  unfold F_X4_keepOnly_5
  refine ⟨vp_in_nI (by omega) (by decide), ?_⟩
  rw [ix_nI (by omega), o1, nI_leI (by omega) (by omega)]
  refine ⟨fun z => ⟨vp_in_nI (by omega) (by decide), fun s3 e3 => ⟨vp_in_nI (by omega) (by decide), fun s5 e5 => ?_⟩⟩, fun z => ⟨vp_in_nI (by omega) (by decide), vp_in_nI (by omega) (by decide), ?_⟩⟩
  · rw [List.take_of_length_le z] at e5
    rw [show ix (0 : Int32) = 0 from ix_nI (j := 0) (by decide), show 135 + 1 + w = 136 + w by omega] at e3
    have h5 : ∀ c, c ≠ 136 + w → c ≠ 143 → s5.1 c = σ'.1 c := fun c a b => by rw [e5, wI_ne b, e3, wI_ne a]
    have h52 : s5.2 = σ'.2 := by rw [e5, wI_2, e3, wI_2]
    refine hK s5 (fun u => if u = w then (if h ∈ of w then [h] else []) else of u) ⟨hO.n1, hO.n6, by rw [h5 126 (by omega) (by omega)]; exact hO.sz, by rw [h5 125 (by omega) (by omega)]; exact hO.g1, by rw [h5 125 (by omega) (by omega)]; exact hO.g2, fun u u1 u2 => ?_, fun a u u1 u2 hc => hO.ch1 a u u1 u2 hc.1, fun a u u1 u2 hc => hO.bd a u u1 u2 hc.1⟩ ⟨h52, h5⟩
    by_cases e : u = w
    · subst e
      simp only [if_true]
      by_cases q : h ∈ of u
      · rw [if_pos q] at e5 ⊢
        refine ⟨⟨by rw [e5]; exact wI_self, fun z hz => ?_, by simp, by simp, fun p hp => ?_⟩, by simp, fun p => ?_⟩
        · have hz' : z < 1 := hz
          have : z = 0 := by omega
          subst this
          rw [e5, wI_ne (by omega), e3]
          exact wI_self
        · rw [List.mem_singleton.mp hp, h52]; exact o5 h q
        · rw [List.mem_singleton]
          constructor
          · intro y; rw [y]; exact ⟨(o7 h).mp q, fun _ => rfl⟩
          · intro y; exact y.2 trivial
      · rw [if_neg q] at e5 ⊢
        refine ⟨⟨by rw [e5]; exact wI_self, fun z hz => absurd hz (Nat.not_lt_zero _), List.nodup_nil, List.Pairwise.nil, fun p hp => by cases hp⟩, by simp, fun p => ⟨fun hp => (by cases hp), fun y => ?_⟩⟩
        have := y.2 trivial
        subst this
        exact absurd ((o7 p).mpr y.1) q
    · simp only [if_neg e]
      obtain ⟨⟨p1, p2, p3, p4, p5⟩, p6, p7⟩ := hO.ow u u1 u2
      refine ⟨⟨by rw [e5, wI_ni e, e3, wI_ne (by omega)]; exact p1, fun z hz => by rw [h5 (136 + u) (by omega) (by omega)]; exact p2 z hz, p3, p4, fun p hp => by rw [h52]; exact p5 p hp⟩, p6, fun p => ?_⟩
      rw [p7]
      exact ⟨fun y => ⟨y, fun q => absurd q e⟩, fun y => y.1⟩
  · have hil : i < (of w).length := by omega
    have ho6 := (o5 _ (List.getElem_mem hil)).1
    rw [ix_nI (by omega), show 135 + 1 + w = 136 + w by omega, o2 i hil, nI_eq (by omega) (by omega), nI_1]
    have hms : 20 - ix (nI (i + 1)) < 20 - ix (nI i) := by rw [ix_nI (by omega), ix_nI (by omega)]; omega
    have htk := List.take_succ_eq_append_getElem hil
    refine ⟨fun q v9 e9 => ?_, fun q v8 e8 => ?_⟩
    · subst e9
      refine hc _ ⟨rfl, i + 1, by omega, rfl, ?_⟩ hms
      show 1 = _
      rw [htk, if_pos (by rw [q]; simp)]
    · subst e8
      refine hc _ ⟨rfl, i + 1, by omega, rfl, ?_⟩ hms
      show (if h ∈ (of w).take i then 1 else 0) = _
      rw [htk]
      have : h ∈ (of w).take i ++ [(of w)[i]] ↔ h ∈ (of w).take i := by
        rw [List.mem_append, List.mem_singleton]
        exact ⟨fun y => y.elim id (fun y => absurd y.symm q), Or.inl⟩
      simp only [this]
end FND
