/-! each tree once -/
def MB (t : Nat → Nat) (mb : Nat → Bool) (S : Nat) : Prop := ∀ v M, inS S v → M < 64 → (∀ u, inS M u ↔ inS S u ∧ anc t u v) → mb M = true
def PB (t : Nat → Nat) (mb : Nat → Bool) (h S : Nat) : Prop := (∃ w, inS S w ∧ t w = h ∧ ∀ v, inS S v → v ≠ w → inS S (t v)) ∧ MB t mb S
def PF (t : Nat → Nat) (mb : Nat → Bool) (h S : Nat) : Prop := (∀ v, inS S v → t v = h ∨ inS S (t v)) ∧ MB t mb S
section CTD
variable {n : Nat} {t : Nat → Nat} {mb : Nat → Bool} {b f : Nat → Nat → List Mon} {S B h w : Nat}
theorem s64 (hn : n ≤ 6) (hS : S < 2 ^ n) : S < 64 := Nat.lt_of_lt_of_le hS (show 2 ^ n ≤ 2 ^ 6 from Nat.pow_le_pow_right (by decide) hn)
theorem top_anc (H : HT n t) (hS : S < 2 ^ n) (hc : ∀ v, inS S v → v ≠ w → inS S (t v)) {v : Nat} (hv : inS S v) : anc t v w := by
  by_cases e : v = w
  · rw [e]; exact anc_rf
  · refine uc_h H (A := fun v => inS S v ∧ v ≠ w) (fun v hv => ⟨hv.1.1, inS_le hS hv.1⟩) (fun v hv => ?_) ⟨hv, e⟩
    by_cases q : t v = w
    · exact Or.inl q
    · exact Or.inr ⟨hc v hv.1 hv.2, q⟩
theorem MB_top (H : HT n t) (hn : n ≤ 6) (hS : S < 2 ^ n) {i : Nat} (hi : S.testBit i = true) (hc : ∀ v, inS S v → v ≠ i + 1 → inS S (t v)) : MB t mb S ↔ mb S = true ∧ MB t mb (S ^^^ 2 ^ i) := by
  have hw : inS S (i + 1) := inS_i.mpr hi
  have hno : ∀ v u, inS S v → v ≠ i + 1 → anc t u v → u ≠ i + 1 := by
    intro v u hv hne ha e
    subst e
    exact hne (anc_as H (inS_le hS hv) (top_anc H hS hc hv) ha)
  constructor
  · intro h
    refine ⟨h (i + 1) S hw (s64 hn hS) (fun u => ⟨fun z => ⟨z, top_anc H hS hc z⟩, fun z => z.1⟩), fun v M hv hM hm => ?_⟩
    rw [inS_bit hi] at hv
    refine h v M hv.1 hM (fun u => ?_)
    rw [hm u, inS_bit hi]
    exact ⟨fun z => ⟨z.1.1, z.2⟩, fun z => ⟨⟨z.1, hno v u hv.1 hv.2 z.2⟩, z.2⟩⟩
  · rintro ⟨h1, h2⟩ v M hv hM hm
    by_cases e : v = i + 1
    · subst e
      have : M = S := inS_ext (fun u => by rw [hm u]; exact ⟨fun z => z.1, fun z => ⟨z, top_anc H hS hc z⟩⟩)
      rw [this]; exact h1
    · refine h2 v M ((inS_bit hi).mpr ⟨hv, e⟩) hM (fun u => ?_)
      rw [hm u, inS_bit hi]
      exact ⟨fun z => ⟨⟨z.1, hno v u hv e z.2⟩, z.2⟩, fun z => ⟨z.1.1, z.2⟩⟩
theorem MB_split (H : HT n t) (hS : S < 2 ^ n) (hB : B &&& S = B) (hX : ∀ v, inS B v → t v = h ∨ inS B (t v)) (hY : ∀ v, inS (S ^^^ B) v → t v = h ∨ inS (S ^^^ B) (t v)) (hh : ¬ inS S h) : MB t mb S ↔ MB t mb B ∧ MB t mb (S ^^^ B) := by
  have hx1 : ∀ v, inS B v → 1 ≤ v ∧ v ≤ n := fun v hv => ⟨hv.1, inS_le hS (inS_sub hB hv)⟩
  have hy1 : ∀ v, inS (S ^^^ B) v → 1 ≤ v ∧ v ≤ n := fun v hv => ⟨hv.1, inS_le hS ((inS_xor hB).mp hv).1⟩
  have a1 : ∀ u v, inS B v → inS S u → anc t u v → inS B u := by
    intro u v hv hu ha
    apply Classical.byContradiction
    intro q
    exact uc_sep H hx1 hX hY (fun z => ((inS_xor hB).mp z).2 hv) (fun z => hh (inS_sub hB z)) hv ((inS_xor hB).mpr ⟨hu, q⟩) ha
  have a2 : ∀ u v, inS (S ^^^ B) v → inS S u → anc t u v → inS (S ^^^ B) u := by
    intro u v hv hu ha
    refine (inS_xor hB).mpr ⟨hu, fun q => ?_⟩
    exact uc_sep H hy1 hY hX ((inS_xor hB).mp hv).2 (fun z => hh ((inS_xor hB).mp z).1) hv q ha
  constructor
  · intro hm
    refine ⟨fun v M hv hM hu => hm v M (inS_sub hB hv) hM (fun u => ?_), fun v M hv hM hu => hm v M ((inS_xor hB).mp hv).1 hM (fun u => ?_)⟩
    · rw [hu u]; exact ⟨fun z => ⟨inS_sub hB z.1, z.2⟩, fun z => ⟨a1 u v hv z.1 z.2, z.2⟩⟩
    · rw [hu u]; exact ⟨fun z => ⟨((inS_xor hB).mp z.1).1, z.2⟩, fun z => ⟨a2 u v hv z.1 z.2, z.2⟩⟩
  · rintro ⟨h1, h2⟩ v M hv hM hu
    by_cases q : inS B v
    · refine h1 v M q hM (fun u => ?_)
      rw [hu u]; exact ⟨fun z => ⟨a1 u v q z.1 z.2, z.2⟩, fun z => ⟨inS_sub hB z.1, z.2⟩⟩
    · have q2 := (inS_xor hB).mpr ⟨hv, q⟩
      refine h2 v M q2 hM (fun u => ?_)
      rw [hu u]; exact ⟨fun z => ⟨a2 u v q2 z.1 z.2, z.2⟩, fun z => ⟨((inS_xor hB).mp z.1).1, z.2⟩⟩
def cF (t : Nat → Nat) (mb : Nat → Bool) (f : Nat → Nat → List Mon) (h S : Nat) : Prop := (PF t mb h S → (f h S).countP (qT t) = 1) ∧ (¬ PF t mb h S → (f h S).countP (qT t) = 0)
def cB (t : Nat → Nat) (mb : Nat → Bool) (b : Nat → Nat → List Mon) (h S : Nat) : Prop := (PB t mb h S → (b h S).countP (qT t) = 1) ∧ (¬ PB t mb h S → (b h S).countP (qT t) = 0)
theorem wsM_nd {n S : Nat} : (wsM n S).Nodup := by unfold wsM; exact List.Pairwise.filter _ List.nodup_range
theorem cntB (H : HT n t) (hn : n ≤ 6) (E : EQS n mb b f) (h0 : S ≠ 0) (hS : S < 2 ^ n) (ih : ∀ S' h, S' < S → ¬ inS S' h → cF t mb f h S') (hh : ¬ inS S h) : cB t mb b h S := by
  have hS64 := s64 hn hS
  unfold cB
  rw [(E.2 h S h0 hS64).1, brL]
  by_cases hm : mb S = true
  · rw [if_pos hm, cnt_flat]
    have hI : ∀ i, i ∈ wsM n S → cF t mb f (i + 1) (S ^^^ 2 ^ i) := by
      intro i hi
      obtain ⟨i1, i2⟩ := wsM_mem.mp hi
      exact ih _ _ (xor_lt S hS64 i (by omega) i2) (fun z => ((inS_bit i2).mp z).2 rfl)
    have hd := sum01 (L := wsM n S) (g := fun i => ((f (i + 1) (S ^^^ 2 ^ i)).map (fun m => (h, i + 1) :: m)).countP (qT t)) (P := fun i => t (i + 1) = h ∧ PF t mb (i + 1) (S ^^^ 2 ^ i)) wsM_nd
      (fun i hi hp => by rw [cnt_cons, if_pos hp.1]; exact (hI i hi).1 hp.2)
      (fun i hi hp => by
        rw [cnt_cons]
        by_cases e : t (i + 1) = h
        · rw [if_pos e]; exact (hI i hi).2 (fun z => hp ⟨e, z⟩)
        · rw [if_neg e])
      (fun i j hi hj hp hq => by
        apply Classical.byContradiction
        intro hne
        obtain ⟨i1, i2⟩ := wsM_mem.mp hi
        obtain ⟨j1, j2⟩ := wsM_mem.mp hj
        have := hp.2.1 (j + 1) ((inS_bit i2).mpr ⟨inS_i.mpr j2, by omega⟩)
        rw [hq.1] at this
        rcases this with z | z
        · exact hh (z ▸ inS_i.mpr i2)
        · exact hh ((inS_bit i2).mp z).1)
    have hiff : (∃ i, i ∈ wsM n S ∧ t (i + 1) = h ∧ PF t mb (i + 1) (S ^^^ 2 ^ i)) ↔ PB t mb h S := by
      constructor
      · rintro ⟨i, hi, e, pf, pm⟩
        obtain ⟨i1, i2⟩ := wsM_mem.mp hi
        have hc : ∀ v, inS S v → v ≠ i + 1 → inS S (t v) := by
          intro v hv hne
          rcases pf v ((inS_bit i2).mpr ⟨hv, hne⟩) with z | z
          · rw [z]; exact inS_i.mpr i2
          · exact ((inS_bit i2).mp z).1
        exact ⟨⟨i + 1, inS_i.mpr i2, e, hc⟩, (MB_top H hn hS i2 hc).mpr ⟨hm, pm⟩⟩
      · rintro ⟨⟨w, w1, w2, w3⟩, w4⟩
        obtain ⟨i, rfl⟩ : ∃ i, w = i + 1 := ⟨w - 1, by have := w1.1; omega⟩
        have i2 := inS_i.mp w1
        have := inS_le hS w1
        refine ⟨i, wsM_mem.mpr ⟨by omega, i2⟩, w2, fun v hv => ?_, ((MB_top H hn hS i2 w3).mp w4).2⟩
        have hv2 := (inS_bit i2).mp hv
        by_cases e : t v = i + 1
        · exact Or.inl e
        · exact Or.inr ((inS_bit i2).mpr ⟨w3 v hv2.1 hv2.2, e⟩)
    exact ⟨fun y => hd.1 (hiff.mpr y), fun y => hd.2 (fun z => y (hiff.mp z))⟩
  · rw [if_neg hm]
    refine ⟨fun y => absurd ?_ hm, fun _ => rfl⟩
    obtain ⟨⟨w, w1, w2, w3⟩, w4⟩ := y
    exact w4 w S w1 hS64 (fun u => ⟨fun z => ⟨z, top_anc H hS w3 z⟩, fun z => z.1⟩)
theorem PB_uc (h1 : ∃ w, inS B w ∧ t w = h ∧ ∀ v, inS B v → v ≠ w → inS B (t v)) : ∀ v, inS B v → t v = h ∨ inS B (t v) := by
  obtain ⟨w, _, w2, w3⟩ := h1
  intro v hv
  by_cases e : v = w
  · exact Or.inl (e ▸ w2)
  · exact Or.inr (w3 v hv e)
theorem cntF (H : HT n t) (hn : n ≤ 6) (E : EQS n mb b f) (h0 : S ≠ 0) (hS : S < 2 ^ n) (ih : ∀ S' h, S' < S → ¬ inS S' h → cF t mb f h S') (ihB : ∀ B, B ≠ 0 → B ≤ S → ¬ inS B h → cB t mb b h B) (hh : ¬ inS S h) : cF t mb f h S := by
  have hS64 := s64 hn hS
  obtain ⟨nd, hlo, hlo6⟩ := subs_nd S hS64 h0
  unfold cF
  rw [(E.2 h S h0 hS64).2, foL, cnt_flat]
  have hsub : ∀ B, B ∈ subs S → B < 64 ∧ B &&& S = B ∧ inS B (loB S + 1) ∧ cB t mb b h B ∧ cF t mb f h (S ^^^ B) := by
    intro B hB
    obtain ⟨b1, b2, b3, b4⟩ := subs_lt S hS64 B hB
    obtain ⟨c1, c2⟩ := (subs_mem S hS64 h0 B b1).mp hB
    exact ⟨b1, c1, inS_i.mpr c2, ihB B b4 b2 (fun z => hh (inS_sub c1 z)), ih _ _ b3 (fun z => hh ((inS_xor c1).mp z).1)⟩
  have hlS : inS S (loB S + 1) := inS_i.mpr hlo
  -- the top of a branch, and the branch by its top
  have htop : ∀ B, B ∈ subs S → PB t mb h B → PF t mb h (S ^^^ B) → ∃ w, inS B w ∧ t w = h ∧ ∀ u, inS B u ↔ inS S u ∧ anc t u w := by
    intro B hB hp hq
    obtain ⟨b1, b2, b3, _⟩ := hsub B hB
    obtain ⟨⟨w, w1, w2, w3⟩, _⟩ := hp
    have hBn : B < 2 ^ n := by have := (subs_lt S hS64 B hB).2.1; omega
    refine ⟨w, w1, w2, fun u => ⟨fun z => ⟨inS_sub b2 z, top_anc H hBn w3 z⟩, fun z => ?_⟩⟩
    apply Classical.byContradiction
    intro q
    exact uc_sep H (fun v hv => ⟨hv.1, inS_le hBn hv⟩) (PB_uc ⟨w, w1, w2, w3⟩) hq.1 (fun y => ((inS_xor b2).mp y).2 w1) (fun y => hh (inS_sub b2 y)) w1 ((inS_xor b2).mpr ⟨z.1, q⟩) z.2
  have hd := sum01 (L := subs S) (g := fun B => (mulM (b h B) (f h (S ^^^ B))).countP (qT t)) (P := fun B => PB t mb h B ∧ PF t mb h (S ^^^ B)) nd
    (fun B hB hp => by
      obtain ⟨_, _, _, b4, b5⟩ := hsub B hB
      rw [cnt_mul, b4.1 hp.1, b5.1 hp.2])
    (fun B hB hp => by
      obtain ⟨_, _, _, b4, b5⟩ := hsub B hB
      rw [cnt_mul]
      by_cases e : PB t mb h B
      · rw [b5.2 (fun z => hp ⟨e, z⟩), Nat.mul_zero]
      · rw [b4.2 e, Nat.zero_mul])
    (fun B B' hB hB' hp hq => by
      obtain ⟨w, w1, w2, w3⟩ := htop B hB hp.1 hp.2
      obtain ⟨w', w1', w2', w3'⟩ := htop B' hB' hq.1 hq.2
      have a1 := ((w3 _).mp (hsub B hB).2.2.1).2
      have a2 := ((w3' _).mp (hsub B' hB').2.2.1).2
      have i1 := (w3 _).mp w1
      have i2 := (w3' _).mp w1'
      have e : w = w' := by
        apply Classical.byContradiction
        intro hne
        rcases anc_ln a1 a2 with z | z
        · have := anc_st z hne
          rw [w2] at this
          exact hh (anc_as H (inS_le hS i2.1) (w2' ▸ anc_up) this ▸ i2.1)
        · have := anc_st z (fun y => hne y.symm)
          rw [w2'] at this
          exact hh (anc_as H (inS_le hS i1.1) (w2 ▸ anc_up) this ▸ i1.1)
      subst e
      exact inS_ext (fun u => by rw [w3, w3']))
  have hiff : (∃ B, B ∈ subs S ∧ PB t mb h B ∧ PF t mb h (S ^^^ B)) ↔ PF t mb h S := by
    constructor
    · rintro ⟨B, hB, hp, hq⟩
      obtain ⟨b1, b2, b3, _⟩ := hsub B hB
      have u1 := PB_uc hp.1
      refine ⟨fun v hv => ?_, (MB_split H hS b2 u1 hq.1 hh).mpr ⟨hp.2, hq.2⟩⟩
      by_cases e : inS B v
      · rcases u1 v e with z | z
        · exact Or.inl z
        · exact Or.inr (inS_sub b2 z)
      · rcases hq.1 v ((inS_xor b2).mpr ⟨hv, e⟩) with z | z
        · exact Or.inl z
        · exact Or.inr ((inS_xor b2).mp z).1
    · rintro ⟨pf, pm⟩
      obtain ⟨w, w1, w2, w3⟩ := uc_anc H (A := inS S) (fun v hv => ⟨hv.1, inS_le hS hv⟩) pf _ hlS
      obtain ⟨B, hB1, hB2⟩ := inS_mk (fun u => inS S u ∧ anc t u w) n
      have hm : ∀ u, inS B u ↔ inS S u ∧ anc t u w := fun u => by rw [hB2 u]; exact ⟨fun z => z.2.2, fun z => ⟨z.1.1, inS_le hS z.1, z⟩⟩
      have hwh : w ≠ h := fun z => hh (z ▸ w1)
      have hno : ¬ anc t h w := fun z => hwh (anc_as H (inS_le hS w1) (w3 ▸ anc_up) z)
      have hBS : B &&& S = B := by
        refine inS_ext (fun u => ?_)
        have := hm u
        unfold inS at this ⊢
        rw [Nat.testBit_and, Bool.and_eq_true]
        exact ⟨fun z => ⟨z.1, z.2.1⟩, fun z => ⟨z.1, z.2, (this.mp z).1.2⟩⟩
      have hBs : B ∈ subs S := (subs_mem S hS64 h0 B (s64 hn hB1)).mpr ⟨hBS, inS_i.mp ((hm _).mpr ⟨hlS, w2⟩)⟩
      have c1 : ∀ v, inS B v → v ≠ w → inS B (t v) := by
        intro v hv hne
        obtain ⟨v1, v2⟩ := (hm v).mp hv
        have v3 := anc_st v2 hne
        rcases pf v v1 with z | z
        · rw [z] at v3; exact absurd v3 hno
        · exact (hm _).mpr ⟨z, v3⟩
      have c2 : ∃ w, inS B w ∧ t w = h ∧ ∀ v, inS B v → v ≠ w → inS B (t v) := ⟨w, (hm w).mpr ⟨w1, anc_rf⟩, w3, c1⟩
      have c3 : ∀ v, inS (S ^^^ B) v → t v = h ∨ inS (S ^^^ B) (t v) := by
        intro v hv
        obtain ⟨v1, v2⟩ := (inS_xor hBS).mp hv
        rcases pf v v1 with z | z
        · exact Or.inl z
        · refine Or.inr ((inS_xor hBS).mpr ⟨z, fun y => v2 ((hm v).mpr ⟨v1, anc_tr anc_up ((hm _).mp y).2⟩)⟩)
      have hs := (MB_split H hS hBS (PB_uc c2) c3 hh).mp pm
      exact ⟨B, hBs, ⟨c2, hs.1⟩, ⟨c3, hs.2⟩⟩
  exact ⟨fun y => hd.1 (hiff.mpr y), fun y => hd.2 (fun z => y (hiff.mp z))⟩
theorem cnt_all (H : HT n t) (hn : n ≤ 6) (E : EQS n mb b f) : ∀ k S h, S ≤ k → S < 2 ^ n → ¬ inS S h → (S ≠ 0 → cB t mb b h S) ∧ cF t mb f h S := by
  intro k
  induction k with
  | zero =>
    intro S h h1 h2 h3
    have : S = 0 := by omega
    subst this
    have no : ∀ v, ¬ inS 0 v := fun v hv => by have := hv.2; rw [Nat.zero_testBit] at this; cases this
    refine ⟨fun z => absurd rfl z, fun _ => by rw [E.1 h]; rfl, fun z => absurd ⟨fun v hv => absurd hv (no v), fun v M hv => absurd hv (no v)⟩ z⟩
  | succ k ih =>
    intro S h h1 h2 h3
    by_cases e : S ≤ k
    · exact ih S h e h2 h3
    · have h0 : S ≠ 0 := by omega
      have ihF : ∀ S' h, S' < S → ¬ inS S' h → cF t mb f h S' := fun S' h q q2 => (ih S' h (by omega) (by omega) q2).2
      have hB := fun h (hh : ¬ inS S h) => cntB H hn E h0 h2 ihF hh
      refine ⟨fun _ => hB h h3, cntF H hn E h0 h2 ihF (fun B b0 bS bh => ?_) h3⟩
      by_cases e2 : B = S
      · subst e2; exact hB h bh
      · exact (ih B h (by omega) (by omega) bh).1 b0
end CTD
