/-! the class: seek, and what it found -/
def frS (σ σ' : St) : Prop := (∀ c, c ≠ 126 → c ≠ 145 → σ'.1 c = σ.1 c) ∧ (∀ f, f ≠ 8 → f ≠ 9 → σ'.1 126 f = σ.1 126 f) ∧ (∀ c, c ≠ 144 → c ≠ 146 → σ'.2.1 c = σ.2.1 c) ∧ σ'.2.2 = σ.2.2
theorem frS.tr {a b c : St} (h : frS a b) (h2 : frS b c) : frS a c := ⟨fun k k1 k2 => (h2.1 k k1 k2).trans (h.1 k k1 k2), fun f f1 f2 => (h2.2.1 f f1 f2).trans (h.2.1 f f1 f2), fun k k1 k2 => (h2.2.2.1 k k1 k2).trans (h.2.2.1 k k1 k2), h2.2.2.2.trans h.2.2.2⟩
theorem FD_S {a b : St} (h : FD a b) : frS a b := ⟨fun c c1 c2 => h.1 c c2 c1, fun f _ f2 => h.2.1 f f2, fun c _ c2 => h.2.2.1 c c2, h.2.2.2⟩
/-- the offers stand -/
def OFS (n : Nat) (sg pj : Prop) (ch : Nat → Nat → Prop) (v : Nat → Nat → Int) (of : Nat → List Nat) (σ : St) : Prop := (1 ≤ n) ∧ (n ≤ 6) ∧ (σ.1 126 1 = nI n) ∧ (σ.1 125 0 ≠ 0 ↔ sg) ∧ (σ.1 125 1 ≠ 0 ↔ pj) ∧ (∀ w, 1 ≤ w → w ≤ n → ofW (vW v) σ w (of w) ∧ (of w).length ≤ 7 ∧ ∀ h, h ∈ of w ↔ ch h w) ∧ (∀ h w, 1 ≤ w → w ≤ n → ch h w → h ≤ n ∧ h ≠ w) ∧ (∀ h w, 1 ≤ w → w ≤ n → ch h w → -2 ^ 42 ≤ v h w ∧ v h w ≤ 2 ^ 42)
theorem OFS.n1 {n : Nat} {sg pj : Prop} {ch : Nat → Nat → Prop} {v : Nat → Nat → Int} {of : Nat → List Nat} {σ : St} (h : OFS n sg pj ch v of σ) : 1 ≤ n := h.1
theorem OFS.n6 {n : Nat} {sg pj : Prop} {ch : Nat → Nat → Prop} {v : Nat → Nat → Int} {of : Nat → List Nat} {σ : St} (h : OFS n sg pj ch v of σ) : n ≤ 6 := h.2.1
theorem OFS.sz {n : Nat} {sg pj : Prop} {ch : Nat → Nat → Prop} {v : Nat → Nat → Int} {of : Nat → List Nat} {σ : St} (h : OFS n sg pj ch v of σ) : σ.1 126 1 = nI n := h.2.2.1
theorem OFS.g1 {n : Nat} {sg pj : Prop} {ch : Nat → Nat → Prop} {v : Nat → Nat → Int} {of : Nat → List Nat} {σ : St} (h : OFS n sg pj ch v of σ) : σ.1 125 0 ≠ 0 ↔ sg := h.2.2.2.1
theorem OFS.g2 {n : Nat} {sg pj : Prop} {ch : Nat → Nat → Prop} {v : Nat → Nat → Int} {of : Nat → List Nat} {σ : St} (h : OFS n sg pj ch v of σ) : σ.1 125 1 ≠ 0 ↔ pj := h.2.2.2.2.1
theorem OFS.ow {n : Nat} {sg pj : Prop} {ch : Nat → Nat → Prop} {v : Nat → Nat → Int} {of : Nat → List Nat} {σ : St} (h : OFS n sg pj ch v of σ) : ∀ w, 1 ≤ w → w ≤ n → ofW (vW v) σ w (of w) ∧ (of w).length ≤ 7 ∧ ∀ h, h ∈ of w ↔ ch h w := h.2.2.2.2.2.1
theorem OFS.ch1 {n : Nat} {sg pj : Prop} {ch : Nat → Nat → Prop} {v : Nat → Nat → Int} {of : Nat → List Nat} {σ : St} (h : OFS n sg pj ch v of σ) : ∀ h w, 1 ≤ w → w ≤ n → ch h w → h ≤ n ∧ h ≠ w := h.2.2.2.2.2.2.1
theorem OFS.bd {n : Nat} {sg pj : Prop} {ch : Nat → Nat → Prop} {v : Nat → Nat → Int} {of : Nat → List Nat} {σ : St} (h : OFS n sg pj ch v of σ) : ∀ h w, 1 ≤ w → w ≤ n → ch h w → -2 ^ 42 ≤ v h w ∧ v h w ≤ 2 ^ 42 := h.2.2.2.2.2.2.2
theorem OFS.fr {n : Nat} {sg pj : Prop} {ch : Nat → Nat → Prop} {v : Nat → Nat → Int} {of : Nat → List Nat} {σ σ' : St} (h : OFS n sg pj ch v of σ) (hf : frS σ σ') : OFS n sg pj ch v of σ' := by
  refine ⟨h.n1, h.n6, by rw [hf.2.1 1 (by decide) (by decide)]; exact h.sz, by rw [hf.1 125 (by decide) (by decide)]; exact h.g1, by rw [hf.1 125 (by decide) (by decide)]; exact h.g2, fun w w1 w2 => ?_, h.ch1, h.bd⟩
  have hn := h.n6
  obtain ⟨⟨o1, o2, o3, o4, o5⟩, o6, o7⟩ := h.ow w w1 w2
  refine ⟨⟨by rw [hf.1 143 (by decide) (by decide)]; exact o1, fun i hi => by rw [hf.1 (136 + w) (by omega) (by omega)]; exact o2 i hi, o3, o4, fun p hp => ?_⟩, o6, o7⟩
  have := (o5 p hp).1
  rw [hf.2.2.1 (128 + p) (by omega) (by omega)]; exact o5 p hp
def admS (sg pj : Prop) (ch : Nat → Nat → Prop) (v : Nat → Nat → Int) (n : Nat) (x : Int) : Prop := ∃ l, l ∈ allT n ∧ admT sg pj ch n l ∧ x = WT v l
section SEEK
variable {n k : Nat} {sg pj : Prop} {ch : Nat → Nat → Prop} {v : Nat → Nat → Int} {of : Nat → List Nat} {σ : St}
theorem seek_C {K : St → Prop} (hk1 : 1 ≤ k) (hk6 : k ≤ 6) (h : OFS n sg pj ch v of σ) (hK : ∀ σ' L, frS σ σ' → KS σ' k L → Top k (admS sg pj ch v n) L → K σ') : P_X4_seek (nI k) σ K := by
  unfold P_X4_seek
  have hn1 := h.n1
  have hn6 := h.n6
  intro v1 e1 v2 e2 s3 e3 s4 e4
  have ev1 : v1 = nI k := by
    rw [e1]
    have : ¬ (6 : Int32) < nI k := by rw [show (6 : Int32) = nI 6 from rfl]; exact nI_nlt (by omega) (by omega)
    rw [if_neg this]
  have ev2 : v2 = nI k := by
    rw [e2, ev1]
    by_cases y : k = 1
    · subst y; rfl
    · rw [if_pos]
      rw [show (1 : Int32) = nI 1 from rfl]; exact nI_lt (by omega) (by omega)
  subst ev1 ev2
  have sz4 : s4.1 126 1 = nI n := by rw [e4, wI_ni (by omega), e3, wI_ni (by omega)]; exact h.sz
  rw [sz4, nI_1]
  refine ⟨vp_in_nI (by omega) (by decide), fun s6 e6 v7 e7 => ?_⟩
  rw [ix_nI (by omega)] at e6
  rw [show s6.1 126 1 = nI n by rw [e6, wL_1]; exact sz4] at e7
  subst e7
  have hfr6 : frS σ s6 := ⟨fun c c1 _ => by rw [e6, wL_1, e4, wI_ne c1, e3, wI_ne c1], fun f f1 f2 => by rw [e6, wL_1, e4, wI_ni f2, e3, wI_ni f1], fun c c1 _ => by rw [e6, wL_ne c1, e4, wI_2, e3, wI_2], by rw [e6, wL_22, e4, wI_2, e3, wI_2]⟩
  have h8 : s6.1 126 8 = nI k := by rw [e6, wL_1, e4, wI_ni (by omega), e3]; exact wI_self
  have h9 : s6.1 126 9 = 0 := by rw [e6, wL_1, e4]; exact wI_self
  have hall : ∀ l, l.length = n → admR sg pj ch [] l → l ∈ allT n := by
    intro l hl ha
    rw [allT_mem]
    refine ⟨hl, fun w w1 w2 => ?_⟩
    rw [admR_iff] at ha
    have := (ha w (by simp only [List.length_nil]; omega) (by rw [List.nil_append]; omega)).1
    rw [List.nil_append, List.length_take, show min (w - 1) l.length + 1 = w by omega] at this
    exact h.ch1 _ w w1 w2 this
  have hfb : ∀ w p, 1 ≤ w → w ≤ n → ch p w → -2 ^ 60 ≤ vW v p w ∧ vW v p w ≤ 2 ^ 60 := by
    intro w p w1 w2 hc
    have b := h.bd p w w1 w2 hc
    have c := h.ch1 p w w1 w2 hc
    have hpl : p * 7 ^ (6 - w) ≤ 6 * 7 ^ 5 := Nat.mul_le_mul (by omega) (Nat.pow_le_pow_right (by decide) (by omega))
    unfold vW
    omega
  refine LpE_for (S := Int32 × St) (fun i t => (nI (n - i), t)) (fun i σ' => frS s6 σ' ∧ σ'.1 = s6.1 ∧ (∀ w, n - i < w → w ≤ n → of w ≠ []) ∧ (∀ w, n - i < w → w ≤ n + 1 → (σ'.2.1 144 w).toInt = rsm (vW v) of (n + 1 - w) w ∧ -(2 ^ 60 * ((n + 1 - w : Nat) : Int)) ≤ rsm (vW v) of (n + 1 - w) w ∧ rsm (vW v) of (n + 1 - w) w ≤ 2 ^ 60 * ((n + 1 - w : Nat) : Int))) n ?_ 0 s6 (by omega) ⟨⟨fun _ _ _ => rfl, fun _ _ _ => rfl, fun _ _ _ => rfl, rfl⟩, rfl, fun w w1 w2 => by omega, fun w w1 w2 => ?_⟩
  · intro i σ' c hi ⟨f1, f2, f3, f4⟩ hc
    dsimp only
    unfold F_X4_seek_36
    have hO := (h.fr hfr6).fr f1
    rw [show (1 : Int32) = nI 1 from rfl, nI_ltI (by omega) (by omega)]
    refine ⟨fun y => ?_, fun y => ⟨vp_in_nI (by omega) (by decide), ?_⟩⟩
    · have hin : i = n := by omega
      subst hin
      have hSS : SS i k sg pj ch (vW v) of σ' := by
        refine ⟨hn1, hn6, hk1, hk6, hO.sz, by rw [f2]; exact h8, hO.g1, hO.g2, fun w w1 w2 => ?_, fun w p w1 w2 hc => ((hO.ow w w1 w2).2.2 p).mpr hc, h.ch1, fun w p w1 w2 hp => ((hO.ow w w1 w2).1.2.2.2.2 p hp).2, fun w w1 w2 => (f4 w (by omega) w2).1, fun w p w1 w2 hp => hfb w p w1 w2 (((hO.ow w w1 w2).2.2 p).mp hp)⟩
        obtain ⟨⟨o1, o2, o3, o4, o5⟩, o6, o7⟩ := hO.ow w w1 w2
        exact ⟨o1, o6, o2, o3, fun p hp => (o7 p).mp hp, o4⟩
      have := descend_C (n := i) (k := k) (sg := sg) (pj := pj) (ch := ch) (f := vW v) (of := of) (fun w w1 w2 => f3 w (by omega) w2) i 8 [] 0 0 σ' [] (fun _ => False) (fun s8 => K s8) (by simp) (by omega) hSS (fun u u1 u2 => by simp only [List.length_nil] at u2; omega) trivial rfl ⟨fun q => absurd rfl q, fun q => by cases q⟩ ⟨Nat.zero_le _, by rw [f2]; exact h9, fun z hz => absurd hz (Nat.not_lt_zero _)⟩ (Top.nil (fun x ⟨l, hl, _⟩ => hl)) (fun l hl => hl.elim) (fun l hl => hl.elim) (fun l l' hl hl' ha ha' e => WT_inj hn6 (hall l hl ha) (hall l' hl' ha') e) (fun hm => by omega) (fun σ2 L2 r1 r2 r3 r4 => hK σ2 L2 ((hfr6.tr f1).tr (FD_S r1)) r3 (r4.congr (fun x => ?_)))
      · exact this
      · constructor
        · rintro ⟨l, hl | ⟨r, q1, q2, q3⟩, e⟩
          · exact hl.elim
          · rw [List.nil_append] at q1
            subst q1
            have hm := hall l q2 q3
            exact ⟨l, hm, (adm_iff hm).mp q3, e⟩
        · rintro ⟨l, q1, q2, e⟩
          exact ⟨l, Or.inr ⟨l, rfl, (allT_mem.mp q1).1, (adm_iff q1).mpr q2⟩, e⟩
    · obtain ⟨⟨o1, o2, o3, o4, o5⟩, o6, o7⟩ := hO.ow (n - i) (by omega) (by omega)
      rw [ix_nI (by omega), o1, show (0 : Int32) = nI 0 from rfl, nI_eq (by omega) (by omega)]
      refine ⟨fun y2 => ?_, fun y2 => ?_⟩
      · refine hK σ' [] (hfr6.tr f1) ⟨Nat.zero_le _, by rw [f2]; exact h9, fun z hz => absurd hz (Nat.not_lt_zero _)⟩ (Top.nil (fun x ⟨l, q1, q2, e⟩ => ?_))
        have := (o7 _).mpr (q2.1 (n - i) (by omega) (by omega))
        rw [List.eq_nil_of_length_eq_zero y2] at this
        cases this
      · have hne : of (n - i) ≠ [] := fun q => y2 (by rw [q]; rfl)
        have hd : ∃ p l, of (n - i) = p :: l := by
          cases ho : of (n - i) with
          | nil => exact absurd ho hne
          | cons p l => exact ⟨p, l, rfl⟩
        obtain ⟨p, l, hpl⟩ := hd
        have hpm : p ∈ of (n - i) := by rw [hpl]; exact List.mem_cons_self
        have hp6 := o5 p hpm
        have hf0 : σ'.1 (136 + (n - i)) 0 = nI p := by
          have := o2 0 (by rw [hpl]; simp)
          simp only [hpl, List.getElem_cons_zero] at this
          exact this
        rw [show ix (nI 0) = 0 from ix_nI (by decide), show 135 + 1 + (n - i) = 136 + (n - i) by omega, hf0, nI_add, ix_nI (by omega), ix_nI (by omega), show 127 + 1 + p = 128 + p by omega]
        refine ⟨vp_in_nI (by omega) (by decide), vp_in_nI (by omega) (by decide), vp_in_nI (by omega) (by decide), vp_in_nI (by omega) (by decide), vp_in_nI (by omega) (by decide), fun s15 e15 v16 e16 => ?_⟩
        have hnext := f4 (n - i + 1) (by omega) (by omega)
        have hbp := hfb (n - i) p (by omega) (by omega) ((o7 p).mp hpm)
        have hsum : (σ'.2.1 144 (n - i + 1) + σ'.2.1 (128 + p) (n - i)).toInt = rsm (vW v) of (n + 1 - (n - i)) (n - i) := by
          rw [I64_add, hnext.1, hp6.2, show n + 1 - (n - i) = (n + 1 - (n - i + 1)) + 1 by omega, rsm, hpl]
          · show _ = vW v p (n - i) + _; omega
          · rw [hnext.1, hp6.2]; omega
          · rw [hnext.1, hp6.2]; omega
        have ev : v16 = nI (n - (i + 1)) := by
          rw [e16, ← Int32.sub_eq_add_neg, show nI (n - i) - nI 1 = nI (n - i - 1) from pk_sub (b := 1) (by omega)]
          congr 1
        rw [ev]
        refine hc s15 (by omega) ⟨f1.tr ⟨fun c _ _ => by rw [e15, wL_1], fun f _ _ => by rw [e15, wL_1], fun c c1 _ => by rw [e15, wL_ne c1], by rw [e15, wL_22]⟩, by rw [e15, wL_1]; exact f2, fun w w1 w2 => ?_, fun w w1 w2 => ?_⟩
        · by_cases e : w = n - i
          · rw [e]; exact hne
          · exact f3 w (by omega) w2
        · rw [e15]
          show (if 144 = 144 ∧ w = n - i then _ else σ'.2.1 144 w).toInt = _ ∧ _
          by_cases e : w = n - i
          · subst e
            rw [if_pos ⟨rfl, rfl⟩]
            refine ⟨hsum, ?_⟩
            rw [show n + 1 - (n - i) = (n + 1 - (n - i + 1)) + 1 by omega, rsm, hpl, Int.natCast_add]
            show -(2 ^ 60 * (((n + 1 - (n - i + 1) : Nat) : Int) + ((1 : Nat) : Int))) ≤ vW v p (n - i) + _ ∧ vW v p (n - i) + _ ≤ _
            omega
          · rw [if_neg (fun q => e q.2)]; exact f4 w (by omega) w2
  · have : w = n + 1 := by omega
    subst this
    rw [Nat.sub_self, e6, wL_at, if_pos ⟨rfl, rfl⟩]
    exact ⟨rfl, by simp [rsm]⟩
end SEEK
