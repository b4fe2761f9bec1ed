/-! the class's search: descend -/
def rsm (f : Nat → Nat → Int) (of : Nat → List Nat) : Nat → Nat → Int
  | 0, _ => 0
  | m + 1, w => f ((of w).headD 0) w + rsm f of m (w + 1)
/-- what lies still while it searches -/
def SS (n k : Nat) (sg pj : Prop) (ch : Nat → Nat → Prop) (f : Nat → Nat → Int) (of : Nat → List Nat) (σ : St) : Prop := (1 ≤ n) ∧ (n ≤ 6) ∧ (1 ≤ k) ∧ (k ≤ 6) ∧ (σ.1 126 1 = nI n) ∧ (σ.1 126 8 = nI k) ∧ (σ.1 125 0 ≠ 0 ↔ sg) ∧ (σ.1 125 1 ≠ 0 ↔ pj) ∧ (∀ w, 1 ≤ w → w ≤ n → σ.1 143 w = nI (of w).length ∧ (of w).length ≤ 7 ∧ (∀ i, (hi : i < (of w).length) → σ.1 (136 + w) i = nI (of w)[i]) ∧ (of w).Nodup ∧ (∀ h, h ∈ of w → ch h w) ∧ (of w).Pairwise (fun a b => f b w ≤ f a w)) ∧ (∀ w h, 1 ≤ w → w ≤ n → ch h w → h ∈ of w) ∧ (∀ h w, 1 ≤ w → w ≤ n → ch h w → h ≤ n ∧ h ≠ w) ∧ (∀ w h, 1 ≤ w → w ≤ n → h ∈ of w → (σ.2.1 (128 + h) w).toInt = f h w) ∧ (∀ w, 2 ≤ w → w ≤ n + 1 → (σ.2.1 144 w).toInt = rsm f of (n + 1 - w) w) ∧ (∀ w h, 1 ≤ w → w ≤ n → h ∈ of w → -2 ^ 60 ≤ f h w ∧ f h w ≤ 2 ^ 60)
theorem SS.n1 {n k : Nat} {sg pj : Prop} {ch : Nat → Nat → Prop} {f : Nat → Nat → Int} {of : Nat → List Nat} {σ : St} (h : SS n k sg pj ch f of σ) : 1 ≤ n := h.1
theorem SS.n6 {n k : Nat} {sg pj : Prop} {ch : Nat → Nat → Prop} {f : Nat → Nat → Int} {of : Nat → List Nat} {σ : St} (h : SS n k sg pj ch f of σ) : n ≤ 6 := h.2.1
theorem SS.k1 {n k : Nat} {sg pj : Prop} {ch : Nat → Nat → Prop} {f : Nat → Nat → Int} {of : Nat → List Nat} {σ : St} (h : SS n k sg pj ch f of σ) : 1 ≤ k := h.2.2.1
theorem SS.k6 {n k : Nat} {sg pj : Prop} {ch : Nat → Nat → Prop} {f : Nat → Nat → Int} {of : Nat → List Nat} {σ : St} (h : SS n k sg pj ch f of σ) : k ≤ 6 := h.2.2.2.1
theorem SS.sz {n k : Nat} {sg pj : Prop} {ch : Nat → Nat → Prop} {f : Nat → Nat → Int} {of : Nat → List Nat} {σ : St} (h : SS n k sg pj ch f of σ) : σ.1 126 1 = nI n := h.2.2.2.2.1
theorem SS.wt {n k : Nat} {sg pj : Prop} {ch : Nat → Nat → Prop} {f : Nat → Nat → Int} {of : Nat → List Nat} {σ : St} (h : SS n k sg pj ch f of σ) : σ.1 126 8 = nI k := h.2.2.2.2.2.1
theorem SS.g1 {n k : Nat} {sg pj : Prop} {ch : Nat → Nat → Prop} {f : Nat → Nat → Int} {of : Nat → List Nat} {σ : St} (h : SS n k sg pj ch f of σ) : σ.1 125 0 ≠ 0 ↔ sg := h.2.2.2.2.2.2.1
theorem SS.g2 {n k : Nat} {sg pj : Prop} {ch : Nat → Nat → Prop} {f : Nat → Nat → Int} {of : Nat → List Nat} {σ : St} (h : SS n k sg pj ch f of σ) : σ.1 125 1 ≠ 0 ↔ pj := h.2.2.2.2.2.2.2.1
theorem SS.of1 {n k : Nat} {sg pj : Prop} {ch : Nat → Nat → Prop} {f : Nat → Nat → Int} {of : Nat → List Nat} {σ : St} (h : SS n k sg pj ch f of σ) : ∀ w, 1 ≤ w → w ≤ n → σ.1 143 w = nI (of w).length ∧ (of w).length ≤ 7 ∧ (∀ i, (hi : i < (of w).length) → σ.1 (136 + w) i = nI (of w)[i]) ∧ (of w).Nodup ∧ (∀ h, h ∈ of w → ch h w) ∧ (of w).Pairwise (fun a b => f b w ≤ f a w) := h.2.2.2.2.2.2.2.2.1
theorem SS.of2 {n k : Nat} {sg pj : Prop} {ch : Nat → Nat → Prop} {f : Nat → Nat → Int} {of : Nat → List Nat} {σ : St} (h : SS n k sg pj ch f of σ) : ∀ w h, 1 ≤ w → w ≤ n → ch h w → h ∈ of w := h.2.2.2.2.2.2.2.2.2.1
theorem SS.ch1 {n k : Nat} {sg pj : Prop} {ch : Nat → Nat → Prop} {f : Nat → Nat → Int} {of : Nat → List Nat} {σ : St} (h : SS n k sg pj ch f of σ) : ∀ h w, 1 ≤ w → w ≤ n → ch h w → h ≤ n ∧ h ≠ w := h.2.2.2.2.2.2.2.2.2.2.1
theorem SS.vl {n k : Nat} {sg pj : Prop} {ch : Nat → Nat → Prop} {f : Nat → Nat → Int} {of : Nat → List Nat} {σ : St} (h : SS n k sg pj ch f of σ) : ∀ w h, 1 ≤ w → w ≤ n → h ∈ of w → (σ.2.1 (128 + h) w).toInt = f h w := h.2.2.2.2.2.2.2.2.2.2.2.1
theorem SS.rs {n k : Nat} {sg pj : Prop} {ch : Nat → Nat → Prop} {f : Nat → Nat → Int} {of : Nat → List Nat} {σ : St} (h : SS n k sg pj ch f of σ) : ∀ w, 2 ≤ w → w ≤ n + 1 → (σ.2.1 144 w).toInt = rsm f of (n + 1 - w) w := h.2.2.2.2.2.2.2.2.2.2.2.2.1
theorem SS.bd {n k : Nat} {sg pj : Prop} {ch : Nat → Nat → Prop} {f : Nat → Nat → Int} {of : Nat → List Nat} {σ : St} (h : SS n k sg pj ch f of σ) : ∀ w h, 1 ≤ w → w ≤ n → h ∈ of w → -2 ^ 60 ≤ f h w ∧ f h w ≤ 2 ^ 60 := h.2.2.2.2.2.2.2.2.2.2.2.2.2
theorem SS.fr {n k : Nat} {sg pj : Prop} {ch : Nat → Nat → Prop} {f : Nat → Nat → Int} {of : Nat → List Nat} {σ σ' : St} (h : SS n k sg pj ch f of σ) (hf : FD σ σ') : SS n k sg pj ch f of σ' := by
  obtain ⟨a1, a2, a3, a4⟩ := hf
  refine ⟨h.n1, h.n6, h.k1, h.k6, by rw [a2 1 (by decide)]; exact h.sz, by rw [a2 8 (by decide)]; exact h.wt, by rw [a1 125 (by decide) (by decide)]; exact h.g1, by rw [a1 125 (by decide) (by decide)]; exact h.g2, fun w w1 w2 => ?_, h.of2, h.ch1, fun w p w1 w2 hp => ?_, fun w w1 w2 => by rw [a3 144 (by decide)]; exact h.rs w w1 w2, h.bd⟩
  · have hn := h.n6
    rw [a1 143 (by decide) (by decide), a1 (136 + w) (by omega) (by omega)]; exact h.of1 w w1 w2
  · have hn := h.n6
    have := h.ch1 p w w1 w2 ((h.of1 w w1 w2).2.2.2.2.1 p hp)
    rw [a3 (128 + p) (by omega)]; exact h.vl w p w1 w2 hp
section DSC
variable {n k : Nat} {sg pj : Prop} {ch : Nat → Nat → Prop} {f : Nat → Nat → Int} {of : Nat → List Nat}
theorem of_head {σ : St} (h : SS n k sg pj ch f of σ) {w a : Nat} (w1 : 1 ≤ w) (w2 : w ≤ n) (ha : a ∈ of w) : f a w ≤ f ((of w).headD 0) w := by
  have hp := (h.of1 w w1 w2).2.2.2.2.2
  cases ho : of w with
  | nil => rw [ho] at ha; cases ha
  | cons b l =>
    rw [ho] at hp ha
    rcases List.mem_cons.mp ha with z | z
    · rw [z]; exact Int.le_refl _
    · exact (List.pairwise_cons.mp hp).1 a z
/-- the bound -/
theorem tot_le {σ : St} (h : SS n k sg pj ch f of σ) : ∀ (r : List Nat) (p : List Nat), admR sg pj ch p r → p.length + r.length ≤ n → tot f (p.length + 1) r ≤ rsm f of r.length (p.length + 1)
  | [], p, _, _ => Int.le_refl _
  | a :: r, p, hr, hl => by
    rw [List.length_cons] at hl
    rw [admR] at hr
    have h1 := tot_le h r (p ++ [a]) hr.2 (by rw [List.length_append]; simp only [List.length_cons, List.length_nil]; omega)
    rw [List.length_append] at h1
    rw [tot, List.length_cons, rsm]
    have h2 := of_head h (w := p.length + 1) (by omega) (by omega) (h.of2 _ a (by omega) (by omega) hr.1.1)
    have h1' : tot f (p.length + 1 + 1) r ≤ rsm f of r.length (p.length + 1 + 1) := h1
    omega
theorem tot_bd {σ : St} (h : SS n k sg pj ch f of σ) : ∀ (r : List Nat) (p : List Nat), admR sg pj ch p r → p.length + r.length ≤ n → -(2 ^ 60 * (r.length : Int)) ≤ tot f (p.length + 1) r ∧ tot f (p.length + 1) r ≤ 2 ^ 60 * (r.length : Int)
  | [], p, _, _ => by simp [tot]
  | a :: r, p, hr, hl => by
    rw [List.length_cons] at hl
    rw [admR] at hr
    have h1 := tot_bd h r (p ++ [a]) hr.2 (by rw [List.length_append]; simp only [List.length_cons, List.length_nil]; omega)
    rw [List.length_append] at h1
    have h1' : -(2 ^ 60 * (r.length : Int)) ≤ tot f (p.length + 1 + 1) r ∧ tot f (p.length + 1 + 1) r ≤ 2 ^ 60 * (r.length : Int) := h1
    have h2 := h.bd (p.length + 1) a (by omega) (by omega) (h.of2 _ a (by omega) (by omega) hr.1.1)
    rw [tot, List.length_cons, Int.natCast_add]
    omega
theorem rsm_bd {σ : St} (h : SS n k sg pj ch f of σ) (hne : ∀ w, 1 ≤ w → w ≤ n → of w ≠ []) : ∀ (m w : Nat), 1 ≤ w → w + m = n + 1 → -(2 ^ 60 * (m : Int)) ≤ rsm f of m w ∧ rsm f of m w ≤ 2 ^ 60 * (m : Int)
  | 0, w, _, _ => by simp [rsm]
  | m + 1, w, w1, hw => by
    have h1 := rsm_bd h hne m (w + 1) (by omega) (by omega)
    have hm : (of w).headD 0 ∈ of w := by
      cases ho : of w with
      | nil => exact absurd ho (hne w w1 (by omega))
      | cons b l => exact List.mem_cons_self
    have h2 := h.bd w _ w1 (by omega) hm
    rw [rsm, Int.natCast_add]
    omega
/-- what was seen: complete lists -/
def seen (sg pj : Prop) (ch : Nat → Nat → Prop) (m : Nat) (p : List Nat) (V : List Nat → Prop) (l : List Nat) : Prop := V l ∨ ∃ r, l = p ++ r ∧ r.length = m ∧ admR sg pj ch p r
theorem admR_app : ∀ (a b p : List Nat), admR sg pj ch p (a ++ b) ↔ admR sg pj ch p a ∧ admR sg pj ch (p ++ a) b
  | [], b, p => by simp [admR]
  | h :: a, b, p => by
    rw [List.cons_append, admR, admR, admR_app a b (p ++ [h])]
    have : p ++ [h] ++ a = p ++ h :: a := by simp
    rw [this]
    exact ⟨fun ⟨x, y, z⟩ => ⟨⟨x, y⟩, z⟩, fun ⟨⟨x, y⟩, z⟩ => ⟨x, y, z⟩⟩
theorem adm_all {σ : St} (h : SS n k sg pj ch f of σ) {l : List Nat} (hl : l.length = n) (ha : admR sg pj ch [] l) : l ∈ allT n := by
  rw [allT_mem]
  refine ⟨hl, fun w w1 w2 => ?_⟩
  rw [admR_iff] at ha
  have := (ha w (by simp only [List.length_nil]; omega) (by rw [List.nil_append]; omega)).1
  rw [List.nil_append, List.length_take, show min (w - 1) l.length + 1 = w by omega] at this
  exact h.ch1 _ w w1 w2 this
theorem descend_C (hne : ∀ w, 1 ≤ w → w ≤ n → of w ≠ []) : ∀ (m fu : Nat) (p : List Nat) (vI : Int64) (rI : Int32) (σ : St) (L : List Int) (V : List Nat → Prop) (K : St → Prop), p.length + m = n → m < fu → SS n k sg pj ch f of σ → (∀ u, 1 ≤ u → u ≤ p.length → σ.1 145 u = nI (hL p u)) → admR sg pj ch [] p → vI.toInt = tot f 1 p → (rI ≠ 0 ↔ 0 ∈ p) → KS σ k L → Top k (fun x => ∃ l, V l ∧ x = tot f 1 l) L → (∀ l, V l → l.length = n ∧ admR sg pj ch [] l) → (∀ l, V l → ¬ p <+: l) → (∀ l l', l.length = n → l'.length = n → admR sg pj ch [] l → admR sg pj ch [] l' → tot f 1 l = tot f 1 l' → l = l') → (m = 0 → L.length = k → ∃ b, b ∈ L ∧ b < tot f 1 p) → (∀ σ' L', FD σ σ' → (∀ u, u ≤ p.length → σ'.1 145 u = σ.1 145 u) → KS σ' k L' → Top k (fun x => ∃ l, seen sg pj ch m p V l ∧ x = tot f 1 l) L' → K σ') → P_X4_descend fu (nI (p.length + 1)) vI rI σ K := by
  intro m
  induction m with
  | zero =>
    intro fu p vI rI σ L V K hpm hfu hS hp hadm hv hr hKS hTop hVn hV hinj hlast hK
    obtain ⟨fu, rfl⟩ : ∃ g, fu = g + 1 := ⟨fu - 1, by omega⟩
    rw [P_X4_descend, B_X4_descend, hS.sz, nI_leI (by have := hS.n6; omega) (by have := hS.n6; omega)]
    refine ⟨fun z => by omega, fun _ => ?_⟩
    -- split the list at the value
    have hnot : vI.toInt ∉ L := by
      intro z
      obtain ⟨l, hl, e⟩ := hTop.2.2.1 _ z
      rw [hv] at e
      have := hinj p l (by omega) (hVn l hl).1 hadm (hVn l hl).2 e
      subst this
      exact hV p hl (List.prefix_refl _)
    have hspl : ∀ L : List Int, L.Pairwise (· > ·) → vI.toInt ∉ L → ∃ A B, L = A ++ B ∧ (∀ a, a ∈ A → vI.toInt < a) ∧ ∀ b, b ∈ B → b < vI.toInt := by
      intro L
      induction L with
      | nil => intro _ _; exact ⟨[], [], rfl, fun a ha => (by cases ha), fun a ha => (by cases ha)⟩
      | cons a L ih =>
        intro hpw hn
        obtain ⟨q1, q2⟩ := List.pairwise_cons.mp hpw
        by_cases z : vI.toInt < a
        · obtain ⟨A, B, e, hA, hB⟩ := ih q2 (fun y => hn (List.mem_cons_of_mem _ y))
          refine ⟨a :: A, B, by rw [e]; rfl, fun b hb => ?_, hB⟩
          rcases List.mem_cons.mp hb with y | y
          · rw [y]; exact z
          · exact hA b y
        · have hne2 : vI.toInt ≠ a := fun y => hn (by rw [y]; exact List.mem_cons_self)
          refine ⟨[], a :: L, rfl, fun b hb => (by cases hb), fun b hb => ?_⟩
          rcases List.mem_cons.mp hb with y | y
          · omega
          · have := q1 b y; omega
    obtain ⟨A, B, rfl, hA, hB⟩ := hspl L hTop.2.1 hnot
    have hfull : (A ++ B).length = k → B ≠ [] := by
      intro e hB0
      obtain ⟨b, hb, hlt⟩ := hlast rfl e
      subst hB0
      rw [List.append_nil] at hb
      have := hA b hb
      rw [hv] at this
      omega
    refine keep_C hS.k1 hS.k6 hS.wt hKS hA hB hfull (fun σ' h1 h2 h3 => hK σ' _ h1 (fun u hu => by rw [h2]) h3 ?_)
    refine (Top.ins hS.k1 hTop hA hB hfull).congr (fun x => ?_)
    constructor
    · rintro (⟨l, hl, e⟩ | e)
      · exact ⟨l, Or.inl hl, e⟩
      · exact ⟨p, Or.inr ⟨[], by simp, rfl, trivial⟩, by rw [e, hv]⟩
    · rintro ⟨l, hl | ⟨r, e1, e2, e3⟩, e⟩
      · exact Or.inl ⟨l, hl, e⟩
      · have : r = [] := List.eq_nil_of_length_eq_zero e2
        subst this
        rw [List.append_nil] at e1
        subst e1
        exact Or.inr (by rw [e, hv])
  | succ m ih =>
    intro fu p vI rI σ L V K hpm hfu hS hp hadm hv hr hKS hTop hVn hV hinj hlast hK
    obtain ⟨fu, rfl⟩ : ∃ g, fu = g + 1 := ⟨fu - 1, by omega⟩
    have hn6 := hS.n6
    have hk6 := hS.k6
    rw [P_X4_descend, B_X4_descend, hS.sz, nI_leI (by omega) (by omega)]
    refine ⟨fun _ => ?_, fun z => by omega⟩
    obtain ⟨o1, o2, o3, o4, o5, o6⟩ := hS.of1 (p.length + 1) (by omega) (by omega)
    have htp := tot_bd hS p [] hadm (by simp only [List.length_nil]; omega)
    simp only [List.length_nil, Nat.zero_add] at htp
    have hple : ∀ u, 1 ≤ u → u < p.length + 1 → hL p u ≤ 6 := by
      intro u u1 u2
      rw [admR_iff] at hadm
      have := (hadm u (by simp only [List.length_nil]; omega) (by rw [List.nil_append]; omega)).1
      rw [List.nil_append, List.length_take, show min (u - 1) p.length + 1 = u by omega] at this
      have := hS.ch1 _ u u1 (by omega) this
      omega
    -- what was seen when i of the offers are done
    let VI := fun (i : Nat) (l : List Nat) => V l ∨ ∃ i', ∃ hi' : i' < (of (p.length + 1)).length, i' < i ∧ ∃ r, l = p ++ (of (p.length + 1))[i'] :: r ∧ r.length = m ∧ admR sg pj ch p ((of (p.length + 1))[i'] :: r)
    refine LpE_for1 (fun i σ2 => FD σ σ2 ∧ (∀ u, u ≤ p.length → σ2.1 145 u = σ.1 145 u) ∧ ∃ L2, KS σ2 k L2 ∧ Top k (fun x => ∃ l, VI i l ∧ x = tot f 1 l) L2) (of (p.length + 1)).length ?_ 0 σ (by omega) ⟨FD.rf, fun _ _ => rfl, L, hKS, hTop.congr (fun x => ⟨fun ⟨l, hl, e⟩ => ⟨l, Or.inl hl, e⟩, fun ⟨l, hl, e⟩ => ⟨l, hl.elim id (fun ⟨i', _, h, _⟩ => absurd h (Nat.not_lt_zero _)), e⟩⟩)⟩
    intro i σ2 c hi ⟨hFD, h145, L2, hKS2, hTop2⟩ hc
    dsimp only
    unfold F_X4_descend_17
    have hS2 := hS.fr hFD
    obtain ⟨q1, q2, q3, -, -, -⟩ := hS2.of1 (p.length + 1) (by omega) (by omega)
    rw [ix_nI (by omega), q1, nI_leI (by omega) (by omega)]
    refine ⟨vp_in_nI (by omega) (by decide), fun z => ?_, fun z => ?_⟩
    · refine hK σ2 L2 hFD h145 hKS2 (hTop2.congr (fun x => ?_))
      constructor
      · rintro ⟨l, hl | ⟨i', hi', _, r, e1, e2, e3⟩, e⟩
        · exact ⟨l, Or.inl hl, e⟩
        · exact ⟨l, Or.inr ⟨_, e1, by rw [List.length_cons, e2], e3⟩, e⟩
      · rintro ⟨l, hl | ⟨r, e1, e2, e3⟩, e⟩
        · exact ⟨l, Or.inl hl, e⟩
        · cases r with
          | nil => cases e2
          | cons a r =>
            rw [List.length_cons] at e2
            have ham := hS.of2 (p.length + 1) a (by omega) (by omega) e3.1.1
            obtain ⟨i', hi', ea⟩ := List.mem_iff_getElem.mp ham
            subst ea
            exact ⟨l, Or.inr ⟨i', hi', by omega, r, e1, by omega, e3⟩, e⟩
    · have hil : i < (of (p.length + 1)).length := by omega
      generalize hgh : (of (p.length + 1))[i] = h at *
      have hhm : h ∈ of (p.length + 1) := by rw [← hgh]; exact List.getElem_mem hil
      have hch := hS.ch1 h (p.length + 1) (by omega) (by omega) (o5 h hhm)
      refine ⟨vp_in_nI (by omega) (by decide), vp_in_nI (by omega) (by decide), fun v4 e4 => ?_⟩
      rw [show 135 + 1 + (p.length + 1) = 136 + (p.length + 1) by omega, ix_nI (by omega), q3 i hil, hgh] at e4
      subst e4
      refine ⟨vp_in_nI (by omega) (by decide), vp_in_nI (by omega) (by decide), fun v7 e7 => ?_⟩
      rw [ix_nI (by omega)] at e7
      have hval := hS2.vl (p.length + 1) h (by omega) (by omega) hhm
      have hbdh := hS.bd (p.length + 1) h (by omega) (by omega) hhm
      have hv7 : v7.toInt = tot f 1 p + f h (p.length + 1) := by
        rw [e7, I64_add, hv, show 127 + 1 + h = 128 + h by omega, hval]
        · rw [hv, show 127 + 1 + h = 128 + h by omega, hval]; omega
        · rw [hv, show 127 + 1 + h = 128 + h by omega, hval]; omega
      have htot : ∀ a r, tot f 1 (p ++ a :: r) = tot f 1 p + f a (p.length + 1) + tot f (p.length + 1 + 1) r := by
        intro a r
        rw [tot_app, tot, Nat.add_comm 1 p.length]
        omega
      have hrs := rsm_bd hS hne m (p.length + 1 + 1) (by omega) (by omega)
      -- the step that goes on with the next offer
      have hskip : ∀ (hno : ¬ okL sg pj ch p h), c (nI (i + 1), σ2) := by
        intro hno
        refine hc σ2 (by omega) ⟨hFD, h145, L2, hKS2, hTop2.congr (fun x => ?_)⟩
        constructor
        · rintro ⟨l, hl | ⟨i', hi', hlt, r, e1, e2, e3⟩, e⟩
          · exact ⟨l, Or.inl hl, e⟩
          · exact ⟨l, Or.inr ⟨i', hi', by omega, r, e1, e2, e3⟩, e⟩
        · rintro ⟨l, hl | ⟨i', hi', hlt, r, e1, e2, e3⟩, e⟩
          · exact ⟨l, Or.inl hl, e⟩
          · by_cases y : i' = i
            · subst y
              rw [hgh] at e3
              exact absurd e3.1 hno
            · exact ⟨l, Or.inr ⟨i', hi', by omega, r, e1, e2, e3⟩, e⟩
      -- the step that goes down
      have hdown : okL sg pj ch p h → (m = 0 → L2.length = k → ∃ b, b ∈ L2 ∧ b < v7.toInt) → J_X4_descend_152 (P_X4_descend fu) K c (nI (p.length + 1)) vI rI (nI i) (nI h) v7 σ2 := by
        intro hok hlt
        unfold J_X4_descend_152
        rw [ix_nI (by omega)]
        refine ⟨vp_in_nI (by omega) (by decide), fun s13 e13 => ?_⟩
        have hF13 : FD σ2 s13 := ⟨fun c c1 _ => by rw [e13, wI_ne c1], fun f _ => by rw [e13, wI_ne (by omega)], fun c _ => by rw [e13, wI_2], by rw [e13, wI_2]⟩
        have hlen1 : (p ++ [h]).length = p.length + 1 := by rw [List.length_append]; rfl
        have hsub : ∀ r', (r' ≠ 0 ↔ 0 ∈ p ++ [h]) → J_X4_descend_181 (P_X4_descend fu) K c (nI (p.length + 1)) vI rI (nI i) (nI (p.length + 1) + 1) v7 r' s13 := by
          intro r' hr'
          unfold J_X4_descend_181
          rw [nI_1, ← hlen1]
          refine ih fu (p ++ [h]) v7 r' s13 L2 (VI i) _ (by omega) (by omega) (hS2.fr hF13) (fun u u1 u2 => ?_) ?_ ?_ hr' ⟨hKS2.1, by rw [e13, wI_ne (by omega)]; exact hKS2.2.1, fun y hy => by rw [e13, wI_2]; exact hKS2.2.2 y hy⟩ hTop2 ?_ ?_ hinj (fun hm0 hk0 => by obtain ⟨b, hb1, hb2⟩ := hlt hm0 hk0; exact ⟨b, hb1, by rw [htot, tot]; omega⟩) (fun σ3 L3 r1 r2 r3 r4 v15 e15 => ?_)
          · rw [e13]
            rw [hlen1] at u2
            by_cases y : u = p.length + 1
            · rw [y, wI_self, hL_mid (r := [])]
            · rw [wI_ni y, hL_app (by omega), h145 u (by omega)]; exact hp u u1 (by omega)
          · rw [admR_app]; exact ⟨hadm, by rw [List.nil_append]; exact ⟨hok, trivial⟩⟩
          · rw [htot, tot]; omega
          · rintro l (hl | ⟨i', hi', hlt', r, e1, e2, e3⟩)
            · exact hVn l hl
            · refine ⟨by rw [e1, List.length_append, List.length_cons]; omega, ?_⟩
              rw [e1, admR_app]
              exact ⟨hadm, by rw [List.nil_append]; exact e3⟩
          · rintro l (hl | ⟨i', hi', hlt', r, e1, e2, e3⟩) hpre
            · exact hV l hl ((List.prefix_append p [h]).trans hpre)
            · rw [e1] at hpre
              have hpre2 : [h] <+: (of (p.length + 1))[i'] :: r := (List.prefix_append_right_inj p).mp hpre
              have := (List.cons_prefix_cons.mp hpre2).1
              rw [← hgh] at this
              have := (List.getElem_inj o4).mp this
              omega
          · rw [nI_1] at e15
            rw [e15]
            refine hc σ3 (by omega) ⟨hFD.tr (hF13.tr r1), fun u hu => ?_, L3, r3, r4.congr (fun x => ?_)⟩
            · rw [r2 u (by omega), e13, wI_ni (by omega)]; exact h145 u hu
            · constructor
              · rintro ⟨l, (hl | ⟨i', hi', hlt', r, e1, e2, e3⟩) | ⟨r, e1, e2, e3⟩, e⟩
                · exact ⟨l, Or.inl hl, e⟩
                · exact ⟨l, Or.inr ⟨i', hi', by omega, r, e1, e2, e3⟩, e⟩
                · exact ⟨l, Or.inr ⟨i, hil, by omega, r, by rw [e1, hgh]; simp, e2, by rw [hgh]; exact ⟨hok, e3⟩⟩, e⟩
              · rintro ⟨l, hl | ⟨i', hi', hlt', r, e1, e2, e3⟩, e⟩
                · exact ⟨l, Or.inl (Or.inl hl), e⟩
                · by_cases y : i' = i
                  · subst y
                    rw [hgh] at e1 e3
                    exact ⟨l, Or.inr ⟨r, by rw [e1]; simp, e2, e3.2⟩, e⟩
                  · exact ⟨l, Or.inl (Or.inr ⟨i', hi', by omega, r, e1, e2, e3⟩), e⟩
        have h176 : (rI ≠ 0 ∨ h = 0) → J_X4_descend_176 (P_X4_descend fu) K c (nI (p.length + 1)) vI rI (nI i) (nI (p.length + 1) + 1) v7 s13 := by
          intro hz
          unfold J_X4_descend_176
          refine hsub 1 ⟨fun _ => ?_, fun _ => by decide⟩
          rcases hz with hz | hz
          · exact List.mem_append_left _ (hr.mp hz)
          · rw [hz]; exact List.mem_append_right _ List.mem_cons_self
        refine ⟨fun y => ?_, fun y => h176 (Or.inl y)⟩
        rw [show (0 : Int32) = nI 0 from rfl, nI_eq (by omega) (by omega)]
        refine ⟨fun y2 => h176 (Or.inr y2), fun y2 => hsub _ ⟨fun y3 => absurd rfl y3, fun y3 => ?_⟩⟩
        rcases List.mem_append.mp y3 with y4 | y4
        · exact absurd y (hr.mpr y4)
        · exact absurd (List.mem_singleton.mp y4).symm y2
      -- the tests
      have h115 : (¬ (h = 0 ∧ 0 ∈ p ∧ sg)) → (m = 0 → L2.length = k → ∃ b, b ∈ L2 ∧ b < v7.toInt) → J_X4_descend_114 (P_X4_descend fu) K c (nI (p.length + 1)) vI rI (nI i) (nI h) v7 σ2 := by
        intro hroot hlt
        unfold J_X4_descend_114 J_X4_descend_115
        refine ⟨fun _ => ?_, fun y => absurd rfl y⟩
        have hpp : ∀ u, 1 ≤ u → u < p.length + 1 → σ2.1 145 u = nI (hL p u) ∧ hL p u ≤ 6 := fun u u1 u2 => ⟨by rw [h145 u (by omega)]; exact hp u u1 (by omega), hple u u1 u2⟩
        refine closes_C rfl (by omega) hpp (by omega) (fun hcl => ⟨fun y => absurd y (by decide), fun _ v11 e11 => ?_⟩) (fun hcl => ⟨fun _ => ?_, fun y => absurd rfl y⟩)
        · rw [nI_1] at e11
          rw [e11]
          exact hskip (fun hok => hok.2.2.1 hcl)
        · refine ⟨fun y => hdown ⟨o5 h hhm, hroot, hcl, fun hpj => absurd y (hS2.g2.mpr hpj)⟩ hlt, fun y => crossE_C rfl (by omega) hpp (by omega) (fun hcr => ⟨fun y => absurd y (by decide), fun _ v18 e18 => ?_⟩) (fun hcr => ⟨fun _ => hdown ⟨o5 h hhm, hroot, hcl, fun _ => hcr⟩ hlt, fun y => absurd rfl y⟩)⟩
          rw [nI_1] at e18
          rw [e18]
          obtain ⟨u, u1, u2, hcr⟩ := hcr
          exact hskip (fun hok => hok.2.2.2 (hS2.g2.mp y) u u1 u2 hcr)
      have h90 : (m = 0 → L2.length = k → ∃ b, b ∈ L2 ∧ b < v7.toInt) → J_X4_descend_90 (P_X4_descend fu) K c (nI (p.length + 1)) vI rI (nI i) (nI h) v7 σ2 := by
        intro hlt
        unfold J_X4_descend_90
        rw [show (0 : Int32) = nI 0 from rfl, nI_eq (by omega) (by omega)]
        refine ⟨fun y => ⟨fun y2 => h115 (fun hz => absurd y2 (hr.mpr hz.2.1)) hlt, fun y2 => ⟨fun y3 => h115 (fun hz => absurd y3 (hS2.g1.mpr hz.2.2)) hlt, fun y3 => ?_⟩⟩, fun y => h115 (fun hz => y hz.1) hlt⟩
        unfold J_X4_descend_115
        refine ⟨fun y4 => absurd y4 (by decide), fun _ v8 e8 => ?_⟩
        rw [nI_1] at e8
        rw [e8]
        exact hskip (fun hok => hok.2.1 ⟨y, hr.mp y2, hS2.g1.mp y3⟩)
      have hL2 := hKS2.1
      rw [hKS2.2.1, hS2.wt, nI_eq (by omega) (by omega)]
      refine ⟨fun y => ?_, fun y => h90 (fun _ e => absurd e y)⟩
      have hk1 := hS.k1
      rw [nI_1, show nI k - 1 = nI (k - 1) from pk_sub (b := 1) (by omega), ix_nI (by omega), ix_nI (by omega), Int64.lt_iff_toInt_lt, hKS2.2.2 (k - 1) (by omega)]
      have hrest := hS2.rs (p.length + 1 + 1) (by omega) (by omega)
      rw [show n + 1 - (p.length + 1 + 1) = m by omega] at hrest
      rw [I64_add (by rw [hv7, hrest]; omega) (by rw [hv7, hrest]; omega), hv7, hrest]
      have hlastm : L2[k - 1] ∈ L2 := List.getElem_mem (by omega)
      refine ⟨vp_in_nI (by omega) (by decide), vp_in_nI (by omega) (by decide), fun y2 => h90 (fun hm0 _ => ⟨_, hlastm, ?_⟩), fun y2 => ?_⟩
      · subst hm0
        rw [hv7]
        have : rsm f of 0 (p.length + 1 + 1) = 0 := rfl
        omega
      · -- all that follow are hopeless
        have hlle : ∀ u, u ∈ L2 → L2[k - 1] ≤ u := by
          intro u hu
          obtain ⟨j, hj, rfl⟩ := List.mem_iff_getElem.mp hu
          by_cases e : j = k - 1
          · subst e; exact Int.le_refl _
          · have := List.pairwise_iff_getElem.mp hTop2.2.1 j (k - 1) hj (by omega) (by omega)
            omega
        refine hK σ2 L2 hFD h145 hKS2 ((hTop2.skip (S2 := fun x => ∃ i', ∃ hi' : i' < (of (p.length + 1)).length, i ≤ i' ∧ ∃ r, x = tot f 1 (p ++ (of (p.length + 1))[i'] :: r) ∧ r.length = m ∧ admR sg pj ch p ((of (p.length + 1))[i'] :: r)) y hlastm hlle ?_).congr (fun x => ?_))
        · rintro x ⟨i', hi', hle, r, e1, e2, e3⟩
          have hfle : f (of (p.length + 1))[i'] (p.length + 1) ≤ f h (p.length + 1) := by
            by_cases e : i' = i
            · subst e; rw [hgh]; exact Int.le_refl _
            · have := List.pairwise_iff_getElem.mp o6 i i' hil hi' (by omega)
              rw [hgh] at this; exact this
          have htl := tot_le hS r (p ++ [(of (p.length + 1))[i']]) e3.2 (by rw [List.length_append]; simp only [List.length_cons, List.length_nil]; omega)
          rw [List.length_append, e2] at htl
          have htl' : tot f (p.length + 1 + 1) r ≤ rsm f of m (p.length + 1 + 1) := htl
          rw [e1, htot]
          omega
        · constructor
          · rintro (⟨l, hl | ⟨i', hi', hlt, r, e1, e2, e3⟩, e⟩ | ⟨i', hi', hle, r, e1, e2, e3⟩)
            · exact ⟨l, Or.inl hl, e⟩
            · exact ⟨l, Or.inr ⟨_, e1, by rw [List.length_cons, e2], e3⟩, e⟩
            · exact ⟨_, Or.inr ⟨_, rfl, by rw [List.length_cons, e2], e3⟩, e1⟩
          · rintro ⟨l, hl | ⟨r, e1, e2, e3⟩, e⟩
            · exact Or.inl ⟨l, Or.inl hl, e⟩
            · cases r with
              | nil => cases e2
              | cons a r =>
                rw [List.length_cons] at e2
                have ham := hS.of2 (p.length + 1) a (by omega) (by omega) e3.1.1
                obtain ⟨i', hi', ea⟩ := List.mem_iff_getElem.mp ham
                subst ea
                by_cases y : i' < i
                · exact Or.inl ⟨l, Or.inr ⟨i', hi', y, r, e1, by omega, e3⟩, e⟩
                · exact Or.inr ⟨i', hi', by omega, r, by rw [e, e1], by omega, e3⟩
end DSC
