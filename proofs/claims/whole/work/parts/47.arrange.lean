/-! the class's arrange -/
def arL (σ : St) (a : Nat) (l : List Nat) : Prop := ∀ k, (hk : k < l.length) → σ.1 a k = nI l[k]
def VI (σ0 σ : St) (l : List Nat) : Prop := (σ.2 = σ0.2 ∧ (∀ c, c ≠ 196 → c ≠ 198 → c ≠ 199 → σ.1 c = σ0.1 c) ∧ ∀ j, j ≠ 3 → σ.1 196 j = σ0.1 196 j) ∧ σ.1 196 3 = nI l.length ∧ arL σ 198 l ∧ ∀ k, (hk : k < l.length) → σ.1 199 l[k] = nI k
theorem flt_split {β : Type} (p : Nat → Bool) (f : Nat → List β) {s i m : Nat} (h : i ≤ m) : ∃ r, ((List.range' s m).filter p).flatMap f = ((List.range' s i).filter p).flatMap f ++ r := by
  refine ⟨((List.range' (s + i) (m - i)).filter p).flatMap f, ?_⟩
  rw [← List.flatMap_append, ← List.filter_append, List.range'_append_1, show i + (m - i) = m by omega]
theorem flt_step {β : Type} (p : Nat → Bool) (f : Nat → List β) {s i : Nat} : ((List.range' s (i + 1)).filter p).flatMap f = ((List.range' s i).filter p).flatMap f ++ if p (s + i) then f (s + i) else [] := by
  rw [List.range'_1_concat, List.filter_append, List.flatMap_append, List.filter_cons]
  split <;> simp
section ARR
variable {n : Nat} {t : Nat → Nat} {σ0 : St}
theorem VI_push {σ s7 s9 s10 : St} {l : List Nat} {v : Nat} (h : VI σ0 σ l) (hv : v < 7) (hl : l.length < 7) (hnd : (l ++ [v]).Nodup) (e7 : s7 = wI σ 198 l.length (nI v)) (e9 : s9 = wI s7 199 v (nI l.length)) (e10 : s10 = wI s9 196 3 (nI (l.length + 1))) : VI σ0 s10 (l ++ [v]) := by
  obtain ⟨⟨h1, h2, h3⟩, h4, h5, h6⟩ := h
  refine ⟨⟨by rw [e10, wI_2, e9, wI_2, e7, wI_2]; exact h1, fun c c1 c2 c3 => by rw [e10, wI_ne c1, e9, wI_ne c3, e7, wI_ne c2]; exact h2 c c1 c2 c3, fun j hj => by rw [e10, wI_ni hj, e9, wI_ne (by omega), e7, wI_ne (by omega)]; exact h3 j hj⟩, by rw [e10, wI_self, List.length_append]; rfl, fun k hk => ?_, fun k hk => ?_⟩
  · rw [e10, wI_ne (by omega), e9, wI_ne (by omega), e7]
    rw [List.length_append] at hk
    by_cases e : k = l.length
    · subst e
      rw [List.getElem_append_right (Nat.le_refl _)]
      simp only [Nat.sub_self, List.getElem_cons_zero]; exact wI_self
    · have hk2 : k < l.length := by have : k < l.length + 1 := hk; omega
      rw [List.getElem_append_left hk2, wI_ni e]; exact h5 k hk2
  · rw [e10, wI_ne (by omega), e9, e7]
    rw [List.length_append] at hk
    by_cases e : k = l.length
    · subst e
      rw [List.getElem_append_right (Nat.le_refl _)]
      simp only [Nat.sub_self, List.getElem_cons_zero]; exact wI_self
    · have hk2 : k < l.length := by have : k < l.length + 1 := hk; omega
      rw [List.getElem_append_left hk2, wI_ni, wI_ne (by omega)]
      · exact h6 k hk2
      · intro e2
        rw [List.nodup_append] at hnd
        exact hnd.2.2 _ (List.getElem_mem hk2) v List.mem_cons_self e2
theorem visit_C (hn : n ≤ 6) (h0 : σ0.1 196 0 = nI n) (hh : ∀ w, 1 ≤ w → w ≤ n → σ0.1 197 w = nI (t w) ∧ t w ≤ n) : ∀ (d f v dep : Nat) (l : List Nat) (σ : St) (K : St → Prop), n + 1 = dep + d → v ≤ n → d < f → VI σ0 σ l → (l ++ ordT n t d v).length ≤ 7 → (l ++ ordT n t d v).Nodup → (∀ σ', VI σ0 σ' (l ++ ordT n t d v) → K σ') → P_X3_visit f (nI v) (nI dep) σ K := by
  intro d
  induction d with
  | zero =>
    intro f v dep l σ K h1 h2 h3 hI h5 h6 hK
    obtain ⟨f, rfl⟩ : ∃ g, f = g + 1 := ⟨f - 1, by omega⟩
    rw [P_X3_visit, B_X3_visit, show σ.1 196 0 = nI n by rw [hI.1.2.2 0 (by decide)]; exact h0, nI_leI (by omega) (by omega)]
    refine ⟨fun q => by omega, fun _ => ?_⟩
    have := hK σ
    rw [ordT, List.append_nil] at this
    exact this hI
  | succ d ih =>
    intro f v dep l σ K h1 h2 h3 hI h5 h6 hK
    obtain ⟨f, rfl⟩ : ∃ g, f = g + 1 := ⟨f - 1, by omega⟩
    rw [P_X3_visit, B_X3_visit, show σ.1 196 0 = nI n by rw [hI.1.2.2 0 (by decide)]; exact h0, nI_leI (by omega) (by omega)]
    refine ⟨fun _ => ?_, fun q => by omega⟩
    have hord : ordT n t (d + 1) v = (lkT t v).flatMap (ordT n t d) ++ v :: (rkT n t v).flatMap (ordT n t d) := rfl
    have hpre : ∀ l' r, l ++ ordT n t (d + 1) v = l' ++ r → l'.length ≤ 7 ∧ l'.Nodup := by
      intro l' r e
      refine ⟨?_, List.Nodup.sublist (e ▸ List.sublist_append_left l' r) h6⟩
      have := congrArg List.length e
      rw [List.length_append (as := l')] at this
      omega
    -- the loop behind the node
    have hpost : ∀ σ1, VI σ0 σ1 (l ++ (lkT t v).flatMap (ordT n t d) ++ [v]) → LpE (fun c s => F_X3_visit_83 (P_X3_visit f) K c (nI v) (nI dep) s.1 s.2) (nI (v + 1), σ1) := by
      intro σ1 hI1
      refine LpE_for (S := Int32 × St) (fun i t => (nI (v + 1 + i), t)) (fun i σ2 => VI σ0 σ2 (l ++ (lkT t v).flatMap (ordT n t d) ++ [v] ++ ((List.range' (v + 1) i).filter (fun w => decide (t w = v))).flatMap (ordT n t d))) (n - v) ?_ 0 σ1 (by omega) (by simpa using hI1)
      intro i σ2 c hi hI2 hc
      dsimp only
      unfold F_X3_visit_83
      rw [show σ2.1 196 0 = nI n by rw [hI2.1.2.2 0 (by decide)]; exact h0, nI_ltI (by omega) (by omega)]
      refine ⟨fun q => hK σ2 ?_, fun q => ⟨vp_in_nI (by omega) (by decide), ?_⟩⟩
      · have e : i = n - v := by omega
        subst e
        rw [hord]
        simpa [rkT, List.append_assoc] using hI2
      · rw [ix_nI (by omega), hI2.1.2.1 197 (by decide) (by decide) (by decide), (hh (v + 1 + i) (by omega) (by omega)).1, nI_eq (by have := (hh (v + 1 + i) (by omega) (by omega)).2; omega) (by omega), nI_1, nI_1]
        have hstep := flt_step (s := v + 1) (i := i) (fun w => decide (t w = v)) (ordT n t d)
        have hc' := fun t' => hc t' (by omega)
        rw [hstep] at hc'
        refine ⟨fun q2 => ?_, fun q2 v3 e3 => ?_⟩
        · rw [if_pos (by simpa using q2), ← List.append_assoc] at hc'
          have hp : ∃ r, l ++ ordT n t (d + 1) v = (l ++ (lkT t v).flatMap (ordT n t d) ++ [v] ++ ((List.range' (v + 1) i).filter (fun w => decide (t w = v))).flatMap (ordT n t d) ++ ordT n t d (v + 1 + i)) ++ r := by
            obtain ⟨r, hr⟩ := flt_split (s := v + 1) (i := i + 1) (m := n - v) (fun w => decide (t w = v)) (ordT n t d) (by omega)
            rw [hstep, if_pos (by simpa using q2)] at hr
            refine ⟨r, ?_⟩
            rw [hord, show (rkT n t v).flatMap (ordT n t d) = _ from hr]
            simp [List.append_assoc]
          obtain ⟨r, hr⟩ := hp
          obtain ⟨p1, p2⟩ := hpre _ r hr
          refine ih f (v + 1 + i) (dep + 1) _ σ2 _ (by omega) (by omega) (by omega) hI2 p1 p2 (fun σ' hI' v5 e5 => ?_)
          rw [e5]
          exact hc' σ' hI'
        · rw [if_neg (by simpa using q2), List.append_nil] at hc'
          rw [e3]; exact hc' σ2 hI2
    refine LpE_for (S := Int32 × St) (fun i t => (nI (i + 1), t)) (fun i σ2 => VI σ0 σ2 (l ++ ((List.range' 1 i).filter (fun w => decide (t w = v))).flatMap (ordT n t d))) (v - 1) ?_ 0 σ (by omega) (by simpa using hI)
    intro i σ2 c hi hI2 hc
    dsimp only
    unfold F_X3_visit_11
    rw [nI_leI (by omega) (by omega)]
    refine ⟨fun q => ?_, fun q => ⟨vp_in_nI (by omega) (by decide), ?_⟩⟩
    · have e : i = v - 1 := by omega
      subst e
      have hI3 : VI σ0 σ2 (l ++ (lkT t v).flatMap (ordT n t d)) := hI2
      obtain ⟨p1, p2⟩ := hpre (l ++ (lkT t v).flatMap (ordT n t d) ++ [v]) ((rkT n t v).flatMap (ordT n t d)) (by rw [hord]; simp [List.append_assoc])
      have p3 : (l ++ (lkT t v).flatMap (ordT n t d)).length < 7 := by rw [List.length_append] at p1; simp only [List.length_cons, List.length_nil] at p1; omega
      rw [hI3.2.1, show (7 : Int32) = nI 7 from rfl, nI_leI (by omega) (by omega)]
      refine ⟨fun q2 => by omega, fun _ => ⟨vp_in_nI (by omega) (by decide), fun s7 e7 => ⟨vp_in_nI (by omega) (by decide), fun s9 e9 s10 e10 v11 e11 => ?_⟩⟩⟩
      rw [ix_nI (by omega)] at e7 e9
      have h73 : s7.1 196 3 = nI (l ++ (lkT t v).flatMap (ordT n t d)).length := by rw [e7, wI_ne (by omega)]; exact hI3.2.1
      rw [h73] at e9
      have h93 : s9.1 196 3 = nI (l ++ (lkT t v).flatMap (ordT n t d)).length := by rw [e9, wI_ne (by omega)]; exact h73
      rw [h93, nI_1] at e10
      rw [nI_1] at e11
      rw [e11]
      exact hpost s10 (VI_push hI3 (by omega) p3 p2 e7 e9 e10)
    · rw [ix_nI (by omega), hI2.1.2.1 197 (by decide) (by decide) (by decide), (hh (i + 1) (by omega) (by omega)).1, nI_eq (by have := (hh (i + 1) (by omega) (by omega)).2; omega) (by omega), nI_1, nI_1]
      have hstep := flt_step (s := 1) (i := i) (fun w => decide (t w = v)) (ordT n t d)
      rw [Nat.add_comm 1 i] at hstep
      have hc' := fun t' => hc t' (by omega)
      rw [hstep] at hc'
      refine ⟨fun q2 => ?_, fun q2 v3 e3 => ?_⟩
      · rw [if_pos (by simpa using q2), ← List.append_assoc] at hc'
        have hp : ∃ r, l ++ ordT n t (d + 1) v = (l ++ ((List.range' 1 i).filter (fun w => decide (t w = v))).flatMap (ordT n t d) ++ ordT n t d (i + 1)) ++ r := by
          obtain ⟨r, hr⟩ := flt_split (s := 1) (i := i + 1) (m := v - 1) (fun w => decide (t w = v)) (ordT n t d) (by omega)
          rw [hstep, if_pos (by simpa using q2)] at hr
          refine ⟨r ++ v :: (rkT n t v).flatMap (ordT n t d), ?_⟩
          rw [hord, show (lkT t v).flatMap (ordT n t d) = _ from hr]
          simp [List.append_assoc]
        obtain ⟨r, hr⟩ := hp
        obtain ⟨p1, p2⟩ := hpre _ r hr
        refine ih f (i + 1) (dep + 1) _ σ2 _ (by omega) (by omega) (by omega) hI2 p1 p2 (fun σ' hI' v5 e5 => ?_)
        rw [e5]
        exact hc' σ' hI'
      · rw [if_neg (by simpa using q2), List.append_nil] at hc'
        rw [e3]; exact hc' σ2 hI2
/-- what the class's arrange leaves -/
def arrd (n : Nat) (t : Nat → Nat) (σ' : St) : Prop := σ'.1 196 0 = nI n ∧ (∀ w, 1 ≤ w → w ≤ n → σ'.1 197 w = nI (t w)) ∧ arL σ' 198 (ordF n t 0) ∧ ∀ k, (hk : k < (ordF n t 0).length) → σ'.1 199 (ordF n t 0)[k] = nI k
theorem arrange_C {σ : St} {K : St → Prop} {a : Nat} {x : SentT} (hx : wfS x) (hr : RS σ a x) (ha : sOk a) (hK : ∀ σ', (σ'.2 = σ.2 ∧ ∀ c, c < 196 ∨ 200 ≤ c → σ'.1 c = σ.1 c) → arrd (sZ x) (hdN x) σ' → K σ') : P_X3_arrange a σ K := by
  unfold P_X3_arrange
  intro s1 e1 s2 e2 s3 e3
  obtain ⟨⟨z1, z2⟩, hx2, hT, -⟩ := hx
  have hrg := s_rng ha
  have ht : ∀ w, 1 ≤ w → w ≤ sZ x → hdN x w ≤ sZ x ∧ hdN x w ≠ w ∧ sHd x w = nI (hdN x w) := by
    intro w w1 w2
    obtain ⟨-, h, h1, h2, h3⟩ := hx2 w w1 w2
    have : hdN x w = h := by unfold hdN; rw [if_neg (by omega), h3]; exact ix_nI (by omega)
    rw [this]; exact ⟨h1, h2, h3⟩
  have hperm := ord_perm (n := sZ x) (t := hdN x) (by omega) (fun w w1 w2 => ⟨(ht w w1 w2).1, (ht w w1 w2).2.1⟩) hT rfl
  have hlen : (ordF (sZ x) (hdN x) 0).length = sZ x + 1 := by unfold ordF; rw [hperm.length_eq, List.length_range]
  have hnd : (ordF (sZ x) (hdN x) 0).Nodup := by unfold ordF; rw [hperm.nodup_iff]; exact List.nodup_range
  rw [hr.1] at e1
  have h197 : ∀ w, 1 ≤ w → w ≤ sZ x → s3.1 197 w = nI (hdN x w) := by
    intro w w1 w2
    rw [e3, wI_ne (by omega), e2]
    show (if 197 = 197 ∧ w < 7 then s1.1 (a + 2) w else s1.1 197 w) = _
    rw [if_pos ⟨rfl, by omega⟩, e1, wI_ne (by omega), (hr.2.1 w w1 w2).2, (ht w w1 w2).2.2]
  have h3ne : ∀ c, c ≠ 196 → c ≠ 197 → s3.1 c = σ.1 c := by
    intro c c1 c2
    rw [e3, wI_ne c1, e2]
    funext j
    show (if c = 197 ∧ j < 7 then s1.1 (a + 2) j else s1.1 c j) = _
    rw [if_neg (fun z => c2 z.1), e1, wI_ne c1]
  have h30 : s3.1 196 0 = nI (sZ x) := by
    rw [e3, wI_ni (by omega), e2]
    show (if 196 = 197 ∧ 0 < 7 then s1.1 (a + 2) 0 else s1.1 196 0) = _
    rw [if_neg (by omega), e1, wI_self]
  have h32 : s3.2 = σ.2 := by rw [e3, wI_2, e2]; show s1.2 = _; rw [e1, wI_2]
  refine visit_C (n := sZ x) (t := hdN x) (σ0 := s3) z2 h30 (fun w w1 w2 => ⟨h197 w w1 w2, (ht w w1 w2).1⟩) (sZ x + 1) 10 0 0 [] s3 _ (by omega) (by omega) (by omega) ⟨⟨rfl, fun _ _ _ _ => rfl, fun _ _ => rfl⟩, by rw [e3]; exact wI_self, fun k hk => absurd hk (Nat.not_lt_zero _), fun k hk => absurd hk (Nat.not_lt_zero _)⟩ ?_ ?_ (fun σ' hI => ?_)
  · rw [List.nil_append]
    have := hlen
    unfold ordF at this
    omega
  · rw [List.nil_append]; exact hnd
  · rw [List.nil_append] at hI
    refine hK σ' ⟨hI.1.1.trans h32, fun c hc => (hI.1.2.1 c (by omega) (by omega) (by omega)).trans (h3ne c (by omega) (by omega))⟩ ⟨by rw [hI.1.2.2 0 (by decide)]; exact h30, fun w w1 w2 => by rw [hI.1.2.1 197 (by decide) (by decide) (by decide)]; exact h197 w w1 w2, hI.2.2.1, hI.2.2.2⟩
end ARR
