/-! every call keeps the state well formed -/
section KEEP
variable {s : AS}
theorem wf_inx {i : Nat} {f : SentT → SentT} (hw : wf s) (hi : i < aM s) (h : wfS (f (aS s i))) : wf (inx i f s) := by
  refine ⟨hw.1, ⟨hw.2.1.1, fun k hk => ?_⟩, hw.2.2⟩
  show wfS (u1 (aS s) i (f (aS s i)) k)
  unfold u1
  by_cases e : k = i
  · rw [if_pos e]; exact h
  · rw [if_neg e]; exact hw.2.1.2 k hk
theorem idx_lt {p : Int32} {m j : Nat} (hm : m < 2 ^ 31) (h : idx p m = some j) : j < m := by
  rcases idx_cases p hm with ⟨q, _⟩ | ⟨k, k1, k2, k3⟩
  · rw [q] at h; cases h
  · rw [k3] at h; cases h; exact k1
theorem adx_in {p q : Int32} {n b w : Nat} (hn : n < 2 ^ 31) (h : adx p q n = some (b, w)) : b ≤ n ∧ 1 ≤ w ∧ w ≤ n ∧ b ≠ w := by
  rcases adx_cases p q hn with ⟨z, _⟩ | ⟨h', w', a1, a2, a3, a4, _, _, a5, _⟩
  · rw [z] at h; cases h
  · rw [a5] at h; cases h; exact ⟨a1, a2, a3, a4⟩
theorem wf_bias {p a q v : Int32} (hw : wf s) : wf (nx_bias s p a q v) := by
  unfold nx_bias
  split
  · exact hw
  · rename_i i hi
    have hil := idx_lt (by have := hw.2.1.1; omega) hi
    have hx := hw.2.1.2 i hil
    split
    · exact hw
    · rename_i b w hb
      split
      · rename_i hv
        refine wf_inx hw hil ⟨hx.1, hx.2.1, hx.2.2.1, fun h u => ⟨?_, (hx.2.2.2 h u).2⟩⟩
        show -99 ≤ (u2 (sBi (aS s i)) b w v h u).toInt ∧ (u2 (sBi (aS s i)) b w v h u).toInt ≤ 99
        unfold u2
        split
        · exact hv
        · exact (hx.2.2.2 h u).1
      · exact hw
theorem wf_cons {p a q v : Int32} (hw : wf s) : wf (nx_cons s p a q v) := by
  unfold nx_cons
  split
  · exact hw
  · rename_i i hi
    have hil := idx_lt (by have := hw.2.1.1; omega) hi
    have hx := hw.2.1.2 i hil
    split
    · exact hw
    · rename_i b w hb
      split
      · rename_i hv
        refine wf_inx hw hil ⟨hx.1, hx.2.1, hx.2.2.1, fun h u => ⟨(hx.2.2.2 h u).1, ?_⟩⟩
        show u2 (sCo (aS s i)) b w v h u = 0 ∨ u2 (sCo (aS s i)) b w v h u = 1 ∨ u2 (sCo (aS s i)) b w v h u = 2
        unfold u2
        split
        · rw [T_eq, T_eq, T_eq, show (0 : Int32).toInt = 0 from by decide, show (1 : Int32).toInt = 1 from by decide, show (2 : Int32).toInt = 2 from by decide]
          omega
        · exact (hx.2.2.2 h u).2
      · exact hw
theorem wf_annot {p q a : Int32} (hw : wf s) : wf (nx_annot s p q a) := by
  unfold nx_annot
  split
  · exact hw
  · rename_i i hi
    have hil := idx_lt (by have := hw.2.1.1; omega) hi
    have hx := hw.2.1.2 i hil
    have hz := hx.1
    split
    · exact hw
    · rename_i b w hb
      obtain ⟨b1, b2, b3, b4⟩ := adx_in (by omega) hb
      split
      · rename_i hT
        refine wf_inx hw hil ⟨hx.1, fun u u1' u2' => ⟨(hx.2.1 u u1' u2').1, ?_⟩, treeB_iff.mp hT, hx.2.2.2⟩
        show ∃ h, h ≤ sZ (aS s i) ∧ h ≠ u ∧ u1 (sHd (aS s i)) w (nI b) u = nI h
        unfold u1
        by_cases e : u = w
        · rw [if_pos e]; exact ⟨b, b1, by omega, rfl⟩
        · rw [if_neg e]; exact (hx.2.1 u u1' u2').2
      · exact hw
theorem wfW_u1 {W : Nat → Int32} {k : Nat} {v : Int32} (h : wfW W) (hv : -99 ≤ v.toInt ∧ v.toInt ≤ 99) : wfW (u1 W k v) := by
  intro i
  unfold u1
  split
  · omega
  · exact h i
theorem wf_set {k : Option Nat} {v : Int32} (hw : wf s) : wf (nx_set s k v) := by
  unfold nx_set
  split
  · exact hw
  · split
    · rename_i hv
      exact ⟨hw.1, hw.2.1, wfW_u1 hw.2.2.1 hv, hw.2.2.2⟩
    · exact hw
theorem wf_G1 {v : Int32} (hw : wf s) (hv : isB v) : wf (inG (v, (aG s).2) s) := ⟨hw.1, hw.2.1, hw.2.2.1, hw.2.2.2.1, hv, hw.2.2.2.2.2⟩
theorem wf_G2 {v : Int32} (hw : wf s) (hv : isB v) : wf (inG ((aG s).1, v, (aG s).2.2) s) := ⟨hw.1, hw.2.1, hw.2.2.1, hw.2.2.2.1, hw.2.2.2.2.1, hv, hw.2.2.2.2.2.2⟩
theorem wf_shift {v : Int32} (hw : wf s) : wf (nx_shift s v) := by
  unfold nx_shift
  split
  · rename_i hv
    exact ⟨hw.1, hw.2.1, hw.2.2.1, hw.2.2.2.1, hw.2.2.2.2.1, hw.2.2.2.2.2.1, hv⟩
  · exact hw
theorem wf_clear (hw : wf s) : wf (inT (0, aT s) s) := ⟨⟨Nat.zero_le _, fun i hi => absurd hi (Nat.not_lt_zero _)⟩, hw.2⟩
theorem wf_append {c : Int32} (hw : wf s) : wf (nx_append s c) := by
  unfold nx_append
  split
  · rename_i hc
    split
    · exact hw
    · rename_i hn
      refine ⟨⟨by have := hw.1.1; show aN s + 1 ≤ 100; omega, fun i hi => ?_⟩, hw.2⟩
      show ∃ d, d < 128 ∧ u1 (aT s) (aN s) c i = nI d
      have hi2 : i < aN s + 1 := hi
      unfold u1
      by_cases e : i = aN s
      · rw [if_pos e]
        exact ⟨c.toInt.toNat, by omega, by rw [T_eq, nI_toInt (by omega)]; omega⟩
      · rw [if_neg e]; exact hw.1.2 i (by omega)
  · exact hw
theorem wf_remove {p : Int32} (hw : wf s) : wf (nx_remove s p) := by
  unfold nx_remove
  split
  · exact hw
  · rename_i j hj
    have h4 := hw.2.1.1
    have hjl := idx_lt (by omega) hj
    refine ⟨hw.1, ⟨by show aM s - 1 ≤ 4; omega, fun i hi => ?_⟩, hw.2.2⟩
    have hi2 : i < aM s - 1 := hi
    show wfS (aS s (rmS j (aM s) i))
    refine hw.2.1.2 _ ?_
    unfold rmS
    split
    · omega
    · rw [if_pos (by omega)]; omega
theorem wf_save {p : Int32} (hw : wf s) : wf (nx_save s p) := by
  unfold nx_save
  split
  · exact hw
  · rename_i j _
    refine ⟨hw.1, hw.2.1, hw.2.2.1, fun i => ?_, hw.2.2.2.2⟩
    show isB (u1 (aK s) j (1, aW s) i).1 ∧ wfW (u1 (aK s) j (1, aW s) i).2
    unfold u1
    split
    · exact ⟨Or.inr rfl, hw.2.2.1⟩
    · exact hw.2.2.2.1 i
theorem wf_restore {p : Int32} (hw : wf s) : wf (nx_restore s p) := by
  unfold nx_restore
  split
  · exact hw
  · rename_i j _
    split
    · exact hw
    · exact ⟨hw.1, hw.2.1, (hw.2.2.2.1 j).2, hw.2.2.2⟩
theorem wf_train {p : Int32} (hw : wf s) : wf (nx_train s p) := by
  unfold nx_train
  split
  · exact hw
  · exact (lrn_wf hw _).1
theorem wf_trainAll {p : Int32} (hw : wf s) : wf (nx_trainAll s p) := by
  unfold nx_trainAll
  split
  · exact ta_wf _ _ _ hw
  · exact hw
theorem accS_at {j : Nat} {r : List Nat} : ∀ k, (accS j r s k).1 = s.1 ∧ (accS j r s k).2.2 = s.2.2 ∧ aM (accS j r s k) = aM s ∧ (∀ i, i ≠ j → aS (accS j r s k) i = aS s i) ∧ (aS (accS j r s k) j).1 = (aS s j).1 ∧ (aS (accS j r s k) j).2.1 = (aS s j).2.1 ∧ (aS (accS j r s k) j).2.2.2 = (aS s j).2.2.2 ∧ ∀ v, 1 ≤ v → v ≤ k → sHd (aS (accS j r s k) j) v = nI (hL r v)
  | 0 => ⟨rfl, rfl, rfl, fun _ _ => rfl, rfl, rfl, rfl, fun v v1 v2 => by omega⟩
  | k + 1 => by
    obtain ⟨a1, a2, a3, a4, a5, a6, a7, a8⟩ := accS_at (j := j) (r := r) k
    have ej : aS (accS j r s (k + 1)) j = sH (k + 1) (nI (hL r (k + 1))) (aS (accS j r s k) j) := by
      show u1 (aS (accS j r s k)) j _ j = _
      unfold u1; rw [if_pos rfl]
    refine ⟨a1, a2, a3, fun i hi => ?_, by rw [ej]; exact a5, by rw [ej]; exact a6, by rw [ej]; exact a7, fun v v1 v2 => ?_⟩
    · rw [← a4 i hi]
      show u1 (aS (accS j r s k)) j _ i = _
      unfold u1; rw [if_neg hi]
    · rw [ej]
      show u1 (sHd (aS (accS j r s k) j)) (k + 1) (nI (hL r (k + 1))) v = _
      unfold u1
      by_cases e : v = k + 1
      · rw [if_pos e, e]
      · rw [if_neg e]; exact a8 v v1 (by omega)
theorem wfS_hd2 {x y : SentT} {r : List Nat} (hx : wfS x) (e1 : sZ y = sZ x) (e2 : sTg y = sTg x) (e3 : sBi y = sBi x) (e4 : sCo y = sCo x) (hh : ∀ v, 1 ≤ v → v ≤ sZ x → sHd y v = nI (hL r v)) (hl : r ∈ allT (sZ x)) (hT : isT (sZ x) (hL r)) : wfS y := by
  obtain ⟨l1, l2⟩ := allT_mem.mp hl
  have hz := hx.1
  unfold wfS
  rw [e1, e2, e3, e4]
  refine ⟨hz, fun w w1 w2 => ⟨(hx.2.1 w w1 w2).1, hL r w, (l2 w w1 w2).1, (l2 w w1 w2).2, hh w w1 w2⟩, ?_, hx.2.2.2⟩
  refine (isT_congr (f := hL r) (fun v hv => ?_)).mp hT
  rcases Nat.eq_zero_or_pos v with q | q
  · subst q; exact ⟨rfl, Nat.zero_le _⟩
  · have := (l2 v q hv).1
    refine ⟨?_, this⟩
    rw [hdN_w (by omega), hh v q hv, ix_nI (by omega)]
theorem wf_eq {s' : AS} (hw : wf s) (e1 : s'.1 = s.1) (e2 : s'.2.2 = s.2.2) (h : aM s' ≤ 4 ∧ ∀ i, i < aM s' → wfS (aS s' i)) : wf s' := by
  obtain ⟨a, b, c⟩ := s'
  dsimp only at e1 e2
  subst e1 e2
  exact ⟨hw.1, h, hw.2.2⟩
theorem wf_accept {p : Int32} (hw : wf s) : wf (nx_accept s p) := by
  unfold nx_accept
  split
  · exact hw
  · rename_i j hj
    have h4 := hw.2.1.1
    have hjl := idx_lt (by omega) hj
    split
    · exact hw
    · rename_i r hr
      obtain ⟨a1, a2, a3, a4, a5, a6, a7, a8⟩ := accS_at (s := s) (j := j) (r := r) (sZ (aS s j))
      have hrm : r ∈ RKf s j := List.mem_of_getElem? hr
      obtain ⟨m1, m2⟩ := admL_mem.mp ((RKf_top hw hjl).2 r hrm)
      obtain ⟨l1, l2⟩ := allT_mem.mp m1
      have hx := hw.2.1.2 j hjl
      have hz := hx.1
      refine wf_eq hw a1 a2 ⟨by rw [a3]; exact h4, fun i hi => ?_⟩
      rw [a3] at hi
      by_cases e : i = j
      · rw [e]
        exact wfS_hd2 hx a5 a6 (congrArg Prod.fst a7) (congrArg Prod.snd a7) a8 m1 m2.2.2.1
      · rw [a4 i e]; exact hw.2.1.2 i hi
end KEEP
