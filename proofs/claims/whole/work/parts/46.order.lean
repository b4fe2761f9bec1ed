/-! the projective order -/
def lkT (t : Nat → Nat) (v : Nat) : List Nat := (List.range' 1 (v - 1)).filter (fun w => decide (t w = v))
def rkT (n : Nat) (t : Nat → Nat) (v : Nat) : List Nat := (List.range' (v + 1) (n - v)).filter (fun w => decide (t w = v))
def ordT (n : Nat) (t : Nat → Nat) : Nat → Nat → List Nat
  | 0, _ => []
  | d + 1, v => (lkT t v).flatMap (ordT n t d) ++ v :: (rkT n t v).flatMap (ordT n t d)
def parT (n : Nat) (t : Nat → Nat) (w : Nat) : Nat := if w = 0 then 100 else if w ≤ n then t w else 100
def hitT (n : Nat) (t : Nat → Nat) : Nat → Nat → Nat → Nat
  | 0, _, _ => 0
  | d + 1, v, w => (if w = v then 1 else 0) + hitT n t d v (parT n t w)
section ORD
variable {n : Nat} {t : Nat → Nat}
theorem kid_l {v w : Nat} : w ∈ lkT t v ↔ 1 ≤ w ∧ w < v ∧ t w = v := by
  unfold lkT
  rw [List.mem_filter, List.mem_range'_1, decide_eq_true_iff]
  omega
theorem kid_r {v w : Nat} : w ∈ rkT n t v ↔ v < w ∧ w ≤ n ∧ t w = v := by
  unfold rkT
  rw [List.mem_filter, List.mem_range'_1, decide_eq_true_iff]
  omega
theorem sum_map_add {α : Type} (f g : α → Nat) : ∀ l : List α, (l.map (fun a => f a + g a)).sum = (l.map f).sum + (l.map g).sum
  | [] => rfl
  | a :: l => by simp only [List.map_cons, List.sum_cons, sum_map_add f g l]; omega
theorem sum_ite_nodup {v : Nat} : ∀ l : List Nat, l.Nodup → (l.map (fun c => if v = c then 1 else 0)).sum = if v ∈ l then 1 else 0
  | [], _ => rfl
  | a :: l, h => by
    rw [List.nodup_cons] at h
    simp only [List.map_cons, List.sum_cons, sum_ite_nodup l h.2, List.mem_cons]
    by_cases e : v = a
    · subst e; simp [h.1]
    · simp [e]
theorem lk_nodup {v : Nat} : (lkT t v).Nodup := List.Nodup.sublist List.filter_sublist (List.nodup_range' 1)
theorem rk_nodup {v : Nat} : (rkT n t v).Nodup := List.Nodup.sublist List.filter_sublist (List.nodup_range' 1)
theorem hit_kids (ht : ∀ w, 1 ≤ w → w ≤ n → t w ≤ n ∧ t w ≠ w) (hn : n < 100) : ∀ (d v w : Nat), v ≤ n → ((lkT t v).map (fun c => hitT n t d c w)).sum + ((rkT n t v).map (fun c => hitT n t d c w)).sum = hitT n t d v (parT n t w) := by
  intro d
  induction d with
  | zero =>
    intro v w hv
    have : ∀ l : List Nat, (l.map (fun c => hitT n t 0 c w)).sum = 0 := by
      intro l
      induction l with
      | nil => rfl
      | cons a l ih => simp only [List.map_cons, List.sum_cons, ih]; rfl
    rw [this, this]; rfl
  | succ d ih =>
    intro v w hv
    have hx : ∀ l : List Nat, (l.map (fun c => hitT n t (d + 1) c w)).sum = (l.map (fun c => if w = c then 1 else 0)).sum + (l.map (fun c => hitT n t d c (parT n t w))).sum := fun l => sum_map_add _ _ l
    rw [hx, hx, sum_ite_nodup _ lk_nodup, sum_ite_nodup _ rk_nodup]
    have h2 := ih v (parT n t w) hv
    show _ = (if parT n t w = v then 1 else 0) + hitT n t d v (parT n t (parT n t w))
    rw [← h2]
    have : (if w ∈ lkT t v then 1 else 0) + (if w ∈ rkT n t v then 1 else 0) = if parT n t w = v then 1 else 0 := by
      simp only [kid_l, kid_r]
      unfold parT
      by_cases e0 : w = 0
      · rw [if_pos e0, if_neg (by omega), if_neg (by omega), if_neg (by omega)]
      · rw [if_neg e0]
        by_cases e1 : w ≤ n
        · rw [if_pos e1]
          have := ht w (by omega) e1
          by_cases e2 : t w = v
          · rw [if_pos e2]
            rcases Nat.lt_or_ge w v with q | q
            · rw [if_pos ⟨by omega, q, e2⟩, if_neg (by omega)]
            · rw [if_neg (by omega), if_pos ⟨by omega, e1, e2⟩]
          · rw [if_neg e2, if_neg (fun z => e2 z.2.2), if_neg (fun z => e2 z.2.2)]
        · rw [if_neg e1, if_neg (by omega), if_neg (by omega), if_neg (by omega)]
    omega
theorem cnt_ord (ht : ∀ w, 1 ≤ w → w ≤ n → t w ≤ n ∧ t w ≠ w) (hn : n < 100) : ∀ (d v w : Nat), v ≤ n → (ordT n t d v).count w = hitT n t d v w := by
  intro d
  induction d with
  | zero => intro v w hv; rfl
  | succ d ih =>
    intro v w hv
    rw [ordT, List.count_append, List.count_cons, List.count_flatMap, List.count_flatMap]
    have hx : ∀ l : List Nat, (∀ c, c ∈ l → c ≤ n) → (l.map (List.count w ∘ ordT n t d)).sum = (l.map (fun c => hitT n t d c w)).sum := by
      intro l
      induction l with
      | nil => intro _; rfl
      | cons a l ihl => intro hl; simp only [List.map_cons, List.sum_cons, ihl (fun c hc => hl c (List.mem_cons_of_mem _ hc)), Function.comp_apply, ih a w (hl a List.mem_cons_self)]
    rw [hx _ (fun c hc => by have := (kid_l (t := t)).mp hc; omega), hx _ (fun c hc => by have := (kid_r (n := n) (t := t)).mp hc; omega)]
    have := hit_kids ht hn d v w hv
    rw [hitT, ← this]
    have e : (if (v == w) = true then 1 else 0) = if w = v then 1 else 0 := by
      by_cases q : w = v
      · subst q; simp
      · rw [if_neg q, if_neg (by simp; omega)]
    rw [e]; omega
theorem hit_out (hn : n < 100) : ∀ (d v : Nat), v ≤ n → hitT n t d v 100 = 0
  | 0, _, _ => rfl
  | d + 1, v, hv => by
    rw [hitT, if_neg (by omega), show parT n t 100 = 100 by unfold parT; rw [if_neg (by omega), if_neg (by omega)], hit_out hn d v hv]
theorem hit_big (hn : n < 100) {d v w : Nat} (hv : v ≤ n) (hw : n < w) : hitT n t d v w = 0 := by
  cases d with
  | zero => rfl
  | succ d => rw [hitT, if_neg (by omega), show parT n t w = 100 by unfold parT; rw [if_neg (by omega), if_neg (by omega)], hit_out hn d v hv]
theorem hit_root (hn : n < 100) (ht : ∀ w, 1 ≤ w → w ≤ n → t w ≤ n ∧ t w ≠ w) : ∀ (j d w : Nat), w ≤ n → j < d → itN t j w = 0 → hitT n t d 0 w = 1 := by
  intro j
  induction j with
  | zero =>
    intro d w hw hd h0
    obtain ⟨d, rfl⟩ : ∃ g, d = g + 1 := ⟨d - 1, by omega⟩
    have : w = 0 := h0
    subst this
    rw [hitT, if_pos rfl, show parT n t 0 = 100 from rfl, hit_out hn d 0 (by omega)]
  | succ j ih =>
    intro d w hw hd h0
    obtain ⟨d, rfl⟩ : ∃ g, d = g + 1 := ⟨d - 1, by omega⟩
    by_cases e : w = 0
    · subst e
      rw [hitT, if_pos rfl, show parT n t 0 = 100 from rfl, hit_out hn d 0 (by omega)]
    · rw [hitT, if_neg e, show parT n t w = t w by unfold parT; rw [if_neg e, if_pos hw], ih d (t w) (ht w (by omega) hw).1 (by omega) h0]
theorem ord_perm (hn : n < 100) (ht : ∀ w, 1 ≤ w → w ≤ n → t w ≤ n ∧ t w ≠ w) (hT : isT n t) (h0 : t 0 = 0) : (ordT n t (n + 1) 0).Perm (List.range (n + 1)) := by
  rw [List.perm_iff_count]
  intro w
  rw [cnt_ord ht hn _ _ _ (Nat.zero_le _), List.count_range]
  by_cases e : w < n + 1
  · rw [if_pos e]
    refine hit_root hn ht n (n + 1) w (by omega) (by omega) ?_
    rcases Nat.eq_zero_or_pos w with q | q
    · subst q
      have : ∀ k, itN t k 0 = 0 := by
        intro k
        induction k with
        | zero => rfl
        | succ k ih => rw [itN, h0]; exact ih
      exact this n
    · exact hT w q (by omega)
  · rw [if_neg e]; exact hit_big hn (Nat.zero_le _) (by omega)
theorem par_stays (hn : n < 100) : ∀ k, itN (parT n t) k 100 = 100
  | 0 => rfl
  | k + 1 => by rw [itN, show parT n t 100 = 100 by unfold parT; rw [if_neg (by omega), if_neg (by omega)]]; exact par_stays hn k
theorem par_end (hn : n < 100) (ht : ∀ w, 1 ≤ w → w ≤ n → t w ≤ n ∧ t w ≠ w) : ∀ (j w : Nat), w ≤ n → itN t j w = 0 → ∀ k, j < k → itN (parT n t) k w = 100 := by
  intro j
  induction j with
  | zero =>
    intro w hw h0 k hk
    obtain ⟨k, rfl⟩ : ∃ g, k = g + 1 := ⟨k - 1, by omega⟩
    have : w = 0 := h0
    subst this
    rw [itN, show parT n t 0 = 100 from rfl]; exact par_stays hn k
  | succ j ih =>
    intro w hw h0 k hk
    obtain ⟨k, rfl⟩ : ∃ g, k = g + 1 := ⟨k - 1, by omega⟩
    by_cases e : w = 0
    · subst e
      rw [itN, show parT n t 0 = 100 from rfl]; exact par_stays hn k
    · rw [itN, show parT n t w = t w by unfold parT; rw [if_neg e, if_pos hw]]
      exact ih _ (ht w (by omega) hw).1 h0 k (by omega)
theorem ord_stable (ht : ∀ w, 1 ≤ w → w ≤ n → t w ≤ n ∧ t w ≠ w) : ∀ (d v : Nat), v ≤ n → (∀ w, w ≤ n → itN (parT n t) d w ≠ v) → ordT n t (d + 1) v = ordT n t d v := by
  intro d
  induction d with
  | zero => intro v hv h; exact absurd rfl (h v hv)
  | succ d ih =>
    intro v hv h
    have hx : ∀ l : List Nat, (∀ c, c ∈ l → c ≤ n ∧ 1 ≤ c ∧ t c = v) → l.flatMap (ordT n t (d + 1)) = l.flatMap (ordT n t d) := by
      intro l
      induction l with
      | nil => intro _; rfl
      | cons a l ihl =>
        intro hl
        have ha := hl a List.mem_cons_self
        rw [List.flatMap_cons, List.flatMap_cons, ihl (fun c hc => hl c (List.mem_cons_of_mem _ hc)), ih a ha.1 (fun w hw e => h w hw ?_)]
        rw [itN_succ, e]
        unfold parT
        rw [if_neg (by omega), if_pos ha.1]; exact ha.2.2
    rw [ordT, hx _ (fun c hc => by have := (kid_l (t := t)).mp hc; omega), hx _ (fun c hc => by have := (kid_r (n := n) (t := t)).mp hc; omega)]
    rfl
def ordF (n : Nat) (t : Nat → Nat) (v : Nat) : List Nat := ordT n t (n + 1) v
theorem ord_fix (hn : n < 100) (ht : ∀ w, 1 ≤ w → w ≤ n → t w ≤ n ∧ t w ≠ w) (hT : isT n t) (h0 : t 0 = 0) {v : Nat} (hv : v ≤ n) : ordF n t v = (lkT t v).flatMap (ordF n t) ++ v :: (rkT n t v).flatMap (ordF n t) := by
  have hz : ∀ w, w ≤ n → itN t n w = 0 := by
    intro w hw
    rcases Nat.eq_zero_or_pos w with q | q
    · subst q
      have : ∀ k, itN t k 0 = 0 := by
        intro k
        induction k with
        | zero => rfl
        | succ k ih => rw [itN, h0]; exact ih
      exact this n
    · exact hT w q (by omega)
  have := ord_stable ht (n + 1) v hv (fun w hw e => by rw [par_end hn ht n w hw (hz w hw) (n + 1) (by omega)] at e; omega)
  unfold ordF
  rw [← this]
  rfl
end ORD
