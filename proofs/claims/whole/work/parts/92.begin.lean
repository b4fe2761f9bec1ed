/-! where the run begins -/
def as0 : AS := ((0, fun _ => 0), (0, fun _ => (0, fun _ => 0, fun _ => 0, fun _ _ => 0, fun _ _ => 0)), (fun _ => 0), (fun _ => (0, fun _ => 0)), (0, 0, 10))
theorem wf0 : wf as0 := ⟨⟨Nat.zero_le _, fun i hi => absurd hi (Nat.not_lt_zero _)⟩, ⟨Nat.zero_le _, fun i hi => absurd hi (Nat.not_lt_zero _)⟩, fun k => (show -999 ≤ (0 : Int32).toInt ∧ (0 : Int32).toInt ≤ 999 by decide), fun j => ⟨Or.inl rfl, fun k => (show -999 ≤ (0 : Int32).toInt ∧ (0 : Int32).toInt ≤ 999 by decide)⟩, Or.inl rfl, Or.inl rfl, (show -100 ≤ (10 : Int32).toInt ∧ (10 : Int32).toInt ≤ 100 by decide)⟩
theorem RW0 {a : Nat} (h : a = 81 ∨ a = 96 ∨ a = 110) : RW s0 a (fun _ => 0) := ⟨fun h' h1 w w1 => s0_z (by omega), fun d d1 k k1 k2 => s0_z (by omega)⟩
theorem sp0 : ∀ i, i < 4 → (sOk (s0.2.2 i) ∧ s0.1 (s0.2.2 i + 1) 0 = 8) ∧ s0.1 (s0.2.2 i) 0 = 0 ∧ (s0.2.2 i = 5 ∨ s0.2.2 i = 24 ∨ s0.2.2 i = 43 ∨ s0.2.2 i = 62) := fun i hi => by
  match i, hi with
  | 0, _ => exact ⟨⟨Or.inl rfl, rfl⟩, rfl, Or.inl rfl⟩
  | 1, _ => exact ⟨⟨Or.inr (Or.inl rfl), rfl⟩, rfl, Or.inr (Or.inl rfl)⟩
  | 2, _ => exact ⟨⟨Or.inr (Or.inr (Or.inl rfl)), rfl⟩, rfl, Or.inr (Or.inr (Or.inl rfl))⟩
  | 3, _ => exact ⟨⟨Or.inr (Or.inr (Or.inr rfl)), rfl⟩, rfl, Or.inr (Or.inr (Or.inr rfl))⟩
theorem sp0_inj : ∀ i, i < 4 → ∀ j, j < 4 → s0.2.2 i = s0.2.2 j → i = j := by decide
theorem RC0 : RC s0 as0 := by
  refine ⟨⟨rfl, fun i hi => absurd hi (Nat.not_lt_zero _)⟩, ⟨rfl, Nat.zero_le _⟩, ⟨fun i hi => (sp0 i hi).1.1, sp0_inj, fun i hi => (sp0 i hi).1.2⟩, ⟨fun i hi => absurd hi (Nat.not_lt_zero _), fun i _ hi => ?_⟩, RW0 (Or.inl rfl), fun j hj => ⟨s0_z (by decide), RW0 (by omega)⟩, rfl, rfl, rfl⟩
  obtain ⟨_, h2, h3⟩ := sp0 i hi
  exact ⟨h2, fun h hh w hw => ⟨s0_z (by omega), s0_z (by omega)⟩⟩
theorem RM0 : RM s0 as0 := ⟨⟨rfl, fun i hi => absurd hi (Nat.not_lt_zero _)⟩, ⟨rfl, Nat.zero_le _⟩, fun i hi => absurd hi (Nat.not_lt_zero _), fun k _ => s0_z (by decide), fun j _ => ⟨s0_z (by decide), fun k _ => s0_z (by decide)⟩, rfl, rfl, rfl⟩
theorem Rel0 : Rel s0 := ⟨as0, wf0, RC0, RM0⟩
