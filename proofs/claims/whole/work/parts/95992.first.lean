/-- A land of which nothing was read. -/
theorem LD_0 {La : Int} {μ : Mem} {A : Int → Int} (a1 : A 1 = 1) (a0 : ∀ i, 0 ≤ i → i < 1100 → i ≠ 1 → A i = 0) (m0 : μ La 0 = 1) (m1 : ∀ i, 1 ≤ i → i ≤ 7 → μ La i = 0) (m3 : ∀ l, 0 ≤ l → l < 9 → μ (La + 3) l = 0 ∧ μ (La + 4) l = 0 ∧ μ (La + 5) l = 0) (m7 : μ (La + 7) 1 = 0) (m9 : ∀ w, 0 ≤ w → w < 2 → μ (La + 9) w = 0 ∧ μ (La + 10) w = 0) : LD La μ A 0 := by
  have z : ∀ i, 0 ≤ i → i < 1100 → i ≠ 1 → A i = 0 := a0
  have e2 := z 2 (by decide) (by decide) (by decide)
  have e3 := z 3 (by decide) (by decide) (by decide)
  have e4 := z 4 (by decide) (by decide) (by decide)
  have e5 := z 5 (by decide) (by decide) (by decide)
  have e6 := z 6 (by decide) (by decide) (by decide)
  have e55 := z 55 (by decide) (by decide) (by decide)
  have e65 := z 65 (by decide) (by decide) (by decide)
  have e66 := z 66 (by decide) (by decide) (by decide)
  refine ⟨⟨⟨by rw [m0, a1], by omega, by omega⟩, ⟨by rw [m1 1 (by decide) (by decide), e2], by omega, by omega⟩, ⟨by rw [m1 2 (by decide) (by decide), e3], by omega, by omega⟩, by rw [m1 3 (by decide) (by decide), z 0 (by decide) (by decide) (by decide)], ⟨by rw [m1 5 (by decide) (by decide), e4], by omega, by omega⟩, fun l l0 l1 => by omega, fun p p0 p1 => by omega, .inl ⟨e5, (m9 0 (by decide) (by decide)).1, (m9 0 (by decide) (by decide)).2⟩, .inl ⟨e6, (m9 1 (by decide) (by decide)).1, (m9 1 (by decide) (by decide)).2⟩⟩, ⟨by rw [m1 4 (by decide) (by decide), e55], by omega, by omega⟩, ⟨by rw [m1 6 (by decide) (by decide), e66], by omega, by omega⟩, ⟨by rw [m1 7 (by decide) (by decide), e65], by omega, by rw [e65, e3]; decide⟩, ?_, z 67 (by decide) (by decide) (by decide), z 68 (by decide) (by decide) (by decide), z 199 (by decide) (by decide) (by decide), m7, by decide, fun j j0 j1 => by omega, fun q => by omega, fun q => by omega⟩
  intro l l0 l1
  obtain ⟨x1, x2, x3⟩ := m3 l l0 l1
  rw [x1, x2, x3, z (56 + l) (by omega) (by omega) (by omega), z (29 + l) (by omega) (by omega) (by omega), z (38 + l) (by omega) (by omega) (by omega)]
  decide
