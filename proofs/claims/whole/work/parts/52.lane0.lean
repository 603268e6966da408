theorem isLane_eq {l : Int} {ρ : Mem} (L0 : 0 ≤ ρ 112 2) (L9 : ρ 112 2 ≤ 9) : f_X12_isLane 111 l ρ = some (if 0 ≤ nrl l ∧ nrl l < ρ 112 2 then 1 else 0, ρ) := by
  unfold f_X12_isLane
  rw [bn_eq (within_eq ρ), show (111 + 1 : Int) = 112 from rfl, nrm_id (z := ρ 112 2 - 1) (by omega) (by omega), show nrl 0 = 0 from rfl, nrl_id (z := ρ 112 2 - 1) (by omega) (by omega)]
  by_cases g : 0 ≤ nrl l ∧ nrl l < ρ 112 2
  · rw [if_pos (by omega : 0 ≤ nrl l ∧ nrl l ≤ ρ 112 2 - 1), if_pos g, gd_pos (.inr rfl)]
  · rw [if_neg (by omega : ¬ (0 ≤ nrl l ∧ nrl l ≤ ρ 112 2 - 1)), if_neg g, gd_pos (.inl rfl)]
/-- The other end of a lane. -/
def oeM (A : Int → Int) (l k : Int) : Int := if A (11 + l) = k then A (20 + l) else if A (20 + l) = k then A (11 + l) else -1
theorem otherEnd_c {La l k : Int} {A : Int → Int} {μ : Mem} (h : LR μ La A) (l0 : 0 ≤ l) (l1 : l < A 2) (hk : nrm k = k) : f_X3_otherEnd La l k μ = some (oeM A l k, μ) := by
  obtain ⟨⟨_, _, k7⟩, ⟨g2, g20, g29⟩, _, _, _, g6, _⟩ := h
  obtain ⟨a1, a2, a3, b1, b2, b3, _⟩ := g6 l l0 l1
  unfold f_X3_otherEnd oeM
  rw [bn_eq (hasLane_eq g2 g20 g29 (nrm_id (by omega) (by omega))), if_pos (⟨l0, l1⟩ : 0 ≤ l ∧ l < A 2), if_neg (by decide : ¬ nrm 1 = 0), nrm_id (z := l) (by omega) (by omega), gd_pos (by omega), a1, b1, hk, nrm_id (z := A (11 + l)) (by omega) (by omega), nrm_id (z := A (20 + l)) (by omega) (by omega), gd_pos (by omega), gd_pos (by omega), gd_pos (by omega)]
  split
  · rfl
  · split <;> rfl
theorem otherEnd_m {La l k : Int} {μ ρ : Mem} (h : LR μ La (rowA ρ 0)) (l0 : 0 ≤ l) (l1 : l < ρ 112 2) (hk : nrm k = k) : f_X12_otherEnd 111 l k ρ = some (oeM (rowA ρ 0) l k, ρ) := by
  obtain ⟨⟨_, _, k7⟩, ⟨g2, g20, g29⟩, _, _, _, g6, _⟩ := h
  obtain ⟨a1, a2, a3, b1, b2, b3, _⟩ := g6 l l0 (by rw [rowA_0]; exact l1)
  simp only [rowA_0] at k7 g29 a2 a3 b2 b3
  unfold f_X12_otherEnd oeM
  rw [rowA_0, rowA_0, show (111 + 1 : Int) = 112 from rfl, nrm_id (z := 11 + l) (by omega) (by omega), nrm_id (z := 20 + l) (by omega) (by omega), gd_pos (by omega), hk, nrm_id (z := ρ 112 (11 + l)) (by omega) (by omega), nrm_id (z := ρ 112 (20 + l)) (by omega) (by omega), gd_pos (by omega), gd_pos (by omega), gd_pos (by omega)]
  split
  · rfl
  · split <;> rfl
theorem pow_back {P : Int} (h0 : 0 ≤ P) (h8 : P ≤ 8) : (2 : Int) ^ P.toNat ≤ 256 := by
  rcases (by omega : P = 0 ∨ P = 1 ∨ P = 2 ∨ P = 3 ∨ P = 4 ∨ P = 5 ∨ P = 6 ∨ P = 7 ∨ P = 8) with h | h | h | h | h | h | h | h | h <;> subst h <;> decide
/-- A course of the class, and what now is of the reference. -/
def JR (μ : Mem) (C : Int) (ρ : Mem) : Prop := isL (μ C 0) ∧ LR μ (μ C 0) (rowA ρ 0) ∧ CR μ C (rowA ρ 0) 55
/-- What is known of it, in the reference's numbers. -/
theorem now_is {μ ρ : Mem} {C : Int} (h : JR μ C ρ) : isL (μ C 0) ∧ LR μ (μ C 0) (rowA ρ 0) ∧ CR μ C (rowA ρ 0) 55 ∧ (0 ≤ ρ 112 2 ∧ ρ 112 2 ≤ 9) ∧ (0 ≤ ρ 112 3 ∧ ρ 112 3 ≤ 8) ∧ (1 ≤ ρ 112 1 ∧ ρ 112 1 ≤ 7) ∧ μ (μ C 0) 1 = ρ 112 2 ∧ (μ C 1 = ρ 112 55 ∧ 0 ≤ ρ 112 55 ∧ ρ 112 55 < ρ 112 1) ∧ (μ C 2 = ρ 112 66 ∧ 0 ≤ ρ 112 66 ∧ ρ 112 66 ≤ 9) ∧ (μ C 3 = ρ 112 65 ∧ 0 ≤ ρ 112 65 ∧ ρ 112 65 < 512) ∧
    (∀ l, 0 ≤ l → l < ρ 112 2 → μ (C + 1) l = ρ 112 (56 + l) ∧ 0 ≤ ρ 112 (56 + l) ∧ ρ 112 (56 + l) ≤ 6) := by
  obtain ⟨hL, hR, hC⟩ := h
  refine ⟨hL, hR, hC, ?_⟩
  obtain ⟨⟨_, k1, k2⟩, ⟨l1, l2, l3⟩, ⟨_, p1, p2⟩, _⟩ := hR
  obtain ⟨c1, c2, ⟨c3, c4, c5⟩, _, c6⟩ := hC
  simp only [rowA_0] at k1 k2 l1 l2 l3 p1 p2 c1 c2 c3 c4 c5 c6
  have := pow_back p1 p2
  exact ⟨⟨l2, l3⟩, ⟨p1, p2⟩, ⟨k1, k2⟩, l1, c1, c2, ⟨c3, c4, by simp only [Int.reduceAdd] at c5 ⊢; omega⟩, c6⟩
theorem op_worn (a : Int) (ha : nrm a = a) : Op2 (f_X11_worn 0 a) (f_X12_worn 111 a) := by
  intro μ ρ h
  have h' := RR_co (SaC_rfl μ) (SaR_thrown ρ 0) h
  generalize hρ : ms ρ 111 0 0 = ρ1 at h'
  obtain ⟨hL, hR, hC, ⟨L0, L9⟩, _, _, hl, _, ⟨r1, r2, r3⟩, ⟨_, b2, b3⟩, hd⟩ := now_is (C := 58) h'.2.2.1
  have hk := isL_k hL
  unfold f_X11_worn f_X12_worn
  rw [nm_eq, hρ, show (0 + 58 : Int) = 58 from rfl, gd_pos hk, bn_eq (hasLane_eq hl L0 L9 ha), bn_eq (isLane_eq L0 L9), nrl_nrm, ha]
  by_cases g : 0 ≤ a ∧ a < ρ1 112 2
  · obtain ⟨d1, d2, d3⟩ := hd a g.1 g.2
    rw [if_pos g, if_neg (by decide : ¬ nrm 1 = 0), if_neg (by decide : ¬ nrm 1 = 0), gd_pos (by omega), gd_pos hk, show (111 + 1 : Int) = 112 from rfl, nrm_id (z := 56 + a) (by omega) (by omega), gd_pos (by omega), d1, r1]
    obtain ⟨μ2, p1, p2⟩ := wornFrom_c hL hR g.1 (by rw [rowA_0]; exact g.2) d2 d3 r2 r3
    obtain ⟨ρ2, q1, q2⟩ := wornTo_m hR g.1 g.2 d2 d3 r2 r3 b2 b3
    rw [bn_eq p1, bn_eq q1]
    simp only [wp_some]
    exact ⟨trivial, RR_co (ScL_sa hL p2) (ScW_sa q2) h'⟩
  · rw [if_neg g, if_pos (by decide : nrm 0 = 0), if_pos (by decide : nrm 0 = 0)]
    simp only [wp_some]
    exact ⟨trivial, h'⟩
