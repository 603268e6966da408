theorem mayM_01 (A : Int → Int) (l d r b : Int) : mayM A l d r b = 0 ∨ mayM A l d r b = 1 := by
  unfold mayM
  split
  · split
    · exact .inr rfl
    · exact .inl rfl
  · split
    · exact .inr rfl
    · exact .inl rfl
theorem isOpen_c {μ ρ : Mem} {l C : Int} (kc : isK C 0) (h : JR μ C ρ) (l0 : 0 ≤ l) (l1 : l < ρ 112 2) : ∃ μ', f_X0_isOpen C l μ = some (mayM (rowA ρ 0) l (ρ 112 (56 + l)) (ρ 112 66) (ρ 112 65), μ') ∧ ScL (μ C 0) μ μ' := by
  obtain ⟨hL, hR, hC, ⟨L0, L9⟩, _, _, hl, _, ⟨r1, r2, r3⟩, ⟨b1, b2, b3⟩, hd⟩ := now_is h
  have hk := isL_k hL
  obtain ⟨d1, d2, d3⟩ := hd l l0 l1
  obtain ⟨μ2, p1, p2⟩ := mayGo_c hL hR l0 (by rw [rowA_0]; exact l1) d2 d3 kc r1 b1 r2 r3 b2 b3
  unfold f_X0_isOpen
  rw [gd_pos hk, bn_eq (hasLane_eq hl L0 L9 (nrm_id (by omega) (by omega))), if_pos (⟨l0, l1⟩ : 0 ≤ l ∧ l < ρ 112 2), if_neg (by decide : ¬ nrm 1 = 0), nrm_id (z := l) (by omega) (by omega), gd_pos (by omega), gd_pos hk, d1, bn_eq p1]
  refine ⟨μ2, ?_, p2⟩
  rcases mayM_01 (rowA ρ 0) l (ρ 112 (56 + l)) (ρ 112 66) (ρ 112 65) with e | e <;> rw [e]
  · rw [if_pos (by decide : nrm 0 = 0)]
  · rw [if_neg (by decide : ¬ nrm 1 = 0)]
theorem isOpen_m {μ ρ : Mem} {l C : Int} (h : JR μ C ρ) (l0 : 0 ≤ l) (l1 : l < ρ 112 2) : ∃ ρ', f_X12_isOpen 111 l ρ = some (mayM (rowA ρ 0) l (ρ 112 (56 + l)) (ρ 112 66) (ρ 112 65), ρ') ∧ ScW ρ ρ' := by
  obtain ⟨hL, hR, hC, ⟨L0, L9⟩, _, _, hl, _, ⟨r1, r2, r3⟩, ⟨b1, b2, b3⟩, hd⟩ := now_is h
  obtain ⟨d1, d2, d3⟩ := hd l l0 l1
  obtain ⟨ρ2, p1, p2⟩ := mayGo_m hR l0 l1 d2 d3 r2 r3 b2 b3
  unfold f_X12_isOpen
  rw [nrm_id (z := 56 + l) (by omega) (by omega), gd_pos (by omega), show (111 + 1 : Int) = 112 from rfl, bn_eq p1]
  refine ⟨ρ2, ?_, p2⟩
  rcases mayM_01 (rowA ρ 0) l (ρ 112 (56 + l)) (ρ 112 66) (ρ 112 65) with e | e <;> rw [e]
  · rw [gd_pos (.inl rfl)]
  · rw [gd_pos (.inr rfl)]
/-- Why it can't go by a lane; 0. -/
def whyM (A : Int → Int) (l : Int) : Int := if 0 ≤ l ∧ l < A 2 then (if oeM A l (A 55) = -1 then 2 else if mayM A l (A (56 + l)) (A 66) (A 65) = 0 then 3 else 0) else 1
theorem oeM_in {La l k : Int} {A : Int → Int} {μ : Mem} (h : LR μ La A) (l0 : 0 ≤ l) (l1 : l < A 2) : -1 ≤ oeM A l k ∧ oeM A l k < A 1 := by
  obtain ⟨⟨_, k0, k7⟩, _, _, _, _, g6, _⟩ := h
  obtain ⟨a1, a2, a3, b1, b2, b3, _⟩ := g6 l l0 l1
  unfold oeM
  split
  · omega
  · split <;> omega
theorem whyGo_m {μ ρ : Mem} {l C : Int} (h : JR μ C ρ) (hn : nrl l = l) : ∃ ρ', f_X12_whyGo 111 l ρ = some (whyM (rowA ρ 0) l, ρ') ∧ ScW ρ ρ' := by
  obtain ⟨hL, hR, hC, ⟨L0, L9⟩, _, ⟨K1, K7⟩, hl, ⟨c1, c2, c3⟩, ⟨r1, r2, r3⟩, ⟨b1, b2, b3⟩, hd⟩ := now_is h
  unfold f_X12_whyGo whyM
  rw [bn_eq (isLane_eq L0 L9), hn, rowA_0, rowA_0, rowA_0, rowA_0, rowA_0]
  by_cases g : 0 ≤ l ∧ l < ρ 112 2
  · rw [if_pos g, if_pos g, if_neg (by decide : ¬ nrm 1 = 0), show (111 + 1 : Int) = 112 from rfl, bn_eq (otherEnd_m hR g.1 g.2 (nrm_id (by omega) (by omega)))]
    have ho := oeM_in (k := ρ 112 55) hR g.1 (by rw [rowA_0]; exact g.2)
    rw [rowA_0] at ho
    rw [nrm_id (z := oeM (rowA ρ 0) l (ρ 112 55)) (by omega) (by omega), show nrm (-1) = -1 from rfl]
    by_cases q : oeM (rowA ρ 0) l (ρ 112 55) = -1
    · rw [if_pos q, if_pos q]; exact ⟨ρ, rfl, ScW_rf⟩
    · rw [if_neg q, if_neg q]
      obtain ⟨ρ2, p1, p2⟩ := isOpen_m h g.1 g.2
      rw [bn_eq p1]
      refine ⟨ρ2, ?_, p2⟩
      rcases mayM_01 (rowA ρ 0) l (ρ 112 (56 + l)) (ρ 112 66) (ρ 112 65) with e | e <;> rw [e]
      · rw [if_pos (by decide : nrm 0 = 0), if_pos (rfl : (0 : Int) = 0)]
      · rw [if_neg (by decide : ¬ nrm 1 = 0), if_neg (by decide : ¬ (1 : Int) = 0)]
  · rw [if_neg g, if_neg g, if_pos (by decide : nrm 0 = 0)]; exact ⟨ρ, rfl, ScW_rf⟩
