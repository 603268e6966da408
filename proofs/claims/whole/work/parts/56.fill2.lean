theorem fil_m {μ : Mem} {l C D : Int} (hC : C = 58 ∨ C = 60) (l0 : 0 ≤ l) (D0 : 0 ≤ D) (D6 : D ≤ 6) : ∀ (r n : Nat) (ρ : Mem), r < n → (r : Int) ≤ D + 1 → l < ρ 112 2 → ρ 112 (56 + l) = D → JR μ C ρ →
    ∃ ρ', f_X12_fillingsOf_w2 n 111 l (D + 1 - r) ρ = some (filM (fun d => mayM (rowA ρ 0) l d (ρ 112 66) (ρ 112 65)) D r, ρ') ∧ ScW ρ ρ' := by
  intro r
  induction r with
  | zero =>
    intro n ρ h1 h2 l1 hD h
    obtain ⟨n, rfl⟩ : ∃ m, n = m + 1 := ⟨n - 1, by omega⟩
    obtain ⟨hL, hR, hK, ⟨L0, L9⟩, _⟩ := now_is h
    rw [f_X12_fillingsOf_w2, nrm_id (z := 56 + l) (by omega) (by omega), gd_pos (by omega), show (111 + 1 : Int) = 112 from rfl, hD, nrm_id (z := D) (by omega) (by omega), nrm_id (z := D + 1 - ((0 : Nat) : Int)) (by omega) (by omega), if_pos (by omega)]
    exact ⟨ρ, rfl, ScW_rf⟩
  | succ r ih =>
    intro n ρ h1 h2 l1 hD h
    obtain ⟨n, rfl⟩ : ∃ m, n = m + 1 := ⟨n - 1, by omega⟩
    obtain ⟨hL, hR, hK, ⟨L0, L9⟩, _, _, hl, _, ⟨r1, r2, r3⟩, ⟨b1, b2, b3⟩, hd⟩ := now_is h
    rw [f_X12_fillingsOf_w2, nrm_id (z := 56 + l) (by omega) (by omega), gd_pos (by omega), show (111 + 1 : Int) = 112 from rfl, hD, nrm_id (z := D) (by omega) (by omega), nrm_id (z := D + 1 - ((r + 1 : Nat) : Int)) (by omega) (by omega), if_neg (by omega), gd_pos (by omega), show D - (D + 1 - ((r + 1 : Nat) : Int)) = (r : Int) by omega]
    obtain ⟨ρ2, p1, p2⟩ := mayGo_m hR l0 l1 (d := (r : Int)) (by omega) (by omega) r2 r3 b2 b3
    rw [bn_eq p1, filM]
    have e112 : ∀ i, ρ2 112 i = ρ 112 i := fun i => p2 112 i (by decide) (by decide)
    have eA : rowA ρ2 0 = rowA ρ 0 := rowA_co (ScW_sa p2) 0
    rcases mayM_01 (rowA ρ 0) l (r : Int) (ρ 112 66) (ρ 112 65) with e | e <;> rw [e]
    · rw [if_pos (by decide : nrm 0 = 0), if_pos (rfl : (0 : Int) = 0)]
      obtain ⟨ρ3, q1, q2⟩ := ih n ρ2 (by omega) (by omega) (by rw [e112]; exact l1) (by rw [e112]; exact hD) (JR_co hC h ScL_rf p2).1
      rw [e112, e112, eA] at q1
      rw [show D + 1 - ((r + 1 : Nat) : Int) + 1 = D + 1 - (r : Int) by omega]
      exact ⟨ρ3, q1, ScW_tr p2 q2⟩
    · rw [if_neg (by decide : ¬ nrm 1 = 0), if_neg (by decide : ¬ (1 : Int) = 0), show D + 1 - ((r + 1 : Nat) : Int) = D - (r : Int) by omega]
      exact ⟨ρ2, rfl, p2⟩
/-- The fewest fillings of a lane. -/
def fillM (A : Int → Int) (l : Int) : Int := filM (fun d => mayM A l d (A 66) (A 65)) (A (56 + l)) (A (56 + l) + 1).toNat
theorem fillingsOf_c {μ ρ : Mem} {l C : Int} (hC : C = 58 ∨ C = 60) (kc : isK C 0) (h : JR μ C ρ) (l0 : 0 ≤ l) (l1 : l < ρ 112 2) : ∃ μ', f_X0_fillingsOf C l μ = some (fillM (rowA ρ 0) l, μ') ∧ ScL (μ C 0) μ μ' := by
  obtain ⟨hL, hR, hK, ⟨L0, L9⟩, _, _, hl, _, _, _, hd⟩ := now_is h
  obtain ⟨d1, d2, d3⟩ := hd l l0 l1
  have hdo : f_X0_depthOf C l μ = some (ρ 112 (56 + l), μ) := by
    unfold f_X0_depthOf
    rw [gd_pos (isL_k hL), bn_eq (hasLane_eq hl L0 L9 (nrm_id (by omega) (by omega))), if_pos (⟨l0, l1⟩ : 0 ≤ l ∧ l < ρ 112 2), if_neg (by decide : ¬ nrm 1 = 0), nrm_id (z := l) (by omega) (by omega), gd_pos (by omega), d1]
  obtain ⟨μ2, p1, p2⟩ := fil_c hC kc l0 l1 rfl d3 (ρ 112 (56 + l) + 1).toNat FU μ (by unfold FU; omega) (by omega) h rfl
  refine ⟨μ2, ?_, p2⟩
  unfold f_X0_fillingsOf fillM
  rw [bn_eq hdo]
  rw [show (((ρ 112 (56 + l) + 1).toNat : Int) - 1) = ρ 112 (56 + l) by omega] at p1
  simp only [rowA_0]
  exact p1
theorem fillingsOf_m {μ ρ : Mem} {l C : Int} (hC : C = 58 ∨ C = 60) (h : JR μ C ρ) (l0 : 0 ≤ l) (l1 : l < ρ 112 2) : ∃ ρ', f_X12_fillingsOf 111 l ρ = some (fillM (rowA ρ 0) l, ρ') ∧ ScW ρ ρ' := by
  obtain ⟨hL, hR, hK, ⟨L0, L9⟩, _, _, hl, _, _, _, hd⟩ := now_is h
  obtain ⟨d1, d2, d3⟩ := hd l l0 l1
  obtain ⟨ρ2, p1, p2⟩ := fil_m hC l0 d2 d3 (ρ 112 (56 + l) + 1).toNat FU ρ (by unfold FU; omega) (by omega) l1 rfl h
  refine ⟨ρ2, ?_, p2⟩
  unfold f_X12_fillingsOf fillM
  rw [show (ρ 112 (56 + l) + 1 - ((ρ 112 (56 + l) + 1).toNat : Int)) = 0 by omega] at p1
  simp only [rowA_0]
  exact p1
theorem op_fillings (a : Int) (ha : nrm a = a) : Op2 (f_X11_fillings 0 a) (f_X12_fillings 111 a) := by
  intro μ ρ h
  have h' := RR_co (SaC_rfl μ) (SaR_thrown ρ 0) h
  generalize hρ : ms ρ 111 0 0 = ρ1 at h'
  obtain ⟨hL, hR, hC, ⟨L0, L9⟩, _, _, hl, _⟩ := now_is (C := 58) h'.2.2.1
  have hk := isL_k hL
  unfold f_X11_fillings f_X12_fillings
  rw [nm_eq, hρ, show (0 + 58 : Int) = 58 from rfl, gd_pos hk, bn_eq (hasLane_eq hl L0 L9 ha), bn_eq (isLane_eq L0 L9), nrl_nrm, ha]
  by_cases g : 0 ≤ a ∧ a < ρ1 112 2
  · obtain ⟨μ2, p1, p2⟩ := fillingsOf_c (.inl rfl) kk_58 (C := 58) h'.2.2.1 g.1 g.2
    obtain ⟨ρ2, q1, q2⟩ := fillingsOf_m (.inl rfl) (C := 58) h'.2.2.1 g.1 g.2
    rw [if_pos g, if_neg (by decide : ¬ nrm 1 = 0), if_neg (by decide : ¬ nrm 1 = 0), bn_eq p1, bn_eq q1]
    simp only [wp_some]
    exact ⟨trivial, RR_co (ScL_sa hL p2) (ScW_sa q2) h'⟩
  · rw [if_neg g, if_pos (by decide : nrm 0 = 0), if_pos (by decide : nrm 0 = 0)]
    simp only [wp_some]
    exact ⟨trivial, h'⟩
