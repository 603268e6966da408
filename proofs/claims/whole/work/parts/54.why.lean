theorem whyNo_c {μ ρ : Mem} {l C : Int} (kc : isK C 0) (h : JR μ C ρ) (hn : nrm l = l) : ∃ μ', f_X0_whyNoGoing C l μ = some (whyM (rowA ρ 0) l, μ') ∧ ScL (μ C 0) μ μ' := by
  obtain ⟨hL, hR, hC, ⟨L0, L9⟩, _, ⟨K1, K7⟩, hl, ⟨c1, c2, c3⟩, ⟨r1, r2, r3⟩, ⟨b1, b2, b3⟩, hd⟩ := now_is h
  have hk := isL_k hL
  unfold f_X0_whyNoGoing whyM
  rw [gd_pos hk, bn_eq (hasLane_eq hl L0 L9 hn), rowA_0, rowA_0, rowA_0, rowA_0, rowA_0]
  by_cases g : 0 ≤ l ∧ l < ρ 112 2
  · obtain ⟨d1, d2, d3⟩ := hd l g.1 g.2
    rw [if_pos g, if_pos g, if_neg (by decide : ¬ nrm 1 = 0), gd_pos hk, c1, bn_eq (otherEnd_c hR g.1 (by rw [rowA_0]; exact g.2) (nrm_id (by omega) (by omega)))]
    have ho := oeM_in (k := ρ 112 55) hR g.1 (by rw [rowA_0]; exact g.2)
    rw [rowA_0] at ho
    rw [nrm_id (z := oeM (rowA ρ 0) l (ρ 112 55)) (by omega) (by omega), show nrm (-1) = -1 from rfl]
    by_cases q : oeM (rowA ρ 0) l (ρ 112 55) = -1
    · rw [if_pos q, if_pos q]; exact ⟨μ, rfl, ScL_rf⟩
    · rw [if_neg q, if_neg q, hn, gd_pos (by omega), gd_pos hk, d1]
      obtain ⟨μ2, p1, p2⟩ := mayGo_c hL hR g.1 (by rw [rowA_0]; exact g.2) d2 d3 kc r1 b1 r2 r3 b2 b3
      rw [bn_eq p1]
      refine ⟨μ2, ?_, p2⟩
      rcases mayM_01 (rowA ρ 0) l (ρ 112 (56 + l)) (ρ 112 66) (ρ 112 65) with e | e <;> rw [e]
      · rw [if_pos (by decide : nrm 0 = 0), if_pos (rfl : (0 : Int) = 0)]
      · rw [if_neg (by decide : ¬ nrm 1 = 0), if_neg (by decide : ¬ (1 : Int) = 0)]
  · rw [if_neg g, if_neg g, if_pos (by decide : nrm 0 = 0)]; exact ⟨μ, rfl, ScL_rf⟩
theorem op_why (a : Int) (ha : nrm a = a) : Op2 (f_X11_why 0 a) (f_X12_why 111 a) := by
  intro μ ρ h
  have h' := RR_co (SaC_rfl μ) (SaR_thrown ρ 0) h
  generalize hρ : ms ρ 111 0 0 = ρ1 at h'
  obtain ⟨μ2, p1, p2⟩ := whyNo_c kk_58 (C := 58) h'.2.2.1 ha
  obtain ⟨ρ2, q1, q2⟩ := whyGo_m (C := 58) h'.2.2.1 (l := nrm a) (nrl_nrm a)
  unfold f_X11_why f_X12_why
  rw [nm_eq, hρ, show (0 + 58 : Int) = 58 from rfl, bn_eq p1, bn_eq q1, ha]
  simp only [wp_some]
  exact ⟨trivial, RR_co (ScL_sa h'.2.2.1.1 p2) (ScW_sa q2) h'⟩
theorem op_lane (a b : Int) (ha : nrm a = a) : Op2 (f_X11_lane 0 a b) (f_X12_lane 111 a b) := by
  intro μ ρ h
  have h' := RR_co (SaC_rfl μ) (SaR_thrown ρ 0) h
  generalize hρ : ms ρ 111 0 0 = ρ1 at h'
  obtain ⟨hL, hR, hC, ⟨L0, L9⟩, _, _, hl, _, ⟨r1, r2, r3⟩, ⟨_, b2, b3⟩, hd⟩ := now_is (C := 58) h'.2.2.1
  have hk := isL_k hL
  unfold f_X11_lane f_X12_lane
  rw [nm_eq, hρ, show (0 + 58 : Int) = 58 from rfl, gd_pos hk, bn_eq (hasLane_eq hl L0 L9 ha), bn_eq (isLane_eq L0 L9), nrl_nrm, ha]
  by_cases g : 0 ≤ a ∧ a < ρ1 112 2
  · obtain ⟨d1, d2, d3⟩ := hd a g.1 g.2
    obtain ⟨_, _, _, _, _, g6, _⟩ := hR
    obtain ⟨x1, _, _, x2, _, _, _, x3, _, _, x4, _⟩ := g6 a g.1 (by rw [rowA_0]; exact g.2)
    rw [rowA_0] at x1 x2 x3 x4
    obtain ⟨μ2, p1, p2⟩ := isOpen_c kk_58 (C := 58) h'.2.2.1 g.1 g.2
    obtain ⟨ρ2, q1, q2⟩ := isOpen_m (C := 58) h'.2.2.1 g.1 g.2
    rw [if_pos g, if_neg (by decide : ¬ nrm 1 = 0), if_neg (by decide : ¬ nrm 1 = 0)]
    by_cases g0 : nrm b = 0
    · rw [if_pos g0, if_pos g0, gd_pos hk, gd_pos (by omega), nrm_id (z := 11 + a) (by omega) (by omega), gd_pos (by omega), x1]
      simp only [wp_some]; exact ⟨rfl, h'⟩
    by_cases g1 : nrm b = 1
    · rw [if_neg g0, if_neg g0, if_pos g1, if_pos g1, gd_pos hk, gd_pos (by omega), nrm_id (z := 20 + a) (by omega) (by omega), gd_pos (by omega), x2]
      simp only [wp_some]; exact ⟨rfl, h'⟩
    by_cases g2 : nrm b = 2
    · rw [if_neg g0, if_neg g0, if_neg g1, if_neg g1, if_pos g2, if_pos g2, gd_pos (by omega), nrm_id (z := 56 + a) (by omega) (by omega), gd_pos (by omega), d1]
      simp only [wp_some]; exact ⟨rfl, h'⟩
    by_cases g3 : nrm b = 3
    · rw [if_neg g0, if_neg g0, if_neg g1, if_neg g1, if_neg g2, if_neg g2, if_pos g3, if_pos g3, gd_pos hk, gd_pos (by omega), nrm_id (z := 29 + a) (by omega) (by omega), gd_pos (by omega), x3]
      simp only [wp_some]; exact ⟨rfl, h'⟩
    by_cases g4 : nrm b = 4
    · rw [if_neg g0, if_neg g0, if_neg g1, if_neg g1, if_neg g2, if_neg g2, if_neg g3, if_neg g3, if_pos g4, if_pos g4, gd_pos hk, gd_pos (by omega), nrm_id (z := 38 + a) (by omega) (by omega), gd_pos (by omega), x4]
      simp only [wp_some]; exact ⟨rfl, h'⟩
    by_cases g5 : nrm b = 5
    · rw [if_neg g0, if_neg g0, if_neg g1, if_neg g1, if_neg g2, if_neg g2, if_neg g3, if_neg g3, if_neg g4, if_neg g4, if_pos g5, if_pos g5, bn_eq p1, bn_eq q1]
      have hr := RR_co (ScL_sa h'.2.2.1.1 p2) (ScW_sa q2) h'
      rcases mayM_01 (rowA ρ1 0) a (ρ1 112 (56 + a)) (ρ1 112 66) (ρ1 112 65) with e | e <;> rw [e]
      · rw [if_pos (by decide : nrm 0 = 0), if_pos (by decide : nrm 0 = 0)]
        simp only [wp_some]; exact ⟨trivial, hr⟩
      · rw [if_neg (by decide : ¬ nrm 1 = 0), if_neg (by decide : ¬ nrm 1 = 0)]
        simp only [wp_some]; exact ⟨trivial, hr⟩
    rw [if_neg g0, if_neg g0, if_neg g1, if_neg g1, if_neg g2, if_neg g2, if_neg g3, if_neg g3, if_neg g4, if_neg g4, if_neg g5, if_neg g5]
    simp only [wp_some]; exact ⟨trivial, h'⟩
  · rw [if_neg g, if_pos (by decide : nrm 0 = 0), if_pos (by decide : nrm 0 = 0)]
    simp only [wp_some]
    exact ⟨trivial, h'⟩
