theorem fro_m {μ : Mem} {l : Int} (l0 : 0 ≤ l) : ∀ (r n : Nat) (d : Int) (ρ : Mem), r < n → r ≤ 100 → 0 ≤ d → d ≤ 6 → l < ρ 112 2 → JR μ 58 ρ →
    ∃ ρ', f_X12_toAndFro_w29 n 111 l d (100 - (r : Int)) ρ = some (100 - (r : Int) + froM (rowA ρ 0) l r d, ρ') ∧ ScW ρ ρ' := by
  intro r
  induction r with
  | zero =>
    intro n d ρ h1 h2 d0 d6 l1 h
    obtain ⟨n, rfl⟩ : ∃ m, n = m + 1 := ⟨n - 1, by omega⟩
    rw [f_X12_toAndFro_w29, if_pos (by decide)]
    refine ⟨ρ, ?_, ScW_rf⟩
    rw [froM, Int.add_zero]
  | succ r ih =>
    intro n d ρ h1 h2 d0 d6 l1 h
    obtain ⟨n, rfl⟩ : ∃ m, n = m + 1 := ⟨n - 1, by omega⟩
    obtain ⟨hL, hR, hK, ⟨L0, L9⟩, _, _, hl, _, ⟨r1, r2, r3⟩, ⟨b1, b2, b3⟩, hd⟩ := now_is h
    rw [f_X12_toAndFro_w29, nrm_id (z := 100 - ((r + 1 : Nat) : Int)) (by omega) (by omega), if_neg (by show ¬ ((100 : Int) ≤ 100 - ((r + 1 : Nat) : Int)); omega)]
    obtain ⟨ρ2, p1, p2⟩ := mayGo_m hR l0 l1 d0 d6 r2 r3 b2 b3
    rw [bn_eq p1, froM, rowA_0, rowA_0]
    have e112 : ∀ i, ρ2 112 i = ρ 112 i := fun i => p2 112 i (by decide) (by decide)
    have eA : rowA ρ2 0 = rowA ρ 0 := rowA_co (ScW_sa p2) 0
    obtain ⟨j1, _⟩ := JR_co (.inl rfl) h ScL_rf p2
    rcases mayM_01 (rowA ρ 0) l d (ρ 112 66) (ρ 112 65) with e | e <;> rw [e]
    · rw [if_pos (by decide : nrm 0 = 0), if_pos (rfl : (0 : Int) = 0), Int.add_zero]
      exact ⟨ρ2, rfl, p2⟩
    · rw [if_neg (by decide : ¬ nrm 1 = 0), if_neg (by decide : ¬ (1 : Int) = 0), show (111 + 1 : Int) = 112 from rfl, e112]
      obtain ⟨ρ3, q1, q2⟩ := wornTo_m j1.2.1 l0 (by rw [e112]; exact l1) d0 d6 r2 r3 (by rw [e112]; exact b2) (by rw [e112]; exact b3)
      rw [eA] at q1
      rw [bn_eq q1]
      obtain ⟨k1, _⟩ := JR_co (.inl rfl) j1 ScL_rf q2
      have f112 : ∀ i, ρ3 112 i = ρ2 112 i := fun i => q2 112 i (by decide) (by decide)
      have fA : rowA ρ3 0 = rowA ρ2 0 := rowA_co (ScW_sa q2) 0
      have w := wornM_in (A := rowA ρ 0) (l := l) (r := ρ 112 66) d0 d6
      obtain ⟨ρ4, o1, o2⟩ := ih n (wornM (rowA ρ 0) l d (ρ 112 66)) ρ3 (by omega) (by omega) w.1 w.2 (by rw [f112, e112]; exact l1) k1
      rw [fA, eA] at o1
      rw [show 100 - ((r + 1 : Nat) : Int) + 1 = 100 - (r : Int) by omega, o1]
      refine ⟨ρ4, ?_, ScW_tr p2 (ScW_tr q2 o2)⟩
      congr 2
      omega
theorem op_toAndFro (a : Int) (ha : nrm a = a) : Op2 (f_X11_toAndFro 0 a) (f_X12_toAndFro 111 a) := by
  intro μ ρ h
  have h' := RR_co (SaC_rfl μ) (SaR_thrown ρ 0) h
  generalize hρ : ms ρ 111 0 0 = ρ1 at h'
  obtain ⟨hL, hR, hC, ⟨L0, L9⟩, _, _, hl, _, _, _, hd⟩ := now_is (C := 58) h'.2.2.1
  have hk := isL_k hL
  unfold f_X11_toAndFro f_X12_toAndFro
  rw [nm_eq, hρ, show (0 + 58 : Int) = 58 from rfl, gd_pos hk, bn_eq (hasLane_eq hl L0 L9 ha), bn_eq (isLane_eq L0 L9), nrl_nrm, ha]
  by_cases g : 0 ≤ a ∧ a < ρ1 112 2
  · obtain ⟨d1, d2, d3⟩ := hd a g.1 g.2
    obtain ⟨μ2, p1, p2⟩ := fro_c g.1 g.2 100 FU (ρ1 112 (56 + a)) μ (by unfold FU; omega) (by omega) d2 d3 h'.2.2.1 rfl
    obtain ⟨ρ2, q1, q2⟩ := fro_m g.1 100 FU (ρ1 112 (56 + a)) ρ1 (by unfold FU; omega) (by omega) d2 d3 g.2 h'.2.2.1
    rw [show (100 - ((100 : Nat) : Int)) = 0 from rfl] at p1 q1
    rw [if_pos g, if_neg (by decide : ¬ nrm 1 = 0), if_neg (by decide : ¬ nrm 1 = 0), gd_pos (by omega), nm_eq, d1, p1, nrm_id (z := 56 + a) (by omega) (by omega), gd_pos (by omega), nm_eq, show (111 + 1 : Int) = 112 from rfl, q1]
    simp only [wp_some]
    exact ⟨trivial, RR_co (ScL_sa hL p2) (ScW_sa q2) h'⟩
  · rw [if_neg g, if_pos (by decide : nrm 0 = 0), if_pos (by decide : nrm 0 = 0)]
    simp only [wp_some]
    exact ⟨trivial, h'⟩
