theorem sumTo_shift (f : Int → Int) (d : Nat) : f 0 + sumTo (fun j => f (1 + j)) d = sumTo f (d + 1) := by
  induction d with
  | zero => simp [sumTo]
  | succ d ih =>
    rw [sumTo, sumTo, ← Int.add_assoc, ih]
    rw [show (1 + (d : Int)) = ((d + 1 : Nat) : Int) by omega]
theorem sumTo_cg {f g : Int → Int} {d : Nat} (h : ∀ j : Int, 0 ≤ j → j < d → f j = g j) : sumTo f d = sumTo g d := by
  induction d with
  | zero => rfl
  | succ d ih =>
    rw [sumTo, sumTo, ih (fun j h1 h2 => h j h1 (by omega)), h d (by omega) (by omega)]
theorem depthSum_w {L : Int} {ρ : Mem} (hl : ρ 112 2 = L) (h9 : L ≤ 9) : ∀ (d i n : Nat), (i : Int) + d = L → d < n → ∀ s, f_X12_depthSum_w4 n 111 s i ρ = some (s + sumTo (fun j => ρ 112 (56 + (i + j))) d, ρ) := by
  intro d
  induction d with
  | zero =>
    intro i n h1 h2 s
    obtain ⟨n, rfl⟩ : ∃ m, n = m + 1 := ⟨n - 1, by omega⟩
    unfold f_X12_depthSum_w4
    rw [show (111 + 1 : Int) = 112 from rfl, hl, nrm_id (by omega) (by omega), nrm_id (by omega) (by omega), if_pos (by omega)]
    simp [sumTo]
  | succ d ih =>
    intro i n h1 h2 s
    obtain ⟨n, rfl⟩ : ∃ m, n = m + 1 := ⟨n - 1, by omega⟩
    unfold f_X12_depthSum_w4
    rw [show (111 + 1 : Int) = 112 from rfl, hl, nrm_id (by omega) (by omega), nrm_id (z := (i : Int)) (by omega) (by omega), if_neg (by omega), nrm_id (z := 56 + (i : Int)) (by omega) (by omega), gd_pos (by omega), nm_eq]
    have := ih (i + 1) n (by omega) (by omega) (s + ρ 112 (56 + i))
    rw [show ((i + 1 : Nat) : Int) = (i : Int) + 1 by omega] at this
    rw [this, ← sumTo_shift (fun j => ρ 112 (56 + (↑i + j))) d]
    simp only [Int.add_assoc, Int.add_zero]
theorem allDepths_eq {C La L : Int} {μ : Mem} (hL : μ C 0 = La) (hk : isK La 3) (hl : μ La 1 = L) (h0 : 0 ≤ L) (h9 : L ≤ 9) : f_X0_allDepths C μ = some (sumTo (fun j => μ (C + 1) j) L.toNat, μ) := by
  have := allDepths_w hL hk hl h9 L.toNat 0 FU (by omega) (by unfold FU; omega) 0
  simpa [f_X0_allDepths] using this
theorem depthSum_eq {L : Int} {ρ : Mem} (hl : ρ 112 2 = L) (h0 : 0 ≤ L) (h9 : L ≤ 9) : f_X12_depthSum 111 ρ = some (sumTo (fun j => ρ 112 (56 + j)) L.toNat, ρ) := by
  have := depthSum_w hl h9 L.toNat 0 FU (by omega) (by unfold FU; omega) 0
  simpa [f_X12_depthSum] using this
theorem isL_k {La : Int} (h : isL La) : isK La 3 := by
  rcases h with h | h | h | h <;> subst h
  · exact kk_6
  · exact kk_19
  · exact kk_32
  · exact kk_45
theorem sums_alike {μ ρ : Mem} {C o : Int} {A : Int → Int} (h : CR μ C A o) (d : Nat) (hd : (d : Int) ≤ A 2) : sumTo (fun j => μ (C + 1) j) d = sumTo (fun j => A (o + 1 + j)) d :=
  sumTo_cg (fun j h1 h2 => (h.2.2.2.2 j h1 (by omega)).1)
theorem op_count (a : Int) : Op2 (f_X11_count 0 a) (f_X12_count 111 a) := by
  intro μ ρ h
  have h' := RR_co (SaC_rfl μ) (SaR_thrown ρ 0) h
  generalize hρ : ms ρ 111 0 0 = ρ1 at h'
  have hr := h'
  obtain ⟨⟨t1, _⟩, _, ⟨hL, ⟨⟨l1, _⟩, ⟨l2, l20, l29⟩, ⟨l3, _⟩, l4, ⟨l5, _⟩, _⟩, hC⟩, ⟨hi, _⟩, _⟩ := h'
  have hk := isL_k hL
  obtain ⟨⟨c1, _⟩, ⟨c2, _⟩, ⟨c3, _⟩, c4, _⟩ := hC
  have d1 := allDepths_eq rfl hk l2 l20 l29
  have d2 := depthSum_eq (ρ := ρ1) (L := rowA ρ1 0 2) (by simp [rowA]) l20 l29
  have d3 := sums_alike (ρ := ρ1) (C := 58) (o := 55) ⟨⟨c1, by assumption⟩, ⟨c2, by assumption⟩, ⟨c3, by assumption⟩, c4, by assumption⟩ (rowA ρ1 0 2).toNat (by omega)
  simp only [rowA, Int.zero_add, Int.reduceAdd] at l1 l2 l3 l4 l5 c1 c2 c3 c4 d1 d2 d3
  unfold f_X11_count f_X12_count
  simp only [nm_eq, hρ, Int.zero_add, Int.reduceAdd, gd_pos hk, f_X2_kept, bn_eq d1, bn_eq d2, bn_eq rfl]
  by_cases g0 : nrm a = 0
  · simp only [if_pos g0, wp_some]; exact ⟨by rw [l1], hr⟩
  by_cases g1 : nrm a = 1
  · simp only [if_neg g0, if_pos g1, wp_some]; exact ⟨by rw [l2], hr⟩
  by_cases g2 : nrm a = 2
  · simp only [if_neg g0, if_neg g1, if_pos g2, wp_some]; exact ⟨by rw [l3], hr⟩
  by_cases g3 : nrm a = 3
  · simp only [if_neg g0, if_neg g1, if_neg g2, if_pos g3, wp_some]; exact ⟨by rw [c1], hr⟩
  by_cases g4 : nrm a = 4
  · simp only [if_neg g0, if_neg g1, if_neg g2, if_neg g3, if_pos g4, wp_some]; exact ⟨by rw [l5], hr⟩
  by_cases g5 : nrm a = 5
  · simp only [if_neg g0, if_neg g1, if_neg g2, if_neg g3, if_neg g4, if_pos g5, wp_some]; exact ⟨by rw [c2], hr⟩
  by_cases g6 : nrm a = 6
  · simp only [if_neg g0, if_neg g1, if_neg g2, if_neg g3, if_neg g4, if_neg g5, if_pos g6, wp_some]; exact ⟨by rw [c3], hr⟩
  by_cases g7 : nrm a = 7
  · simp only [if_neg g0, if_neg g1, if_neg g2, if_neg g3, if_neg g4, if_neg g5, if_neg g6, if_pos g7, wp_some]; exact ⟨by rw [d3], hr⟩
  by_cases g8 : nrm a = 8
  · simp only [if_neg g0, if_neg g1, if_neg g2, if_neg g3, if_neg g4, if_neg g5, if_neg g6, if_neg g7, if_pos g8, wp_some]; exact ⟨by rw [c4], hr⟩
  by_cases g9 : nrm a = 9
  · simp only [if_neg g0, if_neg g1, if_neg g2, if_neg g3, if_neg g4, if_neg g5, if_neg g6, if_neg g7, if_neg g8, if_pos g9, wp_some]; exact ⟨by rw [hi], hr⟩
  by_cases g10 : nrm a = 10
  · simp only [if_neg g0, if_neg g1, if_neg g2, if_neg g3, if_neg g4, if_neg g5, if_neg g6, if_neg g7, if_neg g8, if_neg g9, if_pos g10, wp_some]; exact ⟨by rw [t1], hr⟩
  by_cases g11 : nrm a = 11
  · simp only [if_neg g0, if_neg g1, if_neg g2, if_neg g3, if_neg g4, if_neg g5, if_neg g6, if_neg g7, if_neg g8, if_neg g9, if_neg g10, if_pos g11, wp_some]; exact ⟨by rw [l4], hr⟩
  simp only [if_neg g0, if_neg g1, if_neg g2, if_neg g3, if_neg g4, if_neg g5, if_neg g6, if_neg g7, if_neg g8, if_neg g9, if_neg g10, if_neg g11, wp_some]
  exact ⟨trivial, hr⟩
