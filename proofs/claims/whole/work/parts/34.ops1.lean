theorem kcmp_neg {a b : Int} : nrm (kcmp a b) < 0 ↔ nrl a < nrl b := by
  unfold kcmp
  split
  · have : ¬ nrm 1 < 0 := by decide
    omega
  · split
    · have : ¬ nrm 0 < 0 := by decide
      omega
    · have : nrm (-1) < 0 := by decide
      omega
theorem kcmp_pos {a b : Int} : 0 < nrm (kcmp a b) ↔ nrl b < nrl a := by
  unfold kcmp
  split
  · have : 0 < nrm 1 := by decide
    omega
  · split
    · have : ¬ 0 < nrm 0 := by decide
      omega
    · have : ¬ 0 < nrm (-1) := by decide
      omega
theorem kcmp_zero {a b : Int} : nrm (kcmp a b) = 0 ↔ nrl a = nrl b := by
  unfold kcmp
  split
  · have : nrm 1 ≠ 0 := by decide
    omega
  · split
    · have : nrm 0 = 0 := by decide
      omega
    · have : nrm (-1) ≠ 0 := by decide
      omega
theorem nrl_nrm (z : Int) : nrl (nrm z) = nrm z := nrl_id (by have := nrm_lo z; omega) (by have := nrm_hi z; omega)
theorem within_eq {a b c : Int} (μ : Mem) : f_X12_within a b c μ = some (if nrl b ≤ nrl a ∧ nrl a ≤ nrl c then 1 else 0, μ) := by
  unfold f_X12_within
  simp only [kcmp_neg, kcmp_pos]
  by_cases p : nrl a < nrl b
  · rw [if_pos p, if_neg (by omega)]
  · rw [if_neg p]
    by_cases q : nrl c < nrl a
    · rw [if_pos q, if_neg (by omega)]
    · rw [if_neg q, if_pos (by omega)]
/-- Within, with an int, between two bounds that fit. -/
theorem within_int {a b c : Int} (μ : Mem) (ha : nrm a = a) (hb : nrm b = b) (hc : nrm c = c) : f_X12_within (nrm a) b c μ = some (if b ≤ a ∧ a ≤ c then 1 else 0, μ) := by
  rw [within_eq, nrl_nrm, ha, ← hb, nrl_nrm, ← hc, nrl_nrm, hb, hc]
theorem bn_within {a b c : Int} {μ : Mem} {k : Int → Mem → Option (Int × Mem)} (ha : nrm a = a) (hb : nrm b = b) (hc : nrm c = c) : bn (f_X12_within (nrm a) b c μ) k = k (if b ≤ a ∧ a ≤ c then 1 else 0) μ := bn_eq (within_int μ ha hb hc)

theorem op_fault (a : Int) : Op2 (f_X11_fault 0 a) (f_X12_fault 111 a) := by
  intro μ ρ h
  have h' := RR_co (SaC_rfl μ) (SaR_thrown ρ 0) h
  obtain ⟨_, ⟨e1, e2, _⟩, _⟩ := h'
  have h' := RR_co (SaC_rfl μ) (SaR_thrown ρ 0) h
  unfold f_X11_fault f_X12_fault
  simp only [nm_eq, show nrm 1 = 1 from rfl]
  by_cases c0 : nrm a = 0
  · simp only [if_pos c0, wp_some]
    exact ⟨by rw [e1], h'⟩
  · by_cases c1 : nrm a = 1
    · simp only [if_neg c0, if_pos c1, wp_some]
      exact ⟨by rw [e2], h'⟩
    · simp only [if_neg c0, if_neg c1, wp_some]
      exact ⟨trivial, h'⟩

/-- The first n numbers of a row together. -/
def sumTo (f : Int → Int) : Nat → Int
  | 0 => 0
  | n + 1 => sumTo f n + f n
theorem allDepths_w {C La L : Int} {μ : Mem} (hL : μ C 0 = La) (hk : isK La 3) (hl : μ La 1 = L) (h9 : L ≤ 9) : ∀ (d i n : Nat), (i : Int) + d = L → d < n → ∀ s, f_X0_allDepths_w4 n C s i μ = some (s + sumTo (fun j => μ (C + 1) (i + j)) d, μ) := by
  intro d
  induction d with
  | zero =>
    intro i n h1 h2 s
    obtain ⟨n, rfl⟩ : ∃ m, n = m + 1 := ⟨n - 1, by omega⟩
    unfold f_X0_allDepths_w4
    rw [hL, gd_pos hk, hl, nrm_id (by omega) (by omega), nrm_id (by omega) (by omega), if_pos (by omega)]
    simp [sumTo]
  | succ d ih =>
    intro i n h1 h2 s
    obtain ⟨n, rfl⟩ : ∃ m, n = m + 1 := ⟨n - 1, by omega⟩
    unfold f_X0_allDepths_w4
    rw [hL, gd_pos hk, hl, nrm_id (by omega) (by omega), nrm_id (z := (i : Int)) (by omega) (by omega), if_neg (by omega), if_neg (by show ¬ ((9 : Int) ≤ i); omega), gd_pos (by omega), nm_eq]
    have := ih (i + 1) n (by omega) (by omega) (s + μ (C + 1) i)
    rw [show ((i + 1 : Nat) : Int) = (i : Int) + 1 by omega] at this
    rw [this]
    have e : ∀ d : Nat, μ (C + 1) i + sumTo (fun j => μ (C + 1) (↑i + 1 + j)) d = sumTo (fun j => μ (C + 1) (↑i + j)) (d + 1) := by
      intro d
      induction d with
      | zero => simp [sumTo]
      | succ d ih =>
        rw [sumTo, sumTo, ← Int.add_assoc, ih]
        rw [show ((↑i : Int) + 1 + ↑d) = ↑i + ((d + 1 : Nat) : Int) by omega]
    rw [← e, Int.add_assoc]
