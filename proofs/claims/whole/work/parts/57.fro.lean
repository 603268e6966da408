/-- How often it can go to and fro, from a depth on, of r times that are left. -/
def froM (A : Int → Int) (l : Int) : Nat → Int → Int
  | 0, _ => 0
  | r + 1, d => if mayM A l d (A 66) (A 65) = 0 then 0 else 1 + froM A l r (wornM A l d (A 66))
theorem cut6_in (z : Int) : 0 ≤ cut6 z ∧ cut6 z ≤ 6 := by
  unfold cut6
  split
  · split <;> omega
  · omega
theorem wornM_in {A : Int → Int} {l d r : Int} (h0 : 0 ≤ d) (h6 : d ≤ 6) : 0 ≤ wornM A l d r ∧ wornM A l d r ≤ 6 := by
  unfold wornM
  split
  · exact cut6_in _
  · split
    · omega
    · exact cut6_in _
theorem fro_c {ρ : Mem} {l La : Int} (l0 : 0 ≤ l) (l1 : l < ρ 112 2) : ∀ (r n : Nat) (d : Int) (μ : Mem), r < n → r ≤ 100 → 0 ≤ d → d ≤ 6 → JR μ 58 ρ → μ 58 0 = La →
    ∃ μ', f_X11_toAndFro_w29 n 0 l d (100 - (r : Int)) μ = some (100 - (r : Int) + froM (rowA ρ 0) l r d, μ') ∧ ScL La μ μ' := by
  intro r
  induction r with
  | zero =>
    intro n d μ h1 h2 d0 d6 h hLa
    obtain ⟨n, rfl⟩ : ∃ m, n = m + 1 := ⟨n - 1, by omega⟩
    rw [f_X11_toAndFro_w29, if_pos (by decide)]
    refine ⟨μ, ?_, ScL_rf⟩
    rw [froM, Int.add_zero]
  | succ r ih =>
    intro n d μ h1 h2 d0 d6 h hLa
    obtain ⟨n, rfl⟩ : ∃ m, n = m + 1 := ⟨n - 1, by omega⟩
    obtain ⟨hL, hR, hK, ⟨L0, L9⟩, _, _, hl, _, ⟨r1, r2, r3⟩, ⟨b1, b2, b3⟩, hd⟩ := now_is h
    have hk := isL_k hL
    rw [f_X11_toAndFro_w29, nrm_id (z := 100 - ((r + 1 : Nat) : Int)) (by omega) (by omega), if_neg (by show ¬ ((100 : Int) ≤ 100 - ((r + 1 : Nat) : Int)); omega), show (0 + 58 : Int) = 58 from rfl, gd_pos hk]
    obtain ⟨μ2, p1, p2⟩ := mayGo_c hL hR l0 (by rw [rowA_0]; exact l1) d0 d6 kk_58 r1 b1 r2 r3 b2 b3
    rw [bn_eq p1, froM, rowA_0, rowA_0]
    obtain ⟨j1, j2⟩ := JR_co (ρ' := ρ) (.inl rfl) h p2 ScW_rf
    rw [hLa] at p2
    rcases mayM_01 (rowA ρ 0) l d (ρ 112 66) (ρ 112 65) with e | e <;> rw [e]
    · rw [if_pos (by decide : nrm 0 = 0), if_pos (rfl : (0 : Int) = 0), Int.add_zero]
      exact ⟨μ2, rfl, p2⟩
    · rw [if_neg (by decide : ¬ nrm 1 = 0), if_neg (by decide : ¬ (1 : Int) = 0)]
      obtain ⟨hL2, hR2, _, _, _, _, hl2, _, ⟨s1, s2, s3⟩, _, _⟩ := now_is j1
      rw [gd_pos (isL_k hL2), s1]
      obtain ⟨μ3, q1, q2⟩ := wornFrom_c hL2 hR2 l0 (by rw [rowA_0]; exact l1) d0 d6 r2 r3
      rw [bn_eq q1]
      obtain ⟨k1, k2⟩ := JR_co (ρ' := ρ) (.inl rfl) j1 q2 ScW_rf
      rw [j2, hLa] at q2
      have w := wornM_in (A := rowA ρ 0) (l := l) (r := ρ 112 66) d0 d6
      obtain ⟨μ4, o1, o2⟩ := ih n (wornM (rowA ρ 0) l d (ρ 112 66)) μ3 (by omega) (by omega) w.1 w.2 k1 (k2.trans (j2.trans hLa))
      rw [show 100 - ((r + 1 : Nat) : Int) + 1 = 100 - (r : Int) by omega, o1]
      refine ⟨μ4, ?_, ScL_tr p2 (ScL_tr q2 o2)⟩
      congr 2
      omega
