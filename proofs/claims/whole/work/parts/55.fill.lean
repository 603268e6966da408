theorem JR_co {μ μ' ρ ρ' : Mem} {C : Int} (hC : C = 58 ∨ C = 60) (h : JR μ C ρ) (s : ScL (μ C 0) μ μ') (t : ScW ρ ρ') : JR μ' C ρ' ∧ μ' C 0 = μ C 0 := by
  obtain ⟨hL, hR, hK⟩ := h
  have hL' := hL
  unfold isL at hL'
  have e : ∀ i, μ' C i = μ C i := fun i => s C i (by omega) (by omega) (by omega)
  have e1 : ∀ i, μ' (C + 1) i = μ (C + 1) i := fun i => s (C + 1) i (by omega) (by omega) (by omega)
  have eA : rowA ρ' 0 = rowA ρ 0 := rowA_co (ScW_sa t) 0
  refine ⟨?_, e 0⟩
  unfold JR
  rw [e 0, eA]
  refine ⟨hL, LR_co hL ?_ hR, CR_co e e1 hK⟩
  intro c i c1 c2 c3
  exact s c i (by omega) (by omega) (by omega)
/-- The fewest fillings behind which it may go, from a depth downward. -/
def filM (may : Int → Int) (D : Int) : Nat → Int
  | 0 => -1
  | r + 1 => if may r = 0 then filM may D r else D - r
theorem fil_c {ρ : Mem} {l C D La : Int} (hC : C = 58 ∨ C = 60) (kc : isK C 0) (l0 : 0 ≤ l) (l1 : l < ρ 112 2) (hD : ρ 112 (56 + l) = D) (D6 : D ≤ 6) : ∀ (r n : Nat) (μ : Mem), r < n → (r : Int) ≤ D + 1 → JR μ C ρ → μ C 0 = La →
    ∃ μ', f_X0_fillingsOf_w6 n C l ((r : Int) - 1) μ = some (filM (fun d => mayM (rowA ρ 0) l d (ρ 112 66) (ρ 112 65)) D r, μ') ∧ ScL La μ μ' := by
  intro r
  induction r with
  | zero =>
    intro n μ h1 h2 h hLa
    obtain ⟨n, rfl⟩ : ∃ m, n = m + 1 := ⟨n - 1, by omega⟩
    rw [f_X0_fillingsOf_w6, if_pos (by decide)]
    exact ⟨μ, rfl, ScL_rf⟩
  | succ r ih =>
    intro n μ h1 h2 h hLa
    obtain ⟨n, rfl⟩ : ∃ m, n = m + 1 := ⟨n - 1, by omega⟩
    obtain ⟨hL, hR, hK, ⟨L0, L9⟩, _, _, hl, _, ⟨r1, r2, r3⟩, ⟨b1, b2, b3⟩, hd⟩ := now_is h
    have hk := isL_k hL
    rw [show (((r + 1 : Nat) : Int) - 1) = (r : Int) by omega, f_X0_fillingsOf_w6, nrm_id (z := (r : Int)) (by omega) (by omega), if_neg (by omega), gd_pos hk]
    obtain ⟨μ2, p1, p2⟩ := mayGo_c hL hR l0 (by rw [rowA_0]; exact l1) (d := (r : Int)) (by omega) (by omega) kc r1 b1 r2 r3 b2 b3
    rw [bn_eq p1, filM]
    rw [hLa] at p2
    obtain ⟨j1, j2⟩ := JR_co (ρ' := ρ) hC h (by rw [hLa]; exact p2) ScW_rf
    rcases mayM_01 (rowA ρ 0) l (r : Int) (ρ 112 66) (ρ 112 65) with e | e <;> rw [e]
    · rw [if_pos (by decide : nrm 0 = 0), if_pos (rfl : (0 : Int) = 0)]
      obtain ⟨μ3, q1, q2⟩ := ih n μ2 (by omega) (by omega) j1 (j2.trans hLa)
      rw [show (r : Int) + (-1) = (r : Int) - 1 by omega]
      exact ⟨μ3, q1, ScL_tr p2 q2⟩
    · rw [if_neg (by decide : ¬ nrm 1 = 0), if_neg (by decide : ¬ (1 : Int) = 0)]
      obtain ⟨hL2, _, _, _, _, _, hl2, _, _, _, hd2⟩ := now_is j1
      have hdo : f_X0_depthOf C l μ2 = some (D, μ2) := by
        unfold f_X0_depthOf
        rw [gd_pos (isL_k hL2), bn_eq (hasLane_eq hl2 L0 L9 (nrm_id (by omega) (by omega))), if_pos (⟨l0, l1⟩ : 0 ≤ l ∧ l < ρ 112 2), if_neg (by decide : ¬ nrm 1 = 0), nrm_id (z := l) (by omega) (by omega), gd_pos (by omega), (hd2 l l0 l1).1, hD]
      rw [bn_eq hdo]
      exact ⟨μ2, rfl, p2⟩
