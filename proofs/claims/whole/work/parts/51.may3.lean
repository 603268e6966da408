theorem evR_cg {cd ws ws' : Int → Int} (hw : ∀ i, 0 ≤ i → i < 5 → ws i = ws' i) : ∀ (r : Nat) (k : Int) (s : List Int) (ty t : List Bool), tyR 0 cd r k ty = some t → evR ws cd r k s = evR ws' cd r k s := by
  intro r
  induction r with
  | zero => intros; rfl
  | succ r ih =>
    intro k s ty t h
    obtain ⟨ty', g1, g2⟩ := tyR_s h
    unfold evR
    have e : evS ws (cd k) s = evS ws' (cd k) s := by
      unfold evS
      by_cases a : cd k < 1000
      · rw [if_pos a, if_pos a]
      · rw [if_neg a, if_neg a]
        by_cases b : cd k < 3000
        · rw [if_pos b, if_pos b, hw]
          · omega
          · rcases tyS_c g1 with h | h | ⟨h1, h2, _⟩ | ⟨h1, h2, _⟩ | ⟨h1, _⟩ | ⟨h1, _⟩ | ⟨h1, _⟩ <;> omega
        · rw [if_neg b, if_neg b]
    rw [e]
    exact ih (k + 1) _ ty' t g2
theorem rowA_0 (ρ : Mem) (i : Int) : rowA ρ 0 i = ρ 112 i := by
  unfold rowA
  rw [Int.zero_add]
theorem mayGo_m {La l d : Int} {μ ρ : Mem} (h : LR μ La (rowA ρ 0)) (l0 : 0 ≤ l) (l1 : l < ρ 112 2) (d0 : 0 ≤ d) (d1 : d ≤ 6) (r0 : 0 ≤ ρ 112 66) (r9 : ρ 112 66 ≤ 9) (b0 : 0 ≤ ρ 112 65) (b9 : ρ 112 65 < 512) :
    ∃ ρ', f_X12_mayGo 111 l d ρ = some (mayM (rowA ρ 0) l d (ρ 112 66) (ρ 112 65), ρ') ∧ ScW ρ ρ' := by
  obtain ⟨_, ⟨g2, g20, g29⟩, _, _, ⟨g5, g50, g59⟩, g6, _, _, g9⟩ := h
  obtain ⟨_, _, _, _, _, _, _, s1, s2, s3, _⟩ := g6 l l0 (by rw [rowA_0]; exact l1)
  obtain ⟨bq, bq0, bq9⟩ := bits_eq b0 b9
  simp only [rowA_0] at g29 g50 g59 s2 s3
  have e6 : ρ 112 6 = 0 ∨ ρ 112 6 = 1 := by
    rcases g9 with h | h
    · have := h.1; rw [rowA_0] at this; exact .inl this
    · have := h.1; rw [rowA_0] at this; exact .inr this
  unfold f_X12_mayGo mayM
  rw [show (111 + 1 : Int) = 112 from rfl, rowA_0, rowA_0, rowA_0]
  rcases e6 with e6 | e6
  · rw [e6, if_pos (by decide : nrm 0 = 0), if_pos (rfl : (0 : Int) = 0), nrm_id (z := ρ 112 4) (by omega) (by omega), nrm_id (z := d) (by omega) (by omega)]
    by_cases q : d ≤ ρ 112 4
    · rw [if_neg (by omega), if_pos q]; exact ⟨ρ, rfl, ScW_rf⟩
    · rw [if_pos (by omega), if_neg q]; exact ⟨ρ, rfl, ScW_rf⟩
  · rw [e6, if_neg (by decide : ¬ nrm 1 = 0), if_neg (by decide : ¬ (1 : Int) = 0)]
    obtain ⟨ρ2, p1, p2, p3⟩ := reckons_m (l := l) (d := d) (ra := ρ 112 66) (.inr rfl) g9 (by rw [rowA_0]; exact e6) l0 (by omega) (wsM_in (by omega) (by omega) (by omega) (by omega) (by omega) (by omega))
    rw [bn_eq p1]
    have p2' : lawV (rowA ρ 0) 1 (wsM l d (ρ 112 (29 + l)) (ρ 112 4) (ρ 112 66) (boM (ρ 112 65))) = 0 ∨ lawV (rowA ρ 0) 1 (wsM l d (ρ 112 (29 + l)) (ρ 112 4) (ρ 112 66) (boM (ρ 112 65))) = 1 := p2
    rcases p2' with q | q
    · rw [q, if_neg (by decide : ¬ nrm 0 = nrm 1), if_neg (by decide : ¬ (0 : Int) = 1)]; exact ⟨ρ2, rfl, p3⟩
    · rw [q, if_pos (rfl : nrm 1 = nrm 1), if_pos (rfl : (1 : Int) = 1)]; exact ⟨ρ2, rfl, p3⟩
theorem cut6_j {z : Int} (ρ : Mem) (h1 : -2147483648 ≤ z) (h2 : z < 2147483648) : f_X12_wornTo_j43 z ρ = some (cut6 z, ρ) := by
  unfold f_X12_wornTo_j43 cut6
  rw [nrm_id h1 h2, show nrm 6 = 6 from rfl]
  split
  · split <;> rfl
  · rfl
theorem wornTo_m {La l d ra : Int} {μ ρ : Mem} (h : LR μ La (rowA ρ 0)) (l0 : 0 ≤ l) (l1 : l < ρ 112 2) (d0 : 0 ≤ d) (d1 : d ≤ 6) (r0 : 0 ≤ ra) (r9 : ra ≤ 9) (b0 : 0 ≤ ρ 112 65) (b9 : ρ 112 65 < 512) :
    ∃ ρ', f_X12_wornTo 111 l d ra ρ = some (wornM (rowA ρ 0) l d ra, ρ') ∧ ScW ρ ρ' := by
  obtain ⟨_, ⟨g2, g20, g29⟩, _, _, ⟨g5, g50, g59⟩, g6, _, g9, _⟩ := h
  obtain ⟨_, _, _, _, _, _, _, s1, s2, s3, _⟩ := g6 l l0 (by rw [rowA_0]; exact l1)
  obtain ⟨bq, bq0, bq9⟩ := bits_eq b0 b9
  simp only [rowA_0] at g29 g50 g59 s2 s3
  have e6 : ρ 112 5 = 0 ∨ ρ 112 5 = 1 := by
    rcases g9 with h | h
    · have := h.1; rw [rowA_0] at this; exact .inl this
    · have := h.1; rw [rowA_0] at this; exact .inr this
  unfold f_X12_wornTo wornM
  rw [show (111 + 1 : Int) = 112 from rfl, rowA_0, rowA_0, rowA_0]
  rcases e6 with e6 | e6
  · rw [e6, if_neg (by decide : ¬ nrm 0 = nrm 1), if_neg (by decide : ¬ (0 : Int) = 1), nrm_id (z := 29 + l) (by omega) (by omega), gd_pos (by omega), nrm_id (z := ρ 112 (29 + l) + ra) (by omega) (by omega), show nrm 5 = 5 from rfl]
    by_cases q : ρ 112 (29 + l) + ra ≤ 5
    · rw [if_pos q, if_pos q, cut6_j ρ (by omega) (by omega)]
      refine ⟨ρ, ?_, ScW_rf⟩
      unfold cut6
      rw [if_pos d0, if_pos d1]
    · rw [if_neg q, if_neg q, cut6_j ρ (by omega) (by omega)]
      exact ⟨ρ, rfl, ScW_rf⟩
  · rw [e6, if_pos (rfl : nrm 1 = nrm 1), if_pos (rfl : (1 : Int) = 1)]
    obtain ⟨ρ2, p1, p2, p3⟩ := reckons_m (l := l) (d := d) (ra := ra) (.inl rfl) g9 (by rw [rowA_0]; exact e6) l0 (by omega) (wsM_in (by omega) (by omega) (by omega) (by omega) (by omega) (by omega))
    have ev : lawV (rowA ρ 0) 0 (wsM l d (ρ 112 (29 + l)) (ρ 112 4) ra (boM (ρ 112 65))) = lawV (rowA ρ 0) 0 (wsM l d (ρ 112 (29 + l)) (ρ 112 4) ra 0) := by
      rcases g9 with h | ⟨_, _, _, _, _, _, _, t⟩
      · have := h.1; rw [rowA_0] at this; rw [show (5 + 0 : Int) = 5 from rfl] at this; omega
      · unfold lawV
        rw [evR_cg (ws' := wsM l d (ρ 112 (29 + l)) (ρ 112 4) ra 0) ?_ _ _ _ _ _ t]
        intro i i1 i2
        unfold wsM
        rcases (by omega : i = 0 ∨ i = 1 ∨ i = 2 ∨ i = 3 ∨ i = 4) with h | h | h | h | h <;> subst h <;> rfl
    have p2' : -1000000 ≤ lawV (rowA ρ 0) 0 (wsM l d (ρ 112 (29 + l)) (ρ 112 4) ra (boM (ρ 112 65))) ∧ lawV (rowA ρ 0) 0 (wsM l d (ρ 112 (29 + l)) (ρ 112 4) ra (boM (ρ 112 65))) ≤ 1000000 := p2
    rw [bn_eq p1, cut6_j ρ2 (by omega) (by omega), ev]
    exact ⟨ρ2, rfl, p3⟩
