theorem max_eq {a b : Int} (μ : Mem) (ha : nrm a = a) (hb : nrm b = b) : f_J9_max_7cf53 a b μ = some (if a < b then b else a, μ) := by
  unfold f_J9_max_7cf53
  rw [ha, hb]
  split <;> rfl
theorem min_eq {a b : Int} (μ : Mem) (ha : nrm a = a) (hb : nrm b = b) : f_J9_min_7cf53 a b μ = some (if b < a then b else a, μ) := by
  unfold f_J9_min_7cf53
  rw [ha, hb]
  split <;> rfl
theorem wsM_in {l d so pu ra ba : Int} (h1 : 0 ≤ l ∧ l ≤ 9) (h2 : 0 ≤ d ∧ d ≤ 6) (h3 : 0 ≤ so ∧ so ≤ 9) (h4 : 0 ≤ pu ∧ pu ≤ 9) (h5 : 0 ≤ ra ∧ ra ≤ 9) (h6 : 0 ≤ ba ∧ ba ≤ 9) : ∀ i, 0 ≤ i → i < 6 → -1000000 ≤ wsM l d so pu ra ba i ∧ wsM l d so pu ra ba i ≤ 1000000 := by
  intro i i1 i2
  unfold wsM
  rcases (by omega : i = 0 ∨ i = 1 ∨ i = 2 ∨ i = 3 ∨ i = 4 ∨ i = 5) with h | h | h | h | h | h <;> subst h <;> simp <;> omega
theorem wornFrom_c {La l d ra : Int} {A : Int → Int} {μ : Mem} (hL : isL La) (h : LR μ La A) (l0 : 0 ≤ l) (l1 : l < A 2) (d0 : 0 ≤ d) (d1 : d ≤ 6) (r0 : 0 ≤ ra) (r9 : ra ≤ 9) :
    ∃ μ', f_X3_wornFrom La l d ra μ = some (wornM A l d ra, μ') ∧ ScL La μ μ' := by
  obtain ⟨_, ⟨g2, g20, g29⟩, _, _, ⟨g5, g50, g59⟩, g6, _, g9, _⟩ := h
  obtain ⟨_, _, _, _, _, _, _, s1, s2, s3, _⟩ := g6 l l0 l1
  have hlaw := hasLaw_eq (.inl rfl) g9
  rw [show (5 + 0 : Int) = 5 from rfl] at hlaw
  unfold f_X3_wornFrom
  rw [bn_eq (hasLane_eq g2 g20 g29 (nrm_id (by omega) (by omega))), if_pos (⟨l0, l1⟩ : 0 ≤ l ∧ l < A 2), if_neg (by decide : ¬ nrm 1 = 0), bn_eq hlaw]
  unfold wornM
  have e6 : A (5 + 0) = 0 ∨ A (5 + 0) = 1 := by
    rcases g9 with h | h
    · exact .inl h.1
    · exact .inr h.1
  rw [show (5 + 0 : Int) = 5 from rfl] at e6
  rcases e6 with e6 | e6
  · rw [e6, if_pos (by decide : nrm 0 = 0), if_neg (by decide : ¬ (0 : Int) = 1), nrm_id (z := l) (by omega) (by omega), gd_pos (by omega), s1, nrm_id (z := A (29 + l) + ra) (by omega) (by omega), show nrm 5 = 5 from rfl]
    by_cases q : A (29 + l) + ra ≤ 5
    · rw [if_pos q, if_pos q]; exact ⟨μ, rfl, ScL_rf⟩
    · rw [if_neg q, if_neg q, bn_eq (min_eq μ rfl (nrm_id (by omega) (by omega)))]
      refine ⟨μ, ?_, ScL_rf⟩
      unfold cut6
      by_cases z : d + 1 < 6
      · rw [if_pos z, if_pos (by omega), if_pos (by omega)]
      · rw [if_neg z, if_pos (by omega)]
        by_cases z2 : d + 1 ≤ 6
        · rw [if_pos z2, show (6 : Int) = d + 1 by omega]
        · rw [if_neg z2]
  · rw [e6, if_neg (by decide : ¬ nrm 1 = 0), if_pos (rfl : (1 : Int) = 1), nrm_id (z := l) (by omega) (by omega), gd_pos (by omega), s1, g5]
    obtain ⟨μ1, μ2, p1, p2, p3, p4⟩ := told_c (l := l) (d := d) (so := A (29 + l)) (pu := A 4) (ra := ra) (ba := 0) hL (.inl rfl) g9 e6 (wsM_in (by omega) (by omega) (by omega) (by omega) (by omega) (by omega))
    rw [bn_eq p1, bn_eq p2]
    have p3' : -1000000 ≤ lawV A 0 (wsM l d (A (29 + l)) (A 4) ra 0) ∧ lawV A 0 (wsM l d (A (29 + l)) (A 4) ra 0) ≤ 1000000 := p3
    generalize lawV A 0 (wsM l d (A (29 + l)) (A 4) ra 0) = v at p3'
    rw [bn_eq (min_eq μ2 rfl (nrm_id (by omega) (by omega)))]
    rw [bn_eq (max_eq μ2 rfl (by split <;> exact nrm_id (by omega) (by omega)))]
    refine ⟨μ2, ?_, p4⟩
    unfold cut6
    congr 2
    split <;> split <;> (try split) <;> omega
/-- A law reckoned by the reference. -/
theorem reckons_m {La w l d ra : Int} {μ ρ : Mem} (hw : w = 0 ∨ w = 1) (h : LawR μ La (rowA ρ 0) w) (h1 : rowA ρ 0 (5 + w) = 1) (l0 : 0 ≤ l) (l9 : l < 9) (hs : ∀ i, 0 ≤ i → i < 6 → -1000000 ≤ wsM l d (ρ 112 (29 + l)) (ρ 112 4) ra (boM (ρ 112 65)) i ∧ wsM l d (ρ 112 (29 + l)) (ρ 112 4) ra (boM (ρ 112 65)) i ≤ 1000000) :
    ∃ ρ', f_X12_reckons 111 w l d ra ρ = some (lawV (rowA ρ 0) w (wsM l d (ρ 112 (29 + l)) (ρ 112 4) ra (boM (ρ 112 65))), ρ') ∧ okV (decide (w = 1)) (lawV (rowA ρ 0) w (wsM l d (ρ 112 (29 + l)) (ρ 112 4) ra (boM (ρ 112 65)))) ∧ ScW ρ ρ' := by
  have er : ∀ i, rowA ρ 0 i = ρ 112 i := by
    intro i
    unfold rowA
    rw [Int.zero_add]
  rcases h with ⟨a, _⟩ | ⟨_, b, c, e, f, g, k, t⟩
  · omega
  · unfold f_X12_reckons
    simp only [nm_eq, Int.reduceAdd]
    rw [nrm_id (z := 29 + l) (by omega) (by omega), gd_pos (by omega)]
    simp (disch := omega) only [ms_nc]
    rw [bn_eq (bitsOf_eq _ _)]
    have hm : ∀ c i, c ≠ 117 → (ms (ms (ms (ms (ms (ms ρ 117 0 l) 117 1 d) 117 2 (ρ 112 (29 + l))) 117 3 (ρ 112 4)) 117 4 ra) 117 5 (boM (ρ 112 65))) c i = ρ c i := by
      intro c i h
      simp (disch := omega) only [ms_nc]
    have hv : ∀ i, 0 ≤ i → i < 6 → (ms (ms (ms (ms (ms (ms ρ 117 0 l) 117 1 d) 117 2 (ρ 112 (29 + l))) 117 3 (ρ 112 4)) 117 4 ra) 117 5 (boM (ρ 112 65))) 117 i = wsM l d (ρ 112 (29 + l)) (ρ 112 4) ra (boM (ρ 112 65)) i := by
      intro i i1 i2
      rcases (by omega : i = 0 ∨ i = 1 ∨ i = 2 ∨ i = 3 ∨ i = 4 ∨ i = 5) with h | h | h | h | h | h <;> subst h <;> simp [ms, wsM]
    obtain ⟨v, ρ2, q1, q2, q3, q4⟩ := rk_r (w := w) (F := rowA ρ 0 (7 + w)) (M := rowA ρ 0 (9 + w)) (cd := fun j => rowA ρ 0 (200 + j)) hw b e hs (rowA ρ 0 (9 + w)).toNat FU 0 0 (ms (ms (ms (ms (ms (ms ρ 117 0 l) 117 1 d) 117 2 (ρ 112 (29 + l))) 117 3 (ρ 112 4)) 117 4 ra) 117 5 (boM (ρ 112 65))) [] [] (by unfold FU; omega) (by omega) (by omega) trivial trivial (by decide) rfl (by rw [Int.add_zero]; exact t) (by rw [hm _ _ (by decide), er]) (by rw [hm _ _ (by decide), er]) (fun j j1 j2 => by rw [hm _ _ (by decide), er]) hv
    rw [Int.add_zero] at q2
    have ev : lawV (rowA ρ 0) w (wsM l d (ρ 112 (29 + l)) (ρ 112 4) ra (boM (ρ 112 65))) = v := headD_one q2
    rw [ev]
    exact ⟨ρ2, q1, q3, fun c i x y => by rw [q4 c i x, hm _ _ y]⟩
