theorem all_is {P : Int} (P0 : 0 ≤ P) (P9 : P ≤ 9) : jshl 1 P - 1 = 2 ^ P.toNat - 1 ∧ 0 ≤ jshl 1 P - 1 ∧ jshl 1 P - 1 < 512 ∧ (∀ j, 0 ≤ j → tb (jshl 1 P - 1) j = decide (j < P)) := by
  have e := jshl_n (k := P.toNat) (by omega)
  rw [Int.toNat_of_nonneg P0] at e
  have h1 : 0 < (2 : Nat) ^ P.toNat := Nat.two_pow_pos _
  have h2 : (2 : Nat) ^ P.toNat ≤ 2 ^ 9 := Nat.pow_le_pow_right (by decide) (by omega)
  have hp := pow_cast P.toNat
  rw [e]
  refine ⟨by omega, by omega, by omega, ?_⟩
  intro j j0
  unfold tb
  rw [show ((2 ^ P.toNat : Nat) : Int) - 1 = ((2 ^ P.toNat - 1 : Nat) : Int) by omega, Int.toNat_natCast, Nat.testBit_two_pow_sub_one]
  apply decide_eq_decide.mpr
  omega
theorem jand_0 {x y : Int} (x0 : 0 ≤ x) (x1 : x < 2147483648) (y0 : 0 ≤ y) (y1 : y < 2147483648) (h : jand x y = 0) (j : Int) (j0 : 0 ≤ j) : ¬ (tb x j = true ∧ tb y j = true) := by
  intro ⟨h1, h2⟩
  have := (jand_tb2 x0 x1 y0 y1).2.2 j j0
  rw [h, h1, h2] at this
  have h0 : tb 0 j = false := by unfold tb; simp
  rw [h0] at this
  cases this
theorem starts_w {wh B al m0 : Int} {μ : Mem} {A : Int → Int} (hal : al = jshl 1 (A 3) - 1) (hm0 : m0 = jand al (jxor B (-1))) (p2 : 0 ≤ A 3) (p3 : A 3 ≤ 8) (B0 : 0 ≤ B) (B1 : B < 2 ^ (A 3).toNat) (hL : isL (μ 58 0)) (hR : LR μ (μ 58 0) A) (hB : μ 58 3 = B) :
    ∀ (r n m : Nat) (s least best : Int) (ρ : Mem), rowA ρ 0 = A → 0 ≤ s → s + r = al + 1 → r < n → r < m → ρ 112 65 = B → ((best = -1 ∧ least = m0 ∧ s ≤ m0) ∨ (0 ≤ best ∧ best ≤ al ∧ least = best)) →
    ∃ v ρ', f_X11_leastStarting_w29 n 0 al least s μ = some (v, μ) ∧ f_X12_starts_w34 m 111 wh al best s ρ = some (if nrm wh = 0 then boM v else v, ρ') ∧ Sc24 ρ ρ' ∧ 0 ≤ v ∧ v ≤ al := by
  obtain ⟨al1, al2, al3, al4⟩ := all_is p2 (by omega)
  rw [← hal] at al1 al2 al3 al4
  have hp := pow_back p2 p3
  obtain ⟨mm1, mm2, mm3, mm4⟩ := andnot_tb (x := al) (y := B) al2 (by omega) B0 (by omega)
  rw [← hm0] at mm1 mm2 mm3 mm4
  have mal : m0 ≤ al := by
    have := mm3 (A 3).toNat (by omega)
    omega
  have dis : jand m0 B = 0 := by
    obtain ⟨j1, j2, j3⟩ := jand_tb2 (x := m0) (y := B) mm1 mm2 B0 (by omega)
    apply tb_ext j1 (by decide)
    intro k k0
    have h0 : tb 0 k = false := by unfold tb; simp
    rw [j3 k k0, mm4 k k0, h0]
    cases tb al k <;> cases tb B k <;> rfl
  have full : jor B m0 = al := by
    obtain ⟨j1, j2, j3⟩ := jor_tb2 (x := B) (y := m0) B0 (by omega) mm1 mm2
    apply tb_ext j1 al2
    intro k k0
    rw [j2 k k0, mm4 k k0, al4 k k0]
    by_cases g : k < A 3
    · rw [decide_eq_true g]; cases tb B k <;> rfl
    · rw [decide_eq_false g, tb_hi B1 (by omega)]; rfl
  have alfix : ∀ k, seaI A k al = al := by
    intro k
    induction k with
    | zero => rfl
    | succ k ih =>
      show seaM A (seaI A k al) = al
      rw [ih]
      obtain ⟨s1, s2⟩ := seaM_in p2 p3 al2 (by omega : al < 2 ^ (A 3).toNat)
      apply tb_ext s1 al2
      intro j j0
      rw [seaM_tb p2 p3 al2 (by omega) j0, al4 j j0]
      by_cases g : j < A 3
      · rw [decide_eq_true g]; rfl
      · rw [decide_eq_false g, decide_eq_false (by omega)]; rfl
  have sub : ∀ s, 0 ≤ s → s ≤ al → jand s B = 0 → s ≠ m0 → boM s < boM m0 := by
    intro s s0 s1 sd sn
    refine bo_lt s0 (by omega) mm1 (by omega) ?_ sn
    intro j j0 hj
    have := jand_0 s0 (by omega) B0 (by omega) sd j j0
    rw [mm4 j j0, al4 j j0]
    have hjP : j < A 3 := by
      apply Classical.byContradiction
      intro hc
      rw [tb_hi (n := (A 3).toNat) (by omega) (by omega)] at hj
      cases hj
    rw [decide_eq_true hjP]
    cases hb : tb B j
    · rfl
    · exact absurd ⟨hj, hb⟩ this
  have onn : ∀ s, 0 ≤ s → s ≤ al → 0 ≤ jor B s ∧ jor B s < 2 ^ (A 3).toNat := by
    intro s s0 s1
    obtain ⟨j1, _, j3⟩ := jor_tb2 (x := B) (y := s) B0 (by omega) s0 (by omega)
    exact ⟨j1, j3 _ B1 (by omega)⟩
  intro r
  induction r with
  | zero =>
    intro n m s least best ρ hA s0 sr hn hm hB2 inv
    obtain ⟨n, rfl⟩ : ∃ q, n = q + 1 := ⟨n - 1, by omega⟩
    obtain ⟨m, rfl⟩ : ∃ q, m = q + 1 := ⟨m - 1, by omega⟩
    rcases inv with ⟨_, _, i3⟩ | ⟨i1, i2, i3⟩
    · omega
    · refine ⟨best, ρ, ?_, ?_, fun _ _ _ => rfl, i1, i2⟩
      · rw [f_X11_leastStarting_w29, nrm_id (z := al) (by omega) (by omega), nrm_id (z := s) (by omega) (by omega), if_pos (by omega), i3]
      · rw [f_X12_starts_w34, nrm_id (z := al) (by omega) (by omega), nrm_id (z := s) (by omega) (by omega), if_pos (by omega), bn_eq (bitsOf_eq _ _)]
        split <;> rfl
  | succ r ih =>
    intro n m s least best ρ hA s0 sr hn hm hB2 inv
    obtain ⟨n, rfl⟩ : ∃ q, n = q + 1 := ⟨n - 1, by omega⟩
    obtain ⟨m, rfl⟩ : ∃ q, m = q + 1 := ⟨m - 1, by omega⟩
    have e3 : ρ 112 3 = A 3 := by rw [← hA, rowA_0]
    have sb := bits_eq s0 (by omega : s < 512)
    have lb : bcM least = boM least ∧ 0 ≤ boM least ∧ boM least ≤ 9 := by
      rcases inv with ⟨_, i2, _⟩ | ⟨i1, i2, i3⟩
      · rw [i2]; exact bits_eq mm1 (by omega)
      · rw [i3]; exact bits_eq i1 (by omega)
    -- what both test
    obtain ⟨o1, o2⟩ := onn s s0 (by omega)
    have hend := endBack_eq hR o1 o2
    obtain ⟨v1, v2⟩ := seaI_in p2 p3 o1 o2 8
    obtain ⟨t, t1, t2, t3⟩ := sea_fix (A := A) (b := jor B s) p2 p3 o1 o2
    obtain ⟨ρ2, q1, q2, q3⟩ := turnedTo_eq (μ := μ) (La := μ 58 0) (ρ := ρ) (b := jor B s) (t := t) (by rw [hA]; exact hR) o1 (by rw [e3]; exact o2) t1 (by rw [hA]; exact t2) (by rw [hA]; exact t3)
    rw [hA] at q1
    have hA2 : rowA ρ2 0 = A := by rw [rowA_co (Sc24_sa q3)]; exact hA
    have hB3 : ρ2 112 65 = B := by rw [q3 112 65 (by omega)]; exact hB2
    have skipC : f_X11_leastStarting_j61 (f_X11_leastStarting_w29 n) 0 al least s μ = f_X11_leastStarting_w29 n 0 al least (s + 1) μ := rfl
    have testC : f_X11_leastStarting_j62 (f_X11_leastStarting_w29 n) 0 al least s 1 μ = if seaI A 8 (jor B s) = al then f_X11_leastStarting_w29 n 0 al s (s + 1) μ else f_X11_leastStarting_w29 n 0 al least (s + 1) μ := by
      unfold f_X11_leastStarting_j62
      rw [if_neg (by decide : ¬ nrm 1 = 0), show (0 + 58 : Int) = 58 from rfl, gd_pos (isL_k hL), hB, bn_eq hend, nrm_id (z := seaI A 8 (jor B s)) (by omega) (by omega), nrm_id (z := al) (by omega) (by omega)]
      rfl
    have testR : ∀ bst, f_X12_starts_j73 (f_X12_starts_w34 m) 111 wh al bst s ρ = if seaI A 8 (jor B s) = al then f_X12_starts_w34 m 111 wh al s (s + 1) ρ2 else f_X12_starts_w34 m 111 wh al bst (s + 1) ρ2 := by
      intro bst
      unfold f_X12_starts_j73
      rw [show (111 + 1 : Int) = 112 from rfl, hB2, bn_eq q1, nrm_id (z := seaI A 8 (jor B s)) (by omega) (by omega), nrm_id (z := al) (by omega) (by omega)]
      rfl
    have hc : f_X11_leastStarting_w29 (n + 1) 0 al least s μ = if jand s B = 0 then (if boM least ≤ boM s then f_X11_leastStarting_w29 n 0 al least (s + 1) μ else if seaI A 8 (jor B s) = al then f_X11_leastStarting_w29 n 0 al s (s + 1) μ else f_X11_leastStarting_w29 n 0 al least (s + 1) μ) else f_X11_leastStarting_w29 n 0 al least (s + 1) μ := by
      rw [f_X11_leastStarting_w29, nrm_id (z := al) (by omega) (by omega), nrm_id (z := s) (by omega) (by omega), if_neg (by omega), show (0 + 58 : Int) = 58 from rfl, hB, nrm_jand, bn_eq (bitCount_eq _ _), bn_eq (bitCount_eq _ _), sb.1, lb.1, nrm_id (z := boM s) (by omega) (by omega), nrm_id (z := boM least) (by omega) (by omega), skipC, testC]
    have finish : ∀ least' best' (ρ3 : Mem), Sc24 ρ ρ3 → rowA ρ3 0 = A → ρ3 112 65 = B → ((best' = -1 ∧ least' = m0 ∧ s + 1 ≤ m0) ∨ (0 ≤ best' ∧ best' ≤ al ∧ least' = best')) → f_X11_leastStarting_w29 (n + 1) 0 al least s μ = f_X11_leastStarting_w29 n 0 al least' (s + 1) μ → f_X12_starts_w34 (m + 1) 111 wh al best s ρ = f_X12_starts_w34 m 111 wh al best' (s + 1) ρ3 →
        ∃ v ρ', f_X11_leastStarting_w29 (n + 1) 0 al least s μ = some (v, μ) ∧ f_X12_starts_w34 (m + 1) 111 wh al best s ρ = some (if nrm wh = 0 then boM v else v, ρ') ∧ Sc24 ρ ρ' ∧ 0 ≤ v ∧ v ≤ al := by
      intro least' best' ρ3 x1 x2 x3 x4 x5 x6
      obtain ⟨v, ρ', y1, y2, y3, y4, y5⟩ := ih n m (s + 1) least' best' ρ3 x2 (by omega) (by omega) (by omega) (by omega) x3 x4
      exact ⟨v, ρ', by rw [x5]; exact y1, by rw [x6]; exact y2, fun c i e => (y3 c i e).trans (x1 c i e), y4, y5⟩
    have skipR : f_X12_starts_j94 (f_X12_starts_w34 m) 111 wh al best s ρ = f_X12_starts_w34 m 111 wh al best (s + 1) ρ := rfl
    by_cases z : jand s B = 0
    · rw [if_pos z] at hc
      rcases inv with ⟨i1, i2, i3⟩ | ⟨i1, i2, i3⟩
      · have hr : f_X12_starts_w34 (m + 1) 111 wh al best s ρ = if seaI A 8 (jor B s) = al then f_X12_starts_w34 m 111 wh al s (s + 1) ρ2 else f_X12_starts_w34 m 111 wh al best (s + 1) ρ2 := by
          rw [f_X12_starts_w34, nrm_id (z := al) (by omega) (by omega), nrm_id (z := s) (by omega) (by omega), if_neg (by omega), show (111 + 1 : Int) = 112 from rfl, hB2, nrm_jand, if_pos z, i1, if_pos rfl, testR]
        by_cases e : s = m0
        · have ev : seaI A 8 (jor B s) = al := by rw [e, full]; exact alfix 8
          rw [if_pos ev] at hr
          rw [if_pos (by rw [i2, e]; exact Int.le_refl _)] at hc
          exact finish least s ρ2 q3 hA2 hB3 (.inr ⟨s0, by omega, by rw [i2, e]⟩) hc hr
        · have hlt := sub s s0 (by omega) z e
          rw [if_neg (by rw [i2]; omega)] at hc
          by_cases ev : seaI A 8 (jor B s) = al
          · rw [if_pos ev] at hr hc
            exact finish s s ρ2 q3 hA2 hB3 (.inr ⟨s0, by omega, rfl⟩) hc hr
          · rw [if_neg ev] at hr hc
            exact finish least best ρ2 q3 hA2 hB3 (.inl ⟨i1, i2, by omega⟩) hc hr
      · have hr : f_X12_starts_w34 (m + 1) 111 wh al best s ρ = if boM s < boM best then (if seaI A 8 (jor B s) = al then f_X12_starts_w34 m 111 wh al s (s + 1) ρ2 else f_X12_starts_w34 m 111 wh al best (s + 1) ρ2) else f_X12_starts_w34 m 111 wh al best (s + 1) ρ := by
          rw [i3] at lb
          rw [f_X12_starts_w34, nrm_id (z := al) (by omega) (by omega), nrm_id (z := s) (by omega) (by omega), if_neg (by omega), show (111 + 1 : Int) = 112 from rfl, hB2, nrm_jand, if_pos z, nrm_id (z := best) (by omega) (by omega), if_neg (by show ¬ best = -1; omega), bn_eq (bitsOf_eq _ _), bn_eq (bitsOf_eq _ _), nrm_id (z := boM s) (by omega) (by omega), nrm_id (z := boM best) (by omega) (by omega), testR, skipR]
        rw [i3] at hc
        by_cases lt : boM s < boM best
        · rw [if_pos lt] at hr
          rw [if_neg (by omega)] at hc
          by_cases ev : seaI A 8 (jor B s) = al
          · rw [if_pos ev] at hr hc
            rw [← i3] at hc
            exact finish s s ρ2 q3 hA2 hB3 (.inr ⟨s0, by omega, rfl⟩) hc hr
          · rw [if_neg ev] at hr hc
            rw [← i3] at hc
            exact finish least best ρ2 q3 hA2 hB3 (.inr ⟨i1, i2, i3⟩) hc hr
        · rw [if_neg lt] at hr
          rw [if_pos (by omega), ← i3] at hc
          exact finish least best ρ (fun _ _ _ => rfl) hA hB2 (.inr ⟨i1, i2, i3⟩) hc hr
    · rw [if_neg z] at hc
      have hr : f_X12_starts_w34 (m + 1) 111 wh al best s ρ = f_X12_starts_w34 m 111 wh al best (s + 1) ρ := by
        rw [f_X12_starts_w34, nrm_id (z := al) (by omega) (by omega), nrm_id (z := s) (by omega) (by omega), if_neg (by omega), show (111 + 1 : Int) = 112 from rfl, hB2, nrm_jand, if_neg z, skipR]
      refine finish least best ρ (fun _ _ _ => rfl) hA hB2 ?_ hc hr
      rcases inv with ⟨i1, i2, i3⟩ | i
      · refine .inl ⟨i1, i2, ?_⟩
        have : s ≠ m0 := fun e => z (by rw [e]; exact dis)
        omega
      · exact .inr i
theorem op_starts (a : Int) (ha : nrm a = a) : Op2 (f_X11_starts 0 a) (f_X12_starts 111 a) := by
  intro μ ρ h
  have h' := RR_co (SaC_rfl μ) (SaR_thrown ρ 0) h
  generalize hρ : ms ρ 111 0 0 = ρ1 at h'
  obtain ⟨hL, hR, _, _, _, _, _, _, _, ⟨b1, b2, b3⟩, _⟩ := now_is (C := 58) h'.2.2.1
  obtain ⟨P1, P2, P3, P4⟩ := now_P (C := 58) h'.2.2.1
  have hp := pow_back P2 P3
  unfold f_X11_starts f_X12_starts
  rw [nm_eq, hρ, bn_within ha rfl rfl, show nrm 1 = 1 from rfl, nm_eq, show (111 + 1 : Int) = 112 from rfl]
  by_cases g : 0 ≤ a ∧ a ≤ 1
  · obtain ⟨al1, al2, al3, al4⟩ := all_is P2 (by omega)
    obtain ⟨mm1, mm2, mm3, mm4⟩ := andnot_tb (x := jshl 1 (ρ1 112 3) - 1) (y := ρ1 112 65) al2 (by omega) b2 (by omega)
    obtain ⟨v, ρ2, q1, q2, q3, q4, q5⟩ := starts_w (wh := a) (B := ρ1 112 65) (A := rowA ρ1 0) (μ := μ) (al := jshl 1 (ρ1 112 3) - 1) (by rw [rowA_0]) rfl (by rw [rowA_0]; exact P2) (by rw [rowA_0]; exact P3) b2 (by rw [rowA_0]; exact P4) hL hR b1
      (jshl 1 (ρ1 112 3)).toNat FU FU 0 _ (-1) ρ1 rfl (by decide) (by omega) (by unfold FU; omega) (by unfold FU; omega) rfl (.inl ⟨rfl, rfl, mm1⟩)
    have hls : f_X11_leastStarting 0 μ = some (v, μ) := by
      unfold f_X11_leastStarting
      rw [show (0 + 58 : Int) = 58 from rfl, gd_pos (isL_k hL), nm_eq, nm_eq, P1, b1]
      exact q1
    have vb := bits_eq q4 (by omega : v < 512)
    rw [ha, if_neg (by omega : ¬ a < 0), if_pos g.2, if_pos g, if_neg (by decide : ¬ nrm 1 = 0), bn_eq hls, bn_eq (bitCount_eq _ _), vb.1, q2, ha]
    have hRR := RR_co (SaC_rfl μ) (Sc24_sa q3) h'
    by_cases z : a = 0
    · rw [if_pos z, if_pos z]; simp only [wp_some]; exact ⟨trivial, hRR⟩
    · rw [if_neg z, if_neg z]; simp only [wp_some]; exact ⟨trivial, hRR⟩
  · rw [ha, if_neg g, if_pos (by decide : nrm 0 = 0)]
    by_cases a1 : a < 0
    · rw [if_pos a1]; simp only [wp_some]; exact ⟨trivial, h'⟩
    · rw [if_neg a1, if_neg (by omega)]; simp only [wp_some]; exact ⟨trivial, h'⟩
