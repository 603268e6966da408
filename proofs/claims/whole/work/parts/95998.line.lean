theorem bn_0 {o : Option (Int × Mem)} {C : Mem → Option (Int × Mem)} : (bn (bn o fun _ ρ => some ((0 : Int), ρ)) fun _ ρ1 => C ρ1) = (bn o fun _ ρ1 => C ρ1) := by
  cases o with
  | none => rfl
  | some x => rfl
theorem bn_66 {o : Option (Int × Mem)} {C : Mem → Option (Int × Mem)} : (bn (bn o fun v ρ => (nm (ms ρ 115 66 v) fun ρ3 => some ((0 : Int), ρ3))) fun _ ρ1 => C ρ1) = (bn o fun v ρ2 => (nm (ms ρ2 115 66 v) fun ρ3 => C ρ3)) := by
  cases o with
  | none => rfl
  | some x => rfl
/-- Any line but the first. -/
theorem line_ok {n La a K V N : Int} {T : Int → Int} {μ ρ : Mem} (h : LnS n T La μ ρ a K V N) (hK : K ≠ 24) : LRes n T La a μ ρ (f_X7_readLine 2 μ) (bn (f_X12_readLine 111 ρ) fun _ ρ1 => f_X12_closes 111 ρ1) := by
  have hB := h.1
  have n2 : K ≠ 2 → ¬ nrm (μ (2 + 1) 0) = 130 := fun z q => z ((BS_c hB (k := 2) (by unfold kOk; decide)).mp q)
  have n6 : K ≠ 6 → ¬ nrm (μ (2 + 1) 0) = 134 := fun z q => z ((BS_c hB (k := 6) (by unfold kOk; decide)).mp q)
  have n9 : K ≠ 9 → ¬ nrm (μ (2 + 1) 0) = 137 := fun z q => z ((BS_c hB (k := 9) (by unfold kOk; decide)).mp q)
  have n12 : K ≠ 12 → ¬ nrm (μ (2 + 1) 0) = 140 := fun z q => z ((BS_c hB (k := 12) (by unfold kOk; decide)).mp q)
  have n13 : K ≠ 13 → ¬ nrm (μ (2 + 1) 0) = 141 := fun z q => z ((BS_c hB (k := 13) (by unfold kOk; decide)).mp q)
  have n14 : K ≠ 14 → ¬ nrm (μ (2 + 1) 0) = 142 := fun z q => z ((BS_c hB (k := 14) (by unfold kOk; decide)).mp q)
  have i2 := BS_is hB (k := 2) (by unfold kOk; decide)
  have i6 := BS_is hB (k := 6) (by unfold kOk; decide)
  have i9 := BS_is hB (k := 9) (by unfold kOk; decide)
  have i13 := BS_is hB (k := 13) (by unfold kOk; decide)
  have i14 := BS_is hB (k := 14) (by unfold kOk; decide)
  have e9 : ρ 111 9 = K := hB.1.2.2.2.2.2.2.2.2.1
  unfold f_X7_readLine f_X12_readLine
  rw [hB.2.1, if_pos (by decide : nrm 0 = 0), bn_eq i2]
  by_cases z2 : K = 2
  · rw [if_pos (show nrm (μ (2 + 1) 0) = 130 from (BS_c hB (k := 2) (by unfold kOk; decide)).mpr z2), if_pos z2, if_neg (by decide : ¬ nrm 1 = 0), bn_0]
    exact LRes_b (lane_ok h hK)
  rw [if_neg (n2 z2), if_neg z2, if_pos (by decide : nrm 0 = 0), bn_eq i6]
  by_cases z6 : K = 6
  · rw [if_pos (show nrm (μ (2 + 1) 0) = 134 from (BS_c hB (k := 6) (by unfold kOk; decide)).mpr z6), if_pos z6, if_neg (by decide : ¬ nrm 1 = 0), bn_0]
    exact LRes_b (cart_ok h hK)
  rw [if_neg (n6 z6), if_neg z6, if_pos (by decide : nrm 0 = 0), bn_eq i9]
  by_cases z9 : K = 9
  · rw [if_pos (show nrm (μ (2 + 1) 0) = 137 from (BS_c hB (k := 9) (by unfold kOk; decide)).mpr z9), if_pos z9, if_neg (by decide : ¬ nrm 1 = 0), bn_0]
    exact LRes_b (person_ok h hK)
  rw [if_neg (n9 z9), if_neg z9, if_pos (by decide : nrm 0 = 0)]
  by_cases z12 : K = 12
  · obtain ⟨μ1, ρ1, a1, K1, V1, y1, y2, _⟩ := LS_step h hK
    have := rain_ok h hK
    rw [bn_eq y2] at this
    rw [if_pos (show nrm (μ (2 + 1) 0) = 140 from (BS_c hB (k := 12) (by unfold kOk; decide)).mpr z12), bn_eq (BS_yes hB (by unfold kOk; decide) z12 y2), if_neg (by decide : ¬ nrm 1 = 0), show (111 + 4 : Int) = 115 from rfl, bn_66]
    exact LRes_b this
  rw [if_neg (n12 z12), bn_eq (BS_no hB (by unfold kOk; decide) z12), if_pos (by decide : nrm 0 = 0), bn_eq i13]
  unfold f_X12_readLine_j99
  rw [e9]
  by_cases z13 : K = 13
  · rw [if_pos (show nrm (μ (2 + 1) 0) = 141 from (BS_c hB (k := 13) (by unfold kOk; decide)).mpr z13), if_pos z13, if_neg (by decide : ¬ nrm 1 = 0), show K - 13 = 0 by omega, bn_0]
    exact LRes_b (wears_ok h hK)
  rw [if_neg (n13 z13), if_neg z13, if_pos (by decide : nrm 0 = 0), bn_eq i14]
  by_cases z14 : K = 14
  · rw [if_pos (show nrm (μ (2 + 1) 0) = 142 from (BS_c hB (k := 14) (by unfold kOk; decide)).mpr z14), if_pos z14, if_neg (by decide : ¬ nrm 1 = 0), e9, show K - 13 = 1 by omega, bn_0]
    exact LRes_b (may_ok h hK)
  rw [if_neg (n14 z14), if_neg z14, if_pos (by decide : nrm 0 = 0)]
  obtain ⟨μ', ρ', y1, y2, y3, y4, y5⟩ := BS_bad hB (x := 2) (by decide) (by decide)
  obtain ⟨ρ6, c1, c2, c3⟩ := close_no y5
  unfold f_X7_readLine_j102
  rw [bn_eq y1, gd_pos (by decide), bn_eq y2, bn_eq rfl]
  exact ⟨0, μ', ρ6, rfl, c1, FZ_l y3, FY_tr (FY_q y4) c2, .inr ⟨rfl, c3⟩⟩
/-- What stands when all lines are read. -/
def Fin (n : Int) (T : Int → Int) (La : Int) (μ ρ : Mem) : Prop := (ρ 111 11 = 0 ∧ μ 2 2 = 0 ∧ μ 2 3 = -1 ∧ ∃ N, LD La μ (ρ 115) N) ∨ Bd μ ρ
theorem lines_no {fu : Nat} {x5 : Int} {μ : Mem} : f_X7_readInto_w49 (fu + 1) 2 0 x5 μ = some (μ 2 2, μ) := by
  rw [f_X7_readInto_w49]
  by_cases y : nrm 900 ≤ nrm x5
  · rw [if_pos y]
  · rw [if_neg y, if_pos (by decide : nrm 0 = 0)]
theorem land_no {fr : Nat} {ρ : Mem} (h : 1 ≤ ρ 111 11) (h4 : ρ 111 11 ≤ 4) : f_X12_land_w84 (fr + 1) 111 ρ = f_X12_land_j111 111 ρ := by
  rw [f_X12_land_w84, nrm_id (z := ρ 111 11) (by omega) (by omega), if_neg (by omega)]
theorem lines_w {n La : Int} {T : Int → Int} : ∀ (m fu fr : Nat) (x5 a K V N : Int) (μ ρ : Mem), (900 - a).toNat ≤ m → m + 1 < fu → m + 1 < fr → 0 ≤ x5 → x5 ≤ a → LnS n T La μ ρ a K V N →
    ∃ μ' ρ', f_X7_readInto_w49 fu 2 1 x5 μ = some (μ' 2 2, μ') ∧ f_X12_land_w84 fr 111 ρ = f_X12_land_j111 111 ρ' ∧ FZ La μ μ' ∧ FY ρ ρ' ∧ Fin n T La μ' ρ' := by
  intro m
  induction m with
  | zero =>
    intro fu fr x5 a K V N μ ρ hm hu hr x0 xa h
    obtain ⟨fu, rfl⟩ : ∃ f, fu = f + 1 := ⟨fu - 1, by omega⟩
    obtain ⟨fr, rfl⟩ : ∃ f, fr = f + 1 := ⟨fr - 1, by omega⟩
    have hB := h.1
    have hn := hB.1.1.2.1
    have ha := hB.1.2.2.1.2.1
    have z : K = 24 := by
      by_cases z : K = 24
      · exact z
      · obtain ⟨_, _, a', _, _, _, _, _, _, y5, y6, _⟩ := BS_step hB z
        have := y6.1.2.2.1.2.1
        omega
    have e9 : ρ 111 9 = K := hB.1.2.2.2.2.2.2.2.2.1
    refine ⟨μ, ρ, ?_, ?_, FZ_rf, FY_rf, .inl ⟨hB.2.1, hB.1.2.2.1.2.2.1, hB.1.2.2.1.2.2.2, N, h.2.1⟩⟩
    · rw [f_X7_readInto_w49, if_neg (by decide : ¬ nrm 1 = 0), if_pos (show nrm (μ (2 + 1) 0) = 0 from (BS_c hB (k := 24) (by unfold kOk; decide)).mpr z)]
      by_cases y : nrm 900 ≤ nrm x5
      · rw [if_pos y]
      · rw [if_neg y]
    · rw [f_X12_land_w84, hB.2.1, if_pos (by decide : nrm 0 = 0), e9, z, if_pos rfl]
  | succ m ih =>
    intro fu fr x5 a K V N μ ρ hm hu hr x0 xa h
    obtain ⟨fu, rfl⟩ : ∃ f, fu = f + 2 := ⟨fu - 2, by omega⟩
    obtain ⟨fr, rfl⟩ : ∃ f, fr = f + 2 := ⟨fr - 2, by omega⟩
    have hB := h.1
    have hn := hB.1.1.2.1
    have ha := hB.1.2.2.1.2.1
    have e9 : ρ 111 9 = K := hB.1.2.2.2.2.2.2.2.2.1
    by_cases z : K = 24
    · refine ⟨μ, ρ, ?_, ?_, FZ_rf, FY_rf, .inl ⟨hB.2.1, hB.1.2.2.1.2.2.1, hB.1.2.2.1.2.2.2, N, h.2.1⟩⟩
      · rw [f_X7_readInto_w49, if_neg (by decide : ¬ nrm 1 = 0), if_pos (show nrm (μ (2 + 1) 0) = 0 from (BS_c hB (k := 24) (by unfold kOk; decide)).mpr z)]
        by_cases y : nrm 900 ≤ nrm x5
        · rw [if_pos y]
        · rw [if_neg y]
      · rw [f_X12_land_w84, hB.2.1, if_pos (by decide : nrm 0 = 0), e9, z, if_pos rfl]
    · have ha9 : a < 900 := by
        obtain ⟨_, _, a', _, _, _, _, _, _, y5, y6, _⟩ := BS_step hB z
        have := y6.1.2.2.1.2.1
        omega
      obtain ⟨k1, k2, _⟩ := hB.1.2.2.2.1
      obtain ⟨r, μ1, ρ1, l1, l2, l3, l4, l5⟩ := line_ok h z
      have hR : f_X12_land_w84 (fr + 2) 111 ρ = f_X12_land_w84 (fr + 1) 111 ρ1 := by
        rw [f_X12_land_w84, hB.2.1, if_pos (by decide : nrm 0 = 0), e9, if_neg (show ¬ nrm K = nrm 24 by rw [nrm_id (z := K) (by omega) (by omega)]; exact z)]
        revert l2
        cases f_X12_readLine 111 ρ with
        | none =>
          intro l2
          have l3 : (none : Option (Int × Mem)) = some (0, ρ1) := l2
          cases l3
        | some x =>
          intro l2
          have l2' : f_X12_closes 111 x.2 = some (0, ρ1) := l2
          show (bn (f_X12_closes 111 x.2) fun _ μ6 => f_X12_land_w84 (fr + 1) 111 μ6) = _
          rw [bn_eq l2']
      have hC : f_X7_readInto_w49 (fu + 2) 2 1 x5 μ = f_X7_readInto_w49 (fu + 1) 2 r (x5 + 1) μ1 := by
        rw [f_X7_readInto_w49, nrm_id (z := x5) (by omega) (by omega), if_neg (by show ¬ ((900 : Int) ≤ x5); omega), if_neg (by decide : ¬ nrm 1 = 0), if_neg (show ¬ nrm (μ (2 + 1) 0) = 0 from fun q => z ((BS_c hB (k := 24) (by unfold kOk; decide)).mp q)), bn_eq l1]
      rw [hC, hR]
      rcases l5 with ⟨rfl, a', K', V', N', w1, w2⟩ | ⟨rfl, hb⟩
      · have ha' := w2.1.1.2.2.1.2.1
        obtain ⟨μ', ρ', q1, q2, q3, q4, q5⟩ := ih (fu + 1) (fr + 1) (x5 + 1) a' K' V' N' μ1 ρ1 (by omega) (by omega) (by omega) (by omega) (by omega) w2
        exact ⟨μ', ρ', q1, q2, FZ_tr l3 q3, FY_tr l4 q4, q5⟩
      · exact ⟨μ1, ρ1, lines_no, land_no hb.1 hb.2.1, l3, l4, .inr hb⟩
