/-- While a person's 'back' is being read. -/
def PB (n : Int) (T : Int → Int) (La b0 P : Int) (μ ρ : Mem) (a K V N : Int) : Prop := BS n T La μ ρ a K V ∧ LD La (ms μ La 7 b0) (upF (ρ 115) 65 b0) N ∧ N ≤ a ∧ (μ La 7 = ρ 115 65 ∧ 0 ≤ ρ 115 65 ∧ ρ 115 65 < 2 ^ (P + 1).toNat) ∧ ρ 115 3 = P ∧ (0 ≤ P ∧ P < 8) ∧ (μ (La + 6) P = ρ 115 (47 + P) ∧ 0 ≤ ρ 115 (47 + P) ∧ ρ 115 (47 + P) ≤ 8)
theorem pers_end {n La b0 P a K V N : Int} {T : Int → Int} {μ ρ : Mem} (h : PB n T La b0 P μ ρ a K V N) : LRes n T La a μ ρ (f_X7_readPerson_j117 2 μ) (bn (f_X12_readPerson_j80 111 ρ) fun _ ρ1 => f_X12_closes 111 ρ1) := by
  obtain ⟨hB, hD, hN, h7, h3, hP, h6⟩ := h
  have hL := hB.2.2.2
  have hLo := hL
  unfold isL at hLo
  have e2 : μ La 2 = P := by
    have := hD.1.2.2.1.1
    rw [ms_ni (by decide), upF_ne (by decide), h3] at this
    exact this
  have hS : LnS n T La (ms μ La 2 (P + 1)) (ms ρ 115 3 (P + 1)) a K V N := by
    refine ⟨BS_co hB (fun i => ms_nc (by omega)) (fun i => ms_nc (by omega)) (fun i _ _ => ms_nc (by omega)) (fun i => ms_nc (by decide)) (fun i => ms_nc (by decide)), ?_, hN⟩
    rw [up115]
    exact LD_person hD h3 hP.2 h7.1 h7.2.1 h7.2.2 h6
  unfold f_X7_readPerson_j117 f_X12_readPerson_j80
  rw [show (111 + 4 : Int) = 115 from rfl, hB.2.2.1, gd_pos (isL_k hL), nm_eq, e2, hB.2.1, if_pos (by decide : nrm 0 = 0), nm_eq, bn_eq rfl, h3]
  exact LRes_fr (LRes_b (close_ok hS)) (by omega) (FZ_ms (by omega)) FY_ms
theorem pers_w {n La b0 P : Int} {T : Int → Int} : ∀ (m fu fr : Nat) (x2 a K V N : Int) (μ ρ : Mem), (900 - a).toNat ≤ m → m < fu → m < fr → 0 ≤ x2 → x2 ≤ a → PB n T La b0 P μ ρ a K V N →
    LRes n T La a μ ρ (f_X7_readPerson_w69 fu 2 P x2 μ) (bn (f_X12_readPerson_w48 fr 111 P ρ) fun _ ρ1 => f_X12_closes 111 ρ1) := by
  intro m
  induction m with
  | zero =>
    intro fu fr x2 a K V N μ ρ hm hu hr x0 xa h
    obtain ⟨fu, rfl⟩ : ∃ f, fu = f + 1 := ⟨fu - 1, by omega⟩
    obtain ⟨fr, rfl⟩ : ∃ f, fr = f + 1 := ⟨fr - 1, by omega⟩
    have hB := h.1
    have hn := hB.1.1.2.1
    have ha := hB.1.2.2.1.2
    have nK : K ≠ 11 := by
      intro z
      obtain ⟨_, _, a', _, _, _, _, _, _, y5, y6, _⟩ := BS_step hB (by omega)
      have := y6.1.2.2.1.2
      omega
    have nc : ¬ nrm (μ (2 + 1) 0) = nrm 139 := fun q => nK ((BS_c hB (k := 11) (by unfold kOk; decide)).mp q)
    rw [f_X7_readPerson_w69, f_X12_readPerson_w48, hB.2.1, if_pos (by decide : nrm 0 = 0), bn_eq (BS_no hB (by unfold kOk; decide) nK), if_pos (by decide : nrm 0 = 0), if_neg nc]
    by_cases y : nrm 900 ≤ nrm x2
    · rw [if_pos y]; exact pers_end h
    · rw [if_neg y]; exact pers_end h
  | succ m ih =>
    intro fu fr x2 a K V N μ ρ hm hu hr x0 xa h
    obtain ⟨fu, rfl⟩ : ∃ f, fu = f + 1 := ⟨fu - 1, by omega⟩
    obtain ⟨fr, rfl⟩ : ∃ f, fr = f + 1 := ⟨fr - 1, by omega⟩
    have hh := h
    obtain ⟨hB, hD, hN, h7, h3, hP, h6⟩ := h
    have hL := hB.2.2.2
    have hLo := hL
    unfold isL at hLo
    have hn := hB.1.1.2.1
    have ha := hB.1.2.2.1.2
    rw [f_X7_readPerson_w69, f_X12_readPerson_w48, hB.2.1, if_pos (by decide : nrm 0 = 0)]
    by_cases z : K = 11
    · have hB' : BS n T La (ms μ La 7 (jor (ρ 115 65) (jshl 1 P))) ρ a K V := BS_co hB (fun i => ms_nc (by omega)) (fun i => ms_nc (by omega)) (fun i _ _ => ms_nc (by omega)) (fun _ => rfl) (fun _ => rfl)
      obtain ⟨μ', ρ', a', K', V', y1, y2, y3, y4, y5, y6, _⟩ := BS_step hB' (by omega)
      have ha' := y6.1.2.2.1.2
      have e65 : ρ' 115 65 = ρ 115 65 := y4 115 65 (by decide)
      have hj := jor_in hP.1 hP.2 h7.2.1 h7.2.2
      have hN' : PB n T La b0 P μ' (ms ρ' 115 65 (jor (ρ 115 65) (jshl 1 P))) a' K' V' N := by
        refine ⟨BS_co y6 (fun _ => rfl) (fun _ => rfl) (fun _ _ _ => rfl) (fun i => ms_nc (by decide)) (fun i => ms_nc (by decide)), ?_, by omega, ⟨?_, ?_, ?_⟩, ?_, hP, ?_⟩
        · refine LD_co hL (fun c i c1 c2 => ?_) (fun i => ?_) hD
          · rw [ms_at, ms_at]
            by_cases q : c = La ∧ i = 7
            · rw [if_pos q, if_pos q]
            · rw [if_neg q, if_neg q, y3 c i (by omega) (by omega), ms_at, if_neg q]
          · rw [up115]
            by_cases q : i = 65
            · rw [q, upF_eq, upF_eq]
            · rw [upF_ne q, upF_ne q, upF_ne q, y4 115 i (by omega)]
        · rw [y3 La 7 (by omega) (by omega), ms_eq, ms_eq]
        · rw [ms_eq]; exact hj.1
        · rw [ms_eq]; exact hj.2
        · rw [ms_ni (by decide), y4 115 3 (by decide)]; exact h3
        · rw [ms_ni (by omega), y4 115 (47 + P) (by omega), y3 (La + 6) P (by omega) (by omega), ms_nc (by omega)]
          exact h6
      rw [nrm_id (z := x2) (by omega) (by omega), if_neg (by show ¬ ((900 : Int) ≤ x2); omega), if_pos (show nrm (μ (2 + 1) 0) = nrm 139 from (BS_c hB (k := 11) (by unfold kOk; decide)).mpr z), hB.2.2.1, gd_pos (isL_k hL), h7.1, nm_eq, show (2 + 1 : Int) = 3 from rfl, bn_eq y1, bn_eq (BS_yes hB (by unfold kOk; decide) z y2), if_neg (by decide : ¬ nrm 1 = 0), show (111 + 4 : Int) = 115 from rfl, e65, nm_eq]
      exact LRes_fr (ih fu fr (x2 + 1) a' K' V' N _ _ (by omega) (by omega) (by omega) (by omega) (by omega) hN') (by omega) (FZ_tr (FZ_ms (by omega)) (FZ_l y3)) (FY_tr (FY_q y4) FY_ms)
    · have nc : ¬ nrm (μ (2 + 1) 0) = nrm 139 := fun q => z ((BS_c hB (k := 11) (by unfold kOk; decide)).mp q)
      rw [bn_eq (BS_no hB (by unfold kOk; decide) z), if_pos (by decide : nrm 0 = 0), if_neg nc]
      by_cases y : nrm 900 ≤ nrm x2
      · rw [if_pos y]; exact pers_end hh
      · rw [if_neg y]; exact pers_end hh
theorem pw_no {P : Int} {fr : Nat} {ρ : Mem} (h : 1 ≤ ρ 111 11) (h4 : ρ 111 11 ≤ 4) : f_X12_readPerson_w48 (fr + 1) 111 P ρ = some (0, ρ) := by
  rw [f_X12_readPerson_w48, nrm_id (z := ρ 111 11) (by omega) (by omega), if_neg (by omega)]
  unfold f_X12_readPerson_j80
  rw [nrm_id (z := ρ 111 11) (by omega) (by omega), if_neg (by omega)]
/-- A line of a person. -/
theorem person_ok {n La a K V N : Int} {T : Int → Int} {μ ρ : Mem} (h : LnS n T La μ ρ a K V N) (hK : K ≠ 24) : LRes n T La a μ ρ (f_X7_readPerson 2 μ) (bn (f_X12_readPerson 111 ρ) fun _ ρ1 => f_X12_closes 111 ρ1) := by
  have hB := h.1
  have hL := hB.2.2.2
  have hLo := hL
  unfold isL at hLo
  obtain ⟨e2, P0, P8⟩ := h.2.1.1.2.2.1
  generalize hP : ρ 115 3 = P at *
  have nP : nrm P = P := nrm_id (by omega) (by omega)
  unfold f_X7_readPerson f_X12_readPerson
  rw [hB.2.2.1, gd_pos (isL_k hL), nm_eq, e2, nP, if_neg (by omega), show (111 + 4 : Int) = 115 from rfl, nm_eq, hP, nP]
  by_cases q : P = 8
  · obtain ⟨μ', ρ', y1, y2, y3, y4, y5⟩ := BS_bad hB (x := 4) (by decide) (by decide)
    obtain ⟨ρ6, c1, c2, c3⟩ := close_no y5
    have w1 := y5.1
    have w2 := y5.2.1
    unfold f_X7_readPerson_j18 f_X12_readPerson_j18
    rw [if_neg (show ¬ (P < nrm 8) by show ¬ (P < (8 : Int)); omega), if_pos (show P = nrm 8 from q), bn_eq y1, gd_pos (by decide), bn_eq y2, nrm_id (z := ρ' 111 11) (by omega) (by omega), if_neg (by omega), bn_eq rfl]
    exact ⟨0, μ', ρ6, rfl, c1, FZ_l y3, FY_tr (FY_q y4) c2, .inr ⟨rfl, c3⟩⟩
  · unfold f_X12_readPerson_j18
    obtain ⟨μ1, ρ1, a1, K1, V1, y1, y2, y3, y4, y5, y6⟩ := LS_step h hK
    obtain ⟨r, μ2, ρ2, t1, t2, t3, t4, t5⟩ := LnS_take y6 (k := 10) (ck := 138) (by unfold kOk; decide) (by decide) (by decide)
    have F2 := FZ_tr (FZ_l (La := La) y3) (FZ_l t3)
    have S2 := FY_tr (FY_q y4) (FY_q t4)
    have n47 : nrm (47 + P) = 47 + P := nrm_id (by omega) (by omega)
    have fail : ∀ (μx ρx : Mem) (v : Int), FZ La μ μx → FY ρ ρx → Bd μx ρx → LRes n T La a μ ρ (some (0, μx)) (bn (f_X12_readPerson_w48 FU 111 P (ms ρx 115 (47 + P) v)) fun _ ρ1 => f_X12_closes 111 ρ1) := by
      intro μx ρx v fz fy hb
      have hb' := Bd_115 (i := 47 + P) (v := v) hb
      obtain ⟨ρ6, c1, c2, c3⟩ := close_no hb'
      refine ⟨0, μx, ρ6, rfl, ?_, fz, FY_tr fy (FY_tr FY_ms c2), .inr ⟨rfl, c3⟩⟩
      rw [show FU = 9999 + 1 from rfl, bn_eq (pw_no hb'.1 hb'.2.1)]
      exact c1
    rw [if_pos (show P < nrm 8 by show P < (8 : Int); omega), if_neg (show ¬ P = nrm 8 from q), hB.2.1, if_pos (by decide : nrm 0 = 0), show (2 + 1 : Int) = 3 from rfl, bn_eq y1, bn_eq t1, bn_eq y2, named_y t2, show (111 + 4 : Int) = 115 from rfl, n47]
    rcases t5 with ⟨rfl, a2, K2, V2, w1, w2⟩ | ⟨rfl, hb⟩
    · obtain ⟨hB2, hD2, hN2⟩ := w2
      obtain ⟨r, v, μ3, ρ3, x1, x2, x3, x4, x5⟩ := BS_num hB2 (lo := 0) (hi := 8) (bar := -1) (by decide) (by decide) (by decide) (by decide) (.inl rfl) rfl
      have F3 := FZ_tr F2 (FZ_l x3)
      have S3 := FY_tr S2 (FY_q x4)
      rw [if_neg (by decide : ¬ nrm 1 = 0), bn_eq x1, bn_eq x2, gd_pos (show 0 ≤ 47 + P ∧ 47 + P < 1100 by omega), nm_eq]
      rcases x5 with ⟨rfl, z1, z2, z3, _, a', K', V', z5, z6⟩ | ⟨rfl, hb⟩
      · have hS3 : LnS n T La μ3 ρ3 a' K' V' N := ⟨z6, LD_l hL hD2 x3 x4, by omega⟩
        have e3 : ρ3 115 3 = P := by rw [x4 115 3 (by decide), t4 115 3 (by decide), y4 115 3 (by decide)]; exact hP
        have hS4 := LS_row (k := 6) (g := 47 + P) (j := P) (v := v) hS3 P0 (by omega)
        obtain ⟨hB4, hD4, hN4⟩ := hS4
        obtain ⟨d1, d2, d3⟩ := hD4.2.2.2.1
        rw [ms_ni (by omega : (3 : Int) ≠ 47 + P), e3] at d3
        have hPB : PB n T La (ms ρ3 115 (47 + P) v 115 65) P (ms μ3 (La + 6) P v) (ms ρ3 115 (47 + P) v) a' K' V' N := by
          refine ⟨hB4, LD_co hL (fun c i c1 c2 => ?_) (fun i => ?_) hD4, hN4, ⟨d1, d2, ?_⟩, by rw [ms_ni (by omega)]; exact e3, by omega, ?_⟩
          · rw [ms_at]
            by_cases y : c = La ∧ i = 7
            · rw [if_pos y, y.1, y.2]; exact d1.symm
            · rw [if_neg y]
          · by_cases y : i = 65
            · rw [y, upF_eq]
            · rw [upF_ne y]
          · have hp : (2 : Int) ^ P.toNat ≤ 2 ^ (P + 1).toNat := by
              rw [show (P + 1).toNat = P.toNat + 1 by omega, Int.pow_succ]
              have : (0 : Int) < 2 ^ P.toNat := Int.pow_pos (by decide)
              omega
            omega
          · rw [ms_eq, ms_eq]
            exact ⟨rfl, z2, z3⟩
        rw [if_neg (by decide : ¬ nrm 1 = 0), z6.2.2.1, gd_pos (isL_k hL), gd_pos (show 0 ≤ P ∧ P < 8 by omega), z1, nm_eq]
        have a0' := z6.1.2.2.1.1
        exact LRes_fr (pers_w 900 FU FU 0 a' K' V' N _ _ (by omega) (by decide) (by decide) (by decide) z6.1.2.2.1.1 hPB) (by omega) (FZ_tr F3 (FZ_ms (by omega))) (FY_tr S3 FY_ms)
      · rw [if_pos (by decide : nrm 0 = 0)]
        exact fail μ3 ρ3 v F3 S3 hb
    · rw [if_pos (by decide : nrm 0 = 0), bn_eq (takes_no hb.1 hb.2.1), gd_pos (show 0 ≤ 47 + P ∧ 47 + P < 1100 by omega), nm_eq]
      exact fail μ2 ρ2 _ F2 S2 hb
