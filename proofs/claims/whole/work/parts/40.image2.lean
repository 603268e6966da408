theorem op_image (a : Int) (ha : nrm a = a) : Op2 (f_X11_image 0 a) (f_X12_image 111 a) := by
  intro μ ρ h
  have h' := RR_co (SaC_rfl μ) (SaR_thrown ρ 0) h
  generalize hρ : ms ρ 111 0 0 = ρ1 at h'
  unfold f_X11_image f_X12_image
  simp only [nm_eq, hρ]
  rw [bn_eq (pictureOf_eq μ ha), bn_within ha rfl rfl]
  by_cases g1 : 0 ≤ a ∧ a < 2
  · have a1 : a = 0 ∨ a = 1 := by omega
    simp only [if_pos g1]
    rw [if_pos (by omega : 0 ≤ a ∧ a ≤ 1), if_neg (by omega : ¬ 85 + 2 * a < 0), gd_pos (pic_k a1), if_neg (by decide : ¬ nrm 1 = 0)]
    simp only [Int.zero_add]
    rw [bn_eq (takeOver_eq μ kk_58 (by omega) (by omega) (by omega))]
    have hi := image_w (ρ := ρ1) a1 1100 0 FU (by omega) (by unfold FU; omega)
    simp only [Int.ofNat_zero, Int.natCast_zero, cpr_0] at hi
    rw [hi]
    simp only [wp_some]
    refine ⟨trivial, ?_⟩
    obtain ⟨h1, h2, h3, h4, ⟨h5, h6, h7⟩, h8⟩ := h'
    have h9 := LR_2 h3.2.1
    have h9' : ρ1 112 2 ≤ 9 := by simpa [rowA] using h9
    have p0 := h5.1
    have p1 := h6.1
    refine RR_of ⟨TapeR_c ?_ ?_ ?_ ?_ h1, FaultR_c ?_ ?_ ?_ ?_ ?_ h2, NowR_c ?_ ?_ ?_ ?_ h3, HistR_c ?_ ?_ ?_ h9' h4, ?_⟩ ?_
    · simp (disch := omega) only [tko_nc, ms_nc, ms_ni]
    · intro i; simp (disch := omega) only [tko_nc, ms_nc]
    · simp (disch := omega) only [cpr_nc, ms_nc]
    · intro i; simp (disch := omega) only [cpr_nc, ms_nc]
    · simp (disch := omega) only [tko_nc, ms_nc, ms_ni]
    · simp (disch := omega) only [tko_nc, ms_nc, ms_ni]
    · simp (disch := omega) only [cpr_nc, ms_nc]
    · simp (disch := omega) only [cpr_nc, ms_nc]
    · intro i hi; simp (disch := omega) only [tko_nc, ms_nc]
    · intro c i c1 c2 c3 c4; simp (disch := omega) only [tko_nc, ms_nc]
    · intro i; simp (disch := omega) only [tko_nc, ms_nc]
    · intro i; simp (disch := omega) only [tko_nc, ms_nc]
    · intro i hi; simp (disch := omega) only [cpr_out, ms_nc]
    · simp (disch := omega) only [tko_nc, ms_nc]
    · intro c i c1 c2; simp (disch := omega) only [tko_nc, ms_nc]
    · intro i hi; simp (disch := omega) only [cpr_out, ms_nc]
    · have new : ImgR (ms (tko μ (85 + 2 * a) 58) 0 10 (jor (tko μ (85 + 2 * a) 58 0 10) (jshl 1 a))) (ms (cpr ρ1 112 (1100 * (a + 1)) 112 0 1100) 113 a 1) a := by
        have eA : ∀ j, 0 ≤ j → j < 1100 → rowA (ms (cpr ρ1 112 (1100 * (a + 1)) 112 0 1100) 113 a 1) (1100 * (a + 1)) j = rowA ρ1 0 j := by
          intro j j1 j2
          unfold rowA
          rw [ms_nc (by omega), cpr_in (by omega) (by omega)]
          congr 1
          omega
        have eL : (ms (tko μ (85 + 2 * a) 58) 0 10 (jor (tko μ (85 + 2 * a) 58 0 10) (jshl 1 a))) (85 + 2 * a) 0 = μ 58 0 := by
          rw [ms_nc (by omega), tko_at (by omega) (by omega)]
        unfold ImgR
        rw [ms_eq, eL]
        refine ⟨.inr rfl, h3.1, fun _ => ⟨LR_cA (A := rowA ρ1 0) (fun j hj => eA j (by omega) (by omega)) (LR_co h3.1 ?_ h3.2.1), CR_cA (A := rowA ρ1 0) h9 (eA 1 (by omega) (by omega)) (eA 2 (by omega) (by omega)) (eA 3 (by omega) (by omega)) (fun j j1 j2 => eA j (by omega) (by omega)) (CR_co ?_ ?_ (CR_tko (d := 85 + 2 * a) h9 h3.2.2))⟩⟩
        · intro c i c1 c2 c3
          have hL := h3.1
          unfold isL at hL
          simp (disch := omega) only [tko_nc, ms_nc]
        · intro i; simp (disch := omega) only [ms_nc]
        · intro i; simp (disch := omega) only [ms_nc]
      have old : ∀ i, (i = 0 ∨ i = 1) → i ≠ a → ImgR μ ρ1 i → ImgR (ms (tko μ (85 + 2 * a) 58) 0 10 (jor (tko μ (85 + 2 * a) 58 0 10) (jshl 1 a))) (ms (cpr ρ1 112 (1100 * (a + 1)) 112 0 1100) 113 a 1) i := by
        intro i hi hn h
        refine ImgR_c hi ?_ ?_ ?_ ?_ ?_ h
        · intro c i c1 c2 c3 c4; simp (disch := omega) only [tko_nc, ms_nc]
        · intro j; simp (disch := omega) only [tko_nc, ms_nc]
        · intro j; simp (disch := omega) only [tko_nc, ms_nc]
        · simp (disch := omega) only [cpr_nc, ms_ni]
        · intro j j1 j2; simp (disch := omega) only [cpr_out, ms_nc]
      have em := made_jor a1 p0 p1
      rw [← h7] at em
      rcases a1 with rfl | rfl
      · refine ⟨new, old 1 (.inr rfl) (by decide) h6, ?_⟩
        rw [ms_eq, ms_eq, ms_ni (by decide), cpr_nc (by decide), tko_nc (by decide) (by decide), em, if_pos rfl]
      · refine ⟨old 0 (.inl rfl) (by decide) h5, new, ?_⟩
        rw [ms_eq, ms_eq, ms_ni (by decide), cpr_nc (by decide), tko_nc (by decide) (by decide), em, if_neg (by decide)]
        rfl
    · intro t t1 t2
      refine TrayR_c (μ := μ) (ρ := ρ1) ?_ ?_ ?_ ?_ ?_ (h8 t t1 t2)
      · intro j; simp (disch := omega) only [tko_nc, ms_nc]
      · intro j; simp (disch := omega) only [tko_nc, ms_nc]
      · simp (disch := omega) only [cpr_nc, ms_nc]
      · simp (disch := omega) only [cpr_nc, ms_nc]
      · intro j j1 j2; simp (disch := omega) only [cpr_nc, ms_nc]
  · simp only [if_neg g1]
    rw [if_pos (by decide : (-1 : Int) < 0), if_neg (by omega : ¬ (0 ≤ a ∧ a ≤ 1)), if_pos (by decide : nrm 0 = 0)]
    simp only [wp_some]
    exact ⟨trivial, h'⟩
theorem op_restore (a : Int) (ha : nrm a = a) : Op2 (f_X11_restore 0 a) (f_X12_restore 111 a) := by
  intro μ ρ h
  have h' := RR_co (SaC_rfl μ) (SaR_thrown ρ 0) h
  generalize hρ : ms ρ 111 0 0 = ρ1 at h'
  unfold f_X11_restore f_X12_restore
  simp only [nm_eq, hρ]
  rw [bn_eq (pictureOf_eq μ ha), bn_within ha rfl rfl]
  by_cases g1 : 0 ≤ a ∧ a < 2
  · have a1 : a = 0 ∨ a = 1 := by omega
    simp only [if_pos g1]
    rw [if_pos (by omega : 0 ≤ a ∧ a ≤ 1), if_neg (by omega : ¬ 85 + 2 * a < 0), if_neg (by decide : ¬ nrm 1 = 0), ha, gd_pos g1]
    have hr := h'
    obtain ⟨h1, h2, h3, h4, ⟨h5, h6, h7⟩, h8⟩ := h'
    have p0 := h5.1
    have p1 := h6.1
    have hI : ImgR μ ρ1 a := by
      rcases a1 with rfl | rfl
      · exact h5
      · exact h6
    have eb := made_bit a1 p0 p1
    rw [← h7] at eb
    have eb' : nrm (jand (jshr (μ 0 10) a) 1) = ρ1 113 a := by
      rw [eb]
      rcases a1 with rfl | rfl
      · exact if_pos rfl
      · exact if_neg (by decide)
    rw [eb']
    simp only [Int.zero_add, Int.reduceAdd]
    have eh : nrm (ρ1 113 a) = ρ1 113 a := by
      rcases hI.1 with e | e <;> rw [e] <;> rfl
    simp only [eh]
    by_cases g2 : ρ1 113 a = 0
    · rw [if_pos g2, if_pos g2]
      simp only [wp_some]
      exact ⟨trivial, hr⟩
    · rw [if_neg g2, if_neg g2]
      obtain ⟨i1, i2, i3⟩ := hI
      obtain ⟨l1, c1⟩ := i3 (by omega)
      have h9 := LR_2 l1
      rw [bn_eq (takeOver_eq μ (pic_k a1) (by omega) (by omega) (by omega))]
      simp only [f_X2_forgetAll, nm_eq, bn_eq rfl]
      have hi := restore_w (ρ := ρ1) a1 1100 0 FU (by omega) (by unfold FU; omega)
      simp only [Int.ofNat_zero, Int.natCast_zero, cpr_0] at hi
      rw [hi]
      simp only [wp_some]
      refine ⟨trivial, ?_⟩
      have eA : ∀ j, 0 ≤ j → j < 1100 → j ≠ 68 → rowA (ms (cpr ρ1 112 0 112 (1100 * (a + 1)) 1100) 112 68 0) 0 j = rowA ρ1 (1100 * (a + 1)) j := by
        intro j j1 j2 j3
        unfold rowA
        rw [ms_ni (by omega), cpr_in (by omega) (by omega)]
        congr 1
        omega
      refine RR_of ⟨TapeR_c ?_ ?_ ?_ ?_ h1, FaultR_c ?_ ?_ ?_ ?_ ?_ h2, ?_, ?_, ?_⟩ ?_
      · simp (disch := omega) only [tko_nc, ms_nc]
      · intro i; simp (disch := omega) only [tko_nc, ms_nc]
      · simp (disch := omega) only [cpr_nc, ms_nc]
      · intro i; simp (disch := omega) only [cpr_nc, ms_nc]
      · simp (disch := omega) only [tko_nc, ms_nc]
      · simp (disch := omega) only [tko_nc, ms_nc]
      · simp (disch := omega) only [cpr_nc, ms_nc]
      · simp (disch := omega) only [cpr_nc, ms_nc]
      · intro i hi; simp (disch := omega) only [tko_nc, ms_nc]
      · unfold NowR
        rw [ms_nc (by omega), tko_at (by omega) (by omega)]
        refine ⟨i2, LR_cA (A := rowA ρ1 (1100 * (a + 1))) (fun j hj => eA j (by omega) (by omega) (by omega)) (LR_co i2 ?_ l1), CR_cA (A := rowA ρ1 (1100 * (a + 1))) h9 (eA 1 (by omega) (by omega) (by omega)) (eA 2 (by omega) (by omega) (by omega)) (eA 3 (by omega) (by omega) (by omega)) (fun j j1 j2 => eA j (by omega) (by omega) (by omega)) (CR_co ?_ ?_ (CR_tko (d := 58) h9 c1))⟩
        · intro c i c1 c2 c3
          unfold isL at i2
          simp (disch := omega) only [tko_nc, ms_nc]
        · intro i; simp (disch := omega) only [ms_nc]
        · intro i; simp (disch := omega) only [ms_nc]
      · unfold HistR
        rw [ms_eq, ms_eq, ms_ni (by decide), tko_nc (by decide) (by decide)]
        refine ⟨rfl, by decide, by decide, h4.2.2.2.1, h4.2.2.2.2.1, fun k k1 k2 => absurd k2 (by omega)⟩
      · have old : ∀ i, (i = 0 ∨ i = 1) → ImgR μ ρ1 i → ImgR (ms (tko μ 58 (85 + 2 * a)) 62 2 0) (ms (cpr ρ1 112 0 112 (1100 * (a + 1)) 1100) 112 68 0) i := by
          intro i hi h
          refine ImgR_c hi ?_ ?_ ?_ ?_ ?_ h
          · intro c i c1 c2 c3 c4; simp (disch := omega) only [tko_nc, ms_nc]
          · intro j; simp (disch := omega) only [tko_nc, ms_nc]
          · intro j; simp (disch := omega) only [tko_nc, ms_nc]
          · simp (disch := omega) only [cpr_nc, ms_nc]
          · intro j j1 j2; simp (disch := omega) only [cpr_out, ms_ni]
        refine ⟨old 0 (.inl rfl) h5, old 1 (.inr rfl) h6, ?_⟩
        simp (disch := omega) only [tko_nc, ms_nc, cpr_nc]
        exact h7
      · intro t t1 t2
        refine TrayR_c (μ := μ) (ρ := ρ1) ?_ ?_ ?_ ?_ ?_ (h8 t t1 t2)
        · intro j; simp (disch := omega) only [tko_nc, ms_nc]
        · intro j; simp (disch := omega) only [tko_nc, ms_nc]
        · simp (disch := omega) only [cpr_nc, ms_nc]
        · simp (disch := omega) only [cpr_nc, ms_nc]
        · intro j j1 j2; simp (disch := omega) only [cpr_nc, ms_nc]
  · simp only [if_neg g1]
    rw [if_pos (by decide : (-1 : Int) < 0), if_neg (by omega : ¬ (0 ≤ a ∧ a ≤ 1)), if_pos (by decide : nrm 0 = 0)]
    simp only [wp_some]
    exact ⟨trivial, h'⟩
