theorem td_50 {C : Int} (μ : Mem) : f_X0_tryDeed C 50 μ = gd (isK (μ C 0) 3) (bn (f_X3_backBehindSeason (μ C 0) (μ C 3) μ) fun r30 μ29 => some (0, ms μ29 C 3 r30)) := by
  obtain ⟨a1, a2, a3, a4, a5⟩ := td_cmp (v := 50) (by decide) (by decide)
  unfold f_X0_tryDeed
  rw [if_neg a1, if_pos a2, nm_eq, a3, a4, a5, if_neg (by decide), if_neg (by decide), if_neg (by decide), if_neg (by decide), if_neg (by decide)]
  rfl
theorem seas_w {a La : Int} (a9 : a ≤ 99) : ∀ (r n m : Nat) (i : Int) (μ ρ : Mem), 0 ≤ i → i + r = a → r < n → r < m → JR μ 58 ρ → μ 58 0 = La →
    ∃ μ' ρ', f_X11_seasons_w27 n 0 a i μ = some (boM (μ' 58 3), μ') ∧ f_X12_seasons_w26 m 111 a i ρ = (bn (f_X12_notes 111 ρ') fun _ μ2 => bn (f_X12_bitsOf (μ2 112 65) μ2) fun r6 μ5 => some (r6, μ5)) ∧ JR μ' 58 ρ' ∧ ScD 58 La μ μ' ∧ DcR ρ ρ' := by
  intro r
  induction r with
  | zero =>
    intro n m i μ ρ i0 ia hn hm j hLa
    obtain ⟨n, rfl⟩ : ∃ q, n = q + 1 := ⟨n - 1, by omega⟩
    obtain ⟨m, rfl⟩ : ∃ q, m = q + 1 := ⟨m - 1, by omega⟩
    obtain ⟨_, _, _, _, _, _, _, _, _, ⟨b1, b2, b3⟩, _⟩ := now_is j
    refine ⟨μ, ρ, ?_, ?_, j, ScD_rf, DcR_rf⟩
    · rw [f_X11_seasons_w27, nrm_id (z := a) (by omega) (by omega), nrm_id (z := i) (by omega) (by omega), if_pos (by omega), show (0 + 58 : Int) = 58 from rfl, bn_eq (bitCount_eq _ _), b1, (bits_eq b2 b3).1]
    · rw [f_X12_seasons_w26, nrm_id (z := a) (by omega) (by omega), nrm_id (z := i) (by omega) (by omega), if_pos (by omega)]
      rfl
  | succ r ih =>
    intro n m i μ ρ i0 ia hn hm j hLa
    obtain ⟨n, rfl⟩ : ∃ q, n = q + 1 := ⟨n - 1, by omega⟩
    obtain ⟨m, rfl⟩ : ∃ q, m = q + 1 := ⟨m - 1, by omega⟩
    obtain ⟨hL, hR, _, _, _, _, _, _, _, ⟨b1, b2, b3⟩, _⟩ := now_is j
    obtain ⟨P1, P2, P3, P4⟩ := now_P j
    have si := seaM_in (A := rowA ρ 0) (b := ρ 112 65) (by rw [rowA_0]; exact P2) (by rw [rowA_0]; exact P3) b2 (by rw [rowA_0]; exact P4)
    rw [rowA_0] at si
    obtain ⟨n1, n2, n3⟩ := back_new (b := seaM (rowA ρ 0) (ρ 112 65)) (.inl rfl) j si.1 si.2
    have td : f_X0_tryDeed 58 50 μ = some (0, ms μ 58 3 (seaM (rowA ρ 0) (ρ 112 65))) := by
      rw [td_50, gd_pos (isL_k hL), b1, bn_eq (backBehind_eq hR b2 b3)]
    rw [hLa] at n2
    obtain ⟨μ', ρ', p1, p2, p3, p4, p5⟩ := ih n m (i + 1) _ _ (by omega) (by omega) (by omega) (by omega) n1 (by rw [n2.2]; exact hLa)
    refine ⟨μ', ρ', ?_, ?_, p3, ScD_tr n2 p4, DcR_tr (DcS_R n3) p5⟩
    · rw [f_X11_seasons_w27, nrm_id (z := a) (by omega) (by omega), nrm_id (z := i) (by omega) (by omega), if_neg (by omega), show (0 + 58 : Int) = 58 from rfl, bn_eq td]
      exact p1
    · rw [f_X12_seasons_w26, nrm_id (z := a) (by omega) (by omega), nrm_id (z := i) (by omega) (by omega), if_neg (by omega), show (111 + 1 : Int) = 112 from rfl, bn_eq (seasonTo_eq hR b2 P4), nm_eq]
      exact p2
theorem op_seasons (a : Int) (ha : nrm a = a) : Op2 (f_X11_seasons 0 a) (f_X12_seasons 111 a) := by
  intro μ ρ h
  have h' := RR_co (SaC_rfl μ) (SaR_thrown ρ 0) h
  generalize hρ : ms ρ 111 0 0 = ρ1 at h'
  have hH := h'.2.2.2.1
  have g0 := hH
  obtain ⟨g1, g2, g3, g4, g5, _⟩ := g0
  have hL := h'.2.2.1.1
  have hL' := hL
  unfold isL at hL'
  have h9 := LR_2 h'.2.2.1.2.1
  rw [rowA_0] at h9
  unfold f_X11_seasons f_X12_seasons
  rw [nm_eq, hρ, bn_within ha rfl rfl, ha, show nrm 1 = 1 from rfl, show nrm 99 = 99 from rfl, show (0 + 62 : Int) = 62 from rfl, show (0 + 58 : Int) = 58 from rfl]
  by_cases g : 1 ≤ a ∧ a ≤ 99
  · rw [if_neg (by omega : ¬ a < 1), if_pos g.2, if_pos g, if_neg (by decide : ¬ nrm 1 = 0), bn_eq (keep_eq (.inl rfl) g4 g5 (by omega) (by omega)), bn_eq (stores_eq ρ1)]
    have e58 : ∀ i, keepM μ 58 58 i = μ 58 i := fun i => kp_o g4 g5 (by decide)
    have e59 : ∀ i, keepM μ 58 59 i = μ 59 i := fun i => kp_o g4 g5 (by decide)
    have j1 : JR (keepM μ 58) 58 (cpr ρ1 118 0 112 55 13) := by
      refine JR_st ?_
      unfold JR
      rw [e58]
      exact ⟨hL, LR_co hL (fun c i c1 c2 _ => kp_o g4 g5 (by omega)) h'.2.2.1.2.1, CR_co e58 e59 h'.2.2.1.2.2⟩
    obtain ⟨μ2, ρ2, p1, p2, p3, p4, p5⟩ := seas_w (La := μ 58 0) g.2 a.toNat FU FU 0 _ _ (by decide) (by omega) (by unfold FU; omega) (by unfold FU; omega) j1 (e58 0)
    have er : ∀ c i, c ≠ 116 → c ≠ 117 → c ≠ 118 → ¬ (c = 112 ∧ 55 ≤ i ∧ i < 68) → ¬ (c = 111 ∧ 19 ≤ i) → ρ2 c i = ρ1 c i := by
      intro c i e1 e2 e3 e4 e5
      rw [p5 c i e1 e2 e4 e5, cpr_nc e3]
    have ew : ∀ j, 0 ≤ j → j < 13 → ρ2 118 j = ρ1 112 (55 + j) := by
      intro j j0 j1
      rw [p5 118 j (by decide) (by decide) (by omega) (by omega), cpr_in (by omega) (by omega)]
      congr 1
      omega
    have hH2 : HistR μ ρ2 := HistR_c rfl (fun c i c1 c2 => rfl) (fun i hi => er 112 i (by decide) (by decide) (by decide) (by omega) (by omega)) h9 hH
    have k0 := hH2
    obtain ⟨k1, k2, k3, _⟩ := k0
    have hW : CR μ 58 (wasA ρ2) 55 := by
      refine CR_mv (A := rowA ρ1 0) (o := 55) (by rw [rowA_0]; exact h9) ?_ ?_ ?_ ?_ h'.2.2.1.2.2
      · rw [rowA_0]; exact er 112 1 (by decide) (by decide) (by decide) (by omega) (by omega)
      · rw [rowA_0]; exact er 112 2 (by decide) (by decide) (by decide) (by omega) (by omega)
      · rw [rowA_0]; exact er 112 3 (by decide) (by decide) (by decide) (by omega) (by omega)
      · intro j j0 j1
        unfold wasA
        rw [if_pos (by omega), show 55 + j - 55 = j by omega, ew j j0 j1, rowA_0]
    have h92 : ρ2 112 2 ≤ 9 := by rw [er 112 2 (by decide) (by decide) (by decide) (by omega) (by omega)]; exact h9
    have hP := hist_push (.inl rfl) h92 hH2 hW rfl
    have m58 : μ2 58 0 = μ 58 0 := by rw [p4.2]; exact e58 0
    have n9 : notesM ρ2 112 2 ≤ 9 := by rw [nt_o k2 k3 (by omega)]; exact h92
    have hP2 : HistR μ2 (notesM ρ2) := HistR_c (by rw [m58, e58]) (fun c i c1 c2 => p4.1 c i (by omega) (by omega) (by omega) (by omega) (by omega)) (fun i hi => rfl) n9 hP
    have hN : NowR μ2 (notesM ρ2) := NowR_c (fun c i _ _ _ _ => rfl) (fun i => rfl) (fun i => rfl) (fun i hi => nt_o k2 k3 (by omega)) p3
    have hRR : RR μ2 (notesM ρ2) := by
      refine RR_deed h' hL ?_ ?_ hN hP2
      · intro c i e1 e2 e3 e4
        rw [p4.1 c i e1 e2 e3 (by omega) (by omega), kp_o g4 g5 (by omega)]
      · intro c i e1 e2
        unfold EssR at e1
        rw [nt_o k2 k3 (by omega), er c i (by omega) (by omega) (by omega) (by omega) (by omega)]
    rw [p1, p2, bn_eq (notes_eq k2 k3), bn_eq (bitsOf_eq _ _)]
    simp only [wp_some]
    exact ⟨by rw [(RR_55 hRR).2.2], hRR⟩
  · rw [if_neg g, if_pos (by decide : nrm 0 = 0)]
    by_cases a1 : a < 1
    · rw [if_pos a1]; simp only [wp_some]; exact ⟨trivial, h'⟩
    · rw [if_neg a1, if_neg (by omega)]; simp only [wp_some]; exact ⟨trivial, h'⟩
def fmM (x : Int) : Int := if 0 ≤ nrm (jxor x 10) then jrem x 10 else if nrm (jrem x 10) = 0 then jrem x 10 else jrem x 10 + 10
theorem fm_all : ∀ z : Fin 20, fmM ((z.val : Int) - 10) = ((z.val : Int) - 10) % 10 := by decide +kernel
theorem floorMod_eq {x : Int} (μ : Mem) (h1 : -10 ≤ x) (h2 : x < 10) : f_J9_floorMod_7cf53 x 10 μ = some (x % 10, μ) := by
  have := fm_all ⟨(x + 10).toNat, by omega⟩
  simp only [Int.toNat_of_nonneg (show 0 ≤ x + 10 by omega), show x + 10 - 10 = x by omega] at this
  rw [← this]
  unfold f_J9_floorMod_7cf53 fmM
  rw [gd_pos (by decide), nm_eq]
  split
  · rfl
  · split <;> rfl
theorem undo_w {ρ : Mem} {N : Int} (hN : ρ 112 68 = N) (N0 : 0 ≤ N) (N9 : N ≤ 9) : ∀ (d k n : Nat), k + d = 13 → d < n → f_X12_undo_w44 n 111 k (cpr ρ 112 55 112 (69 + 13 * N) k) = some (N, cpr ρ 112 55 112 (69 + 13 * N) 13) := by
  intro d
  induction d with
  | zero =>
    intro i n h1 h2
    obtain ⟨n, rfl⟩ : ∃ m, n = m + 1 := ⟨n - 1, by omega⟩
    have hi : (i : Int) = 13 := by omega
    unfold f_X12_undo_w44
    rw [show (111 + 1 : Int) = 112 from rfl, hi, if_pos (Int.le_refl _), cpr_out (by omega), hN]
  | succ d ih =>
    intro i n h1 h2
    obtain ⟨n, rfl⟩ : ∃ m, n = m + 1 := ⟨n - 1, by omega⟩
    unfold f_X12_undo_w44
    rw [show (111 + 1 : Int) = 112 from rfl, show nrm 13 = 13 from rfl, nrm_id (z := (i : Int)) (by omega) (by omega), if_neg (by omega), cpr_out (c := 112) (j := 68) (by omega), hN, nrm_id (z := 69 + 13 * N + (i : Int)) (by omega) (by omega), gd_pos (by omega), nrm_id (z := 55 + (i : Int)) (by omega) (by omega), gd_pos (by omega), nm_eq]
    have := ih (i + 1) n (by omega) (by omega)
    rw [show ((i + 1 : Nat) : Int) = (i : Int) + 1 by omega, ← cpr_step (by omega) (by omega)] at this
    exact this
theorem op_undo (a : Int) (ha : nrm a = a) : Op2 (f_X11_undo 0 a) (f_X12_undo 111 a) := by
  intro μ ρ h
  have h' := RR_co (SaC_rfl μ) (SaR_thrown ρ 0) h
  generalize hρ : ms ρ 111 0 0 = ρ1 at h'
  have hH := h'.2.2.2.1
  obtain ⟨g1, g2, g3, g4, g5, g6⟩ := hH
  have hL := h'.2.2.1.1
  have hL' := hL
  unfold isL at hL'
  have h9 := LR_2 h'.2.2.1.2.1
  rw [rowA_0] at h9
  unfold f_X11_undo f_X12_undo f_X2_kept
  rw [nm_eq, hρ, bn_within ha rfl rfl, ha, show nrm 1 = 1 from rfl, show nrm 10 = 10 from rfl, show (0 + 62 : Int) = 62 from rfl, show (0 + 58 : Int) = 58 from rfl, show (111 + 1 : Int) = 112 from rfl, bn_eq rfl, g1, nrm_id (z := ρ1 112 68) (by omega) (by omega)]
  by_cases g : 1 ≤ a ∧ a ≤ 10
  · rw [if_neg (by omega : ¬ a < 1), if_neg (by omega : ¬ 10 < a), if_pos g, if_neg (by decide : ¬ nrm 1 = 0)]
    by_cases gn : a ≤ ρ1 112 68
    · rw [if_pos gn, if_pos gn, nm_eq]
      have hq : 0 ≤ (μ 62 1 - a) % 10 ∧ (μ 62 1 - a) % 10 < 10 := by omega
      obtain ⟨c1, c2⟩ := g6 (ρ1 112 68 - a) (by omega) (by omega)
      rw [show μ 62 1 - ρ1 112 68 + (ρ1 112 68 - a) = μ 62 1 - a by omega] at c1 c2
      have hb : f_X2_bringBack 62 a 58 μ = some (0, tko (ms (ms μ 62 1 ((μ 62 1 - a) % 10)) 62 2 (ρ1 112 68 - a)) 58 (64 + 2 * ((μ 62 1 - a) % 10))) := by
        unfold f_X2_bringBack
        have kq : isK (64 + 2 * ((μ 62 1 - a) % 10)) 0 := by
          rcases (by omega : (μ 62 1 - a) % 10 = 0 ∨ (μ 62 1 - a) % 10 = 1 ∨ (μ 62 1 - a) % 10 = 2 ∨ (μ 62 1 - a) % 10 = 3 ∨ (μ 62 1 - a) % 10 = 4 ∨ (μ 62 1 - a) % 10 = 5 ∨ (μ 62 1 - a) % 10 = 6 ∨ (μ 62 1 - a) % 10 = 7 ∨ (μ 62 1 - a) % 10 = 8 ∨ (μ 62 1 - a) % 10 = 9) with e | e | e | e | e | e | e | e | e | e <;> rw [e] <;> decide
        rw [ha, show nrm 1 = 1 from rfl, if_neg (by omega), g1, nrm_id (z := ρ1 112 68) (by omega) (by omega), if_pos gn, bn_eq (floorMod_eq μ (by omega) (by omega)), nrm_id (z := (μ 62 1 - a) % 10) (by omega) (by omega), show nrm 10 = 10 from rfl, if_neg (by omega), if_neg (by omega), gd_pos hq, if_neg (by omega), nm_eq, nm_eq, gd_pos hq, gd_pos kk_58, ms_ni (by decide), g1, show (62 + 1 + 1 : Int) = 64 from rfl, bn_eq (takeOver_eq _ kq (by omega) (by omega) (by omega))]
      rw [bn_eq hb, bn_eq rfl]
      have hu := undo_w (ρ := ms ρ1 112 68 (ρ1 112 68 - a)) (N := ρ1 112 68 - a) (ms_eq _ _ _ _) (by omega) (by omega) 13 0 FU (by omega) (by unfold FU; omega)
      simp only [Int.ofNat_zero, Int.natCast_zero, cpr_0] at hu
      rw [hu]
      simp only [wp_some]
      have e62 : ∀ i, tko (ms (ms μ 62 1 ((μ 62 1 - a) % 10)) 62 2 (ρ1 112 68 - a)) 58 (64 + 2 * ((μ 62 1 - a) % 10)) 62 i = ms (ms μ 62 1 ((μ 62 1 - a) % 10)) 62 2 (ρ1 112 68 - a) 62 i := fun i => tko_nc (by omega) (by omega)
      have em : ∀ c i, c ≠ 58 → c ≠ 59 → c ≠ 62 → tko (ms (ms μ 62 1 ((μ 62 1 - a) % 10)) 62 2 (ρ1 112 68 - a)) 58 (64 + 2 * ((μ 62 1 - a) % 10)) c i = μ c i := by
        intro c i x1 x2 x3
        rw [tko_nc (by omega) (by omega), ms_nc x3, ms_nc x3]
      have e58 : tko (ms (ms μ 62 1 ((μ 62 1 - a) % 10)) 62 2 (ρ1 112 68 - a)) 58 (64 + 2 * ((μ 62 1 - a) % 10)) 58 0 = μ 58 0 := by
        rw [tko_at (by decide) (by decide), ms_nc (by omega), ms_nc (by omega), c2]
      have eR : ∀ c i, ¬ (c = 112 ∧ 55 ≤ i ∧ i < 69) → cpr (ms ρ1 112 68 (ρ1 112 68 - a)) 112 55 112 (69 + 13 * (ρ1 112 68 - a)) 13 c i = ρ1 c i := by
        intro c i x
        unfold cpr
        rw [if_neg (by omega), ms_at, if_neg (by omega)]
      have eN : cpr (ms ρ1 112 68 (ρ1 112 68 - a)) 112 55 112 (69 + 13 * (ρ1 112 68 - a)) 13 112 68 = ρ1 112 68 - a := by
        rw [cpr_out (by omega), ms_eq]
      have hRR : RR (tko (ms (ms μ 62 1 ((μ 62 1 - a) % 10)) 62 2 (ρ1 112 68 - a)) 58 (64 + 2 * ((μ 62 1 - a) % 10))) (cpr (ms ρ1 112 68 (ρ1 112 68 - a)) 112 55 112 (69 + 13 * (ρ1 112 68 - a)) 13) := by
        refine RR_deed h' hL ?_ ?_ ?_ ?_
        · intro c i _ _ _ x
          exact em c i (by omega) (by omega) (by omega)
        · intro c i _ x
          exact eR c i (by omega)
        · unfold NowR
          rw [e58]
          refine ⟨hL, LR_cA (A := rowA ρ1 0) (fun j hj => by rw [rowA_0, rowA_0, eR 112 j (by omega)]) (LR_co hL (fun c i x1 x2 _ => em c i (by omega) (by omega) (by omega)) h'.2.2.1.2.1), ?_⟩
          refine CR_mv (A := rowA ρ1 0) (o := 69 + 13 * (ρ1 112 68 - a)) (by rw [rowA_0]; exact h9) (by rw [rowA_0, rowA_0, eR 112 1 (by omega)]) (by rw [rowA_0, rowA_0, eR 112 2 (by omega)]) (by rw [rowA_0, rowA_0, eR 112 3 (by omega)]) ?_ (CR_tko (by rw [rowA_0]; exact h9) (CR_co ?_ ?_ c1))
          · intro j j0 j1
            rw [rowA_0, rowA_0, cpr_in (by omega) (by omega), ms_ni (by omega)]
            congr 1
            omega
          · intro i; rw [ms_nc (by omega), ms_nc (by omega)]
          · intro i; rw [ms_nc (by omega), ms_nc (by omega)]
        · unfold HistR
          rw [e58, e62, e62, ms_eq, ms_ni (by decide), ms_eq, eN]
          refine ⟨rfl, by omega, by omega, by omega, by omega, ?_⟩
          intro k k0 k1
          obtain ⟨d1, d2⟩ := g6 k k0 (by omega)
          rw [show ((μ 62 1 - a) % 10 - (ρ1 112 68 - a) + k) % 10 = (μ 62 1 - ρ1 112 68 + k) % 10 by omega]
          have hz : 0 ≤ (μ 62 1 - ρ1 112 68 + k) % 10 ∧ (μ 62 1 - ρ1 112 68 + k) % 10 < 10 := by omega
          refine ⟨CR_mv (A := rowA ρ1 0) (o := 69 + 13 * k) (by rw [rowA_0]; exact h9) (by rw [rowA_0, rowA_0, eR 112 1 (by omega)]) (by rw [rowA_0, rowA_0, eR 112 2 (by omega)]) (by rw [rowA_0, rowA_0, eR 112 3 (by omega)]) ?_ (CR_co (fun i => em _ i (by omega) (by omega) (by omega)) (fun i => em _ i (by omega) (by omega) (by omega)) d1), ?_⟩
          · intro j j0 j1
            rw [rowA_0, rowA_0, eR 112 _ (by omega)]
          · rw [em _ 0 (by omega) (by omega) (by omega)]; exact d2
      exact ⟨by rw [e62, ms_eq], hRR⟩
    · rw [if_neg gn, if_neg gn]
      simp only [wp_some]; exact ⟨trivial, h'⟩
  · rw [if_neg g, if_pos (by decide : nrm 0 = 0)]
    by_cases a1 : a < 1
    · rw [if_pos a1]; simp only [wp_some]; exact ⟨trivial, h'⟩
    · rw [if_neg a1, if_pos (by omega)]; simp only [wp_some]; exact ⟨trivial, h'⟩
