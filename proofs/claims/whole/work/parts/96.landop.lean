theorem copy_w {ρ : Mem} : ∀ (d k n : Nat), k + d = 1100 → d < n → f_X12_land_w155 n 111 k (cpr ρ 112 0 115 0 k) = some (cpr ρ 112 0 115 0 1100 112 0, cpr ρ 112 0 115 0 1100) := by
  intro d
  induction d with
  | zero =>
    intro i n h1 h2
    obtain ⟨n, rfl⟩ : ∃ m, n = m + 1 := ⟨n - 1, by omega⟩
    have hi : (i : Int) = 1100 := by omega
    unfold f_X12_land_w155
    rw [hi, if_pos (Int.le_refl _)]
    rfl
  | succ d ih =>
    intro i n h1 h2
    obtain ⟨n, rfl⟩ : ∃ m, n = m + 1 := ⟨n - 1, by omega⟩
    unfold f_X12_land_w155
    rw [nrm_id (z := 1100) (by omega) (by omega), nrm_id (z := (i : Int)) (by omega) (by omega), if_neg (by omega), gd_pos (by omega), gd_pos (by omega), nm_eq]
    have := ih (i + 1) n (by omega) (by omega)
    rw [show ((i + 1 : Nat) : Int) = (i : Int) + 1 by omega, ← cpr_step (by omega) (.inl (by decide))] at this
    rw [Int.zero_add] at this
    exact this
theorem begin_C {La : Int} {μ : Mem} (hL : isL La) : ∃ μ', f_X0_beginIn 58 La μ = some (0, μ') ∧ (∀ c i, c ≠ 58 → c ≠ 59 → μ' c i = μ c i) ∧ μ' 58 0 = La ∧ μ' 58 1 = μ La 4 ∧ μ' 58 2 = μ La 6 ∧ μ' 58 3 = μ La 7 ∧ μ' 58 4 = 0 ∧ (∀ l, 0 ≤ l → l < 9 → μ' 59 l = μ (La + 3) l) := by
  have hLo := hL
  unfold isL at hLo
  generalize hm : ms (ms (ms (ms (ms μ 58 0 La) 58 1 (μ La 4)) 58 2 (μ La 6)) 58 3 (μ La 7)) 58 4 0 = μa
  have am : ∀ c i, c ≠ 58 → μa c i = μ c i := fun c i hc => by rw [← hm, ms_nc hc, ms_nc hc, ms_nc hc, ms_nc hc, ms_nc hc]
  have cn : ∀ c i, c ≠ 59 → cpm μa (La + 3) 59 9 c i = μa c i := fun c i hc => if_neg (fun q => hc q.1)
  refine ⟨cpm μa (La + 3) 59 9, ?_, ?_, ?_, ?_, ?_, ?_, ?_, ?_⟩
  · unfold f_X0_beginIn
    rw [nm_eq, gd_pos (isL_k hL), nm_eq, nm_eq, nm_eq, nm_eq, nm_eq, ms_nc (by omega : La ≠ 58), ms_nc (by omega : La ≠ 58), ms_nc (by omega : La ≠ 58), ms_nc (by omega : La ≠ 58), ms_nc (by omega : La ≠ 58), ms_nc (by omega : La ≠ 58), hm]
    rfl
  · intro c i x y
    rw [cn c i y, am c i x]
  · rw [cn _ _ (by decide), ← hm, ms_ni (by decide), ms_ni (by decide), ms_ni (by decide), ms_ni (by decide), ms_eq]
  · rw [cn _ _ (by decide), ← hm, ms_ni (by decide), ms_ni (by decide), ms_ni (by decide), ms_eq]
  · rw [cn _ _ (by decide), ← hm, ms_ni (by decide), ms_ni (by decide), ms_eq]
  · rw [cn _ _ (by decide), ← hm, ms_ni (by decide), ms_eq]
  · rw [cn _ _ (by decide), ← hm, ms_eq]
  · intro l l0 l1
    unfold cpm
    rw [if_pos ⟨rfl, l0, l1⟩]
    exact am _ _ (by omega)
/-- Images and rows of numbers stay as they are. -/
theorem rest_land {La : Int} {μ M ρ R : Mem} (hL : isL La) (h : RR μ ρ) (n1 : La ≠ μ 85 0) (n2 : La ≠ μ 87 0) (hM : ∀ c i, c ≠ 0 → c ≠ 2 → c ≠ 3 → c ≠ 4 → c ≠ 58 → c ≠ 59 → c ≠ 62 → ¬ (La ≤ c ∧ c ≤ La + 10) → M c i = μ c i) (m10 : M 0 10 = μ 0 10) (hR : ∀ c i, c ≠ 111 → c ≠ 115 → ¬ (c = 112 ∧ 0 ≤ i ∧ i < 1100) → R c i = ρ c i) : (ImgR M R 0 ∧ ImgR M R 1 ∧ M 0 10 = R 113 0 + 2 * R 113 1) ∧ (∀ t, 0 ≤ t → t < 4 → TrayR M R t) := by
  obtain ⟨_, _, _, _, ⟨h5, h6, h7⟩, h8⟩ := h
  have hLo := hL
  unfold isL at hLo
  have im : ∀ i, (i = 0 ∨ i = 1) → La ≠ μ (85 + 2 * i) 0 → ImgR μ ρ i → ImgR M R i := by
    intro i hi hn hI
    obtain ⟨x1, x2, x3⟩ := hI
    have e0 : ∀ j, M (85 + 2 * i) j = μ (85 + 2 * i) j := fun j => hM _ j (by omega) (by omega) (by omega) (by omega) (by omega) (by omega) (by omega) (by omega)
    have e1 : ∀ j, M (85 + 2 * i + 1) j = μ (85 + 2 * i + 1) j := fun j => hM _ j (by omega) (by omega) (by omega) (by omega) (by omega) (by omega) (by omega) (by omega)
    have e3 : R 113 i = ρ 113 i := hR 113 i (by decide) (by decide) (by omega)
    have eA : ∀ j, 0 ≤ j → j < 1100 → rowA R (1100 * (i + 1)) j = rowA ρ (1100 * (i + 1)) j := fun j j0 j1 => hR 112 _ (by decide) (by decide) (by omega)
    unfold ImgR
    rw [e0, e3]
    refine ⟨x1, x2, fun q => ?_⟩
    obtain ⟨y1, y2⟩ := x3 q
    have y9 := LR_2 y1
    refine ⟨LR_cA (fun j hj => eA j (by omega) (by omega)) (LR_co x2 (fun c j c1 c2 _ => ?_) y1), CR_cA y9 (eA 1 (by omega) (by omega)) (eA 2 (by omega) (by omega)) (eA 3 (by omega) (by omega)) (fun j j0 j1 => eA j (by omega) (by omega)) (CR_co e0 e1 y2)⟩
    unfold isL at x2
    exact hM c j (by omega) (by omega) (by omega) (by omega) (by omega) (by omega) (by omega) (by omega)
  refine ⟨⟨im 0 (.inl rfl) n1 h5, im 1 (.inr rfl) n2 h6, ?_⟩, ?_⟩
  · rw [m10, hR 113 0 (by decide) (by decide) (by omega), hR 113 1 (by decide) (by decide) (by omega)]
    exact h7
  · intro t t0 t1
    exact TrayR_c (fun j => hM _ j (by omega) (by omega) (by omega) (by omega) (by omega) (by omega) (by omega) (by omega)) (fun j => hM _ j (by omega) (by omega) (by omega) (by omega) (by omega) (by omega) (by omega) (by omega)) (hR _ _ (by decide) (by decide) (by omega)) (hR _ _ (by decide) (by decide) (by omega)) (fun j _ _ => hR _ _ (by decide) (by decide) (by omega)) (h8 t t0 t1)
theorem op_land (a : Int) (ha : nrm a = a) : Op2 (f_X11_land 0 a) (f_X12_land 111 a) := by
  intro μ ρ h
  have h' := RR_co (SaC_rfl μ) (SaR_thrown ρ 0) h
  generalize hρ : ms ρ 111 0 0 = ρ1 at h'
  have hr := h'
  obtain ⟨⟨t1, t2, t3, t4⟩, h2, h3, h4, ⟨h5, h6, h7⟩, h8⟩ := h'
  have nt : nrm (μ 0 1) = μ 0 1 := nrm_id (by omega) (by omega)
  have nt' : nrm (ρ1 111 5) = ρ1 111 5 := by rw [← t1]; exact nt
  by_cases g : 0 ≤ a ∧ a ≤ μ 0 1
  · generalize hμ3 : ms μ 0 1 0 = μ3
    have m3 : ∀ c i, c ≠ 0 → μ3 c i = μ c i := fun c i hc => by rw [← hμ3, ms_nc hc]
    obtain ⟨La, s1, hL, s3, s4, s5⟩ := spare_eq (μ := μ3) (by rw [m3 58 0 (by decide)]; exact h3.1) (by rw [m3 85 0 (by decide)]; exact h5.2.1) (by rw [m3 87 0 (by decide)]; exact h6.2.1)
    rw [m3 58 0 (by decide)] at s3
    rw [m3 85 0 (by decide)] at s4
    rw [m3 87 0 (by decide)] at s5
    have hLo := hL
    unfold isL at hLo
    generalize hρ2 : ms (ms (ms (ms ρ1 111 8 a) 111 5 0) 111 7 0) 111 11 0 = ρ2
    have hpl := plain_eq isA_115 (by rw [aln_115]; decide) ρ2
    generalize hρ3 : ms (flm ρ2 115 0 1100 0) 115 1 1 = ρ3 at hpl
    have q3 : ∀ c i, c ≠ 115 → ρ3 c i = ρ2 c i := fun c i hc => by rw [← hρ3, ms_nc hc, flm_nc hc]
    have q2 : ∀ c i, c ≠ 111 → ρ2 c i = ρ1 c i := fun c i hc => by rw [← hρ2, ms_nc hc, ms_nc hc, ms_nc hc, ms_nc hc]
    obtain ⟨n, T, μe, ρ6, e1, e2, e3, e4, e5⟩ := read_ok (La := La) (a := a) (μ := μ3) (ρ := ρ3) hL g.1 (by omega)
      (fun i i0 i1 => by rw [q3 114 i (by decide), q2 114 i (by decide), m3 1 i (by decide)]; exact t4 i i0 (by omega))
      (by rw [q3 111 8 (by decide), ← hρ2, ms_ni (by decide), ms_ni (by decide), ms_ni (by decide), ms_eq])
      (by rw [q3 111 7 (by decide), ← hρ2, ms_ni (by decide), ms_eq])
      (by rw [q3 111 11 (by decide), ← hρ2, ms_eq])
      (by rw [← hρ3, ms_eq])
      (fun i i0 i1 i2 => by rw [← hρ3, ms_ni i2, flm_in i0 i1])
    have hRf : f_X12_land 111 a ρ = f_X12_land_j111 111 ρ6 := by
      rw [← e2]
      unfold f_X12_land
      rw [nm_eq, hρ, nt', bn_within ha rfl nt', if_pos (show 0 ≤ a ∧ a ≤ ρ1 111 5 by omega), if_neg (by decide : ¬ nrm 1 = 0), nm_eq, nm_eq, nm_eq, nm_eq, hρ2, show (111 + 4 : Int) = 115 from rfl, bn_eq hpl]
      rfl
    have k5 : ρ6 111 5 = 0 := by rw [e4 111 5 (by omega) (by decide), q3 111 5 (by decide), ← hρ2, ms_ni (by decide), ms_ni (by decide), ms_eq]
    have kR : ∀ c i, c ≠ 111 → c ≠ 115 → ρ6 c i = ρ1 c i := fun c i x y => by rw [e4 c i (fun q => x q.1) y, q3 c i y, q2 c i x]
    have kM : ∀ c i, c ≠ 0 → c ≠ 2 → c ≠ 3 → c ≠ 4 → ¬ (La ≤ c ∧ c ≤ La + 10) → μe c i = μ c i := fun c i x0 x2 x3 x4 xL => by rw [e3 c i x2 x3 x4 xL, m3 c i x0]
    have k01 : μe 0 1 = 0 := by rw [e3 0 1 (by decide) (by decide) (by decide) (by omega), ← hμ3, ms_eq]
    have k010 : μe 0 10 = μ 0 10 := by rw [e3 0 10 (by decide) (by decide) (by decide) (by omega), ← hμ3, ms_ni (by decide)]
    have hCl : f_X11_land 0 a μ = (if nrm (μe 2 2) = 0 then (bn (f_X0_beginIn 58 La (ms (ms μe 0 3 (μe 2 2)) 0 4 (μe 2 3))) fun _ μ19 => (bn (f_X2_forgetAll 62 μ19) fun _ μ22 => (gd (isK La 3) (some (μ22 La 3, μ22))))) else some (-30 - μe 2 2, ms (ms μe 0 3 (μe 2 2)) 0 4 (μe 2 3))) := by
      unfold f_X11_land
      rw [ha, nt, if_neg (by omega), if_pos g.2, nm_eq, hμ3, bn_eq s1, show (0 + 2 : Int) = 2 from rfl, show (0 + 1 : Int) = 1 from rfl, bn_eq e1, nm_eq]
      unfold f_X7_placeOfFault
      rw [bn_eq rfl, nm_eq, ms_nc (by decide : (2 : Int) ≠ 0), ms_ni (by decide : (3 : Int) ≠ 4), ms_eq]
      rfl
    unfold f_X12_land_j111 f_X12_land_j135 at hRf
    rw [nm_eq, gd_pos kk_111, gd_pos kk_111, nm_eq, nm_eq, ms_ni (by decide : (11 : Int) ≠ 14), ms_ni (by decide : (11 : Int) ≠ 14), ms_ni (by decide : (11 : Int) ≠ 13), ms_ni (by decide : (12 : Int) ≠ 13)] at hRf
    rcases e5 with ⟨f0, f2, f3, N, hD⟩ | hb
    · rw [f0, if_pos (by decide : nrm 0 = 0), if_pos (by decide : nrm 0 = 0)] at hRf
      rw [f2, f3, if_pos (by decide : nrm 0 = 0)] at hCl
      generalize hρ7 : ms (ms ρ6 111 13 0) 111 14 (-1) = ρ7 at hRf
      generalize hμ7 : ms (ms μe 0 3 0) 0 4 (-1) = μ7 at hCl
      have cw := copy_w (ρ := ρ7) 1100 0 FU (by omega) (by unfold FU; omega)
      rw [show ((0 : Nat) : Int) = 0 from rfl, cpr_0] at cw
      rw [cw] at hRf
      obtain ⟨μ8, b1, b2, b3, b4, b5, b6, b7, b8⟩ := begin_C (μ := μ7) hL
      have m7 : ∀ c i, c ≠ 0 → μ7 c i = μe c i := fun c i hc => by rw [← hμ7, ms_nc hc, ms_nc hc]
      unfold f_X2_forgetAll at hCl
      rw [bn_eq b1, nm_eq, bn_eq rfl, gd_pos (isL_k hL)] at hCl
      have mM : ∀ c i, c ≠ 0 → c ≠ 58 → c ≠ 59 → c ≠ 62 → ms μ8 62 2 0 c i = μe c i := fun c i x0 x1 x2 x3 => by rw [ms_nc x3, b2 c i x1 x2, m7 c i x0]
      have m0 : ∀ i, ms μ8 62 2 0 0 i = μ7 0 i := fun i => by rw [ms_nc (by decide), b2 0 i (by decide) (by decide)]
      have eA : ∀ j, 0 ≤ j → j < 1100 → cpr ρ7 112 0 115 0 1100 112 j = ρ6 115 j := fun j j0 j1 => by
        rw [cpr_in (by omega) (by omega), ← hρ7, ms_nc (by decide), ms_nc (by decide), show j - 0 + 0 = j by omega]
      have eB : ∀ j, 0 ≤ j → j < 1100 → rowA (cpr ρ7 112 0 115 0 1100) 0 j = ρ6 115 j := fun j j0 j1 => by
        unfold rowA
        rw [Int.zero_add]
        exact eA j j0 j1
      have r7 : ∀ i, cpr ρ7 112 0 115 0 1100 111 i = ρ7 111 i := fun i => cpr_nc (by decide)
      refine wp_of hCl (wp_of hRf ⟨?_, ?_⟩)
      · rw [mM La 3 (by omega) (by omega) (by omega) (by omega), eA 0 (by decide) (by decide), hD.1.2.2.2.1]
      · obtain ⟨rest1, rest2⟩ := rest_land (μ := μ) (ρ := ρ1) (M := ms μ8 62 2 0) (R := cpr ρ7 112 0 115 0 1100) hL hr s4 s5 (fun c i x0 x2 x3 x4 x58 x59 x62 xL => by rw [mM c i x0 x58 x59 x62, kM c i x0 x2 x3 x4 xL]) (by rw [m0, ← hμ7, ms_ni (by decide), ms_ni (by decide)]; exact k010) (fun c i x y z => by
          have z' : ¬ (c = 112 ∧ 0 ≤ i ∧ i < 0 + 1100) := by omega
          unfold cpr
          rw [if_neg z', ← hρ7, ms_nc x, ms_nc x, kR c i x y])
        refine ⟨?_, ?_, ?_, ?_, rest1, rest2⟩
        · refine ⟨?_, ?_, ?_, ?_⟩
          · rw [m0, r7, ← hμ7, ← hρ7, ms_ni (by decide), ms_ni (by decide), ms_ni (by decide), ms_ni (by decide), k01, k5]
          · rw [m0, ← hμ7, ms_ni (by decide), ms_ni (by decide), k01]; decide
          · rw [m0, ← hμ7, ms_ni (by decide), ms_ni (by decide), k01]; decide
          · intro i i0 i1
            rw [m0, ← hμ7, ms_ni (by decide), ms_ni (by decide), k01] at i1
            omega
        · refine ⟨?_, ?_, ?_⟩
          · rw [m0, r7, ← hμ7, ← hρ7, ms_ni (by decide), ms_eq, ms_ni (by decide), ms_eq]
          · rw [m0, r7, ← hμ7, ← hρ7, ms_eq, ms_eq]
          · have := h2.2.2
            unfold OddR at this ⊢
            rw [mM 108 0 (by decide) (by decide) (by decide) (by decide), mM 108 1 (by decide) (by decide) (by decide) (by decide), kM 108 0 (by decide) (by decide) (by decide) (by decide) (by omega), kM 108 1 (by decide) (by decide) (by decide) (by decide) (by omega)]
            exact this
        · obtain ⟨d1, d2, d3, d4, d5, d6, d7, _⟩ := hD
          have d9 := LR_2 d1
          unfold NowR
          rw [ms_nc (by decide : (58 : Int) ≠ 62), b3]
          refine ⟨hL, LR_cA (A := ρ6 115) (fun j hj => eB j (by omega) (by omega)) (LR_co hL (fun c i c1 c2 _ => mM c i (by omega) (by omega) (by omega) (by omega)) d1), ?_⟩
          refine CR_cA (A := ρ6 115) d9 (eB 1 (by decide) (by decide)) (eB 2 (by decide) (by decide)) (eB 3 (by decide) (by decide)) (fun j j0 j1 => eB j (by omega) (by omega)) ?_
          refine ⟨?_, ?_, ?_, ?_, ?_⟩
          · rw [ms_nc (by decide), b4, m7 La 4 (by omega)]; exact d2
          · rw [ms_nc (by decide), b5, m7 La 6 (by omega)]; exact d3
          · rw [ms_nc (by decide), b6, m7 La 7 (by omega)]; exact d4
          · rw [ms_nc (by decide), b7]; exact d6.symm
          · intro l l0 l1
            rw [show (58 + 1 : Int) = 59 from rfl, ms_nc (by decide), b8 l l0 (by omega), m7 (La + 3) l (by omega)]
            exact (d5 l l0 (by omega)).1
        · have d7 : ρ6 115 68 = 0 := hD.2.2.2.2.2.2.1
          unfold HistR
          rw [ms_eq, eA 68 (by decide) (by decide), d7, ms_ni (by decide), b2 62 1 (by decide) (by decide), m7 62 1 (by decide), kM 62 1 (by decide) (by decide) (by decide) (by decide) (by omega)]
          exact ⟨rfl, by decide, by decide, h4.2.2.2.1, h4.2.2.2.2.1, fun k k1 k2 => absurd k2 (by omega)⟩
    · obtain ⟨w1, w2, w3, w4⟩ := hb
      have nw : nrm (ρ6 111 11) = ρ6 111 11 := nrm_id (by omega) (by omega)
      rw [nw, if_neg (by omega), if_neg (by omega)] at hRf
      rw [w3, w4, nw, if_neg (by omega)] at hCl
      generalize hk : ρ6 111 11 = k at *
      generalize hj : ρ6 111 12 = j at *
      have mM : ∀ c i, c ≠ 0 → ms (ms μe 0 3 k) 0 4 j c i = μe c i := fun c i x0 => by rw [ms_nc x0, ms_nc x0]
      have rM : ∀ c i, c ≠ 111 → ms (ms ρ6 111 13 k) 111 14 j c i = ρ6 c i := fun c i x0 => by rw [ms_nc x0, ms_nc x0]
      refine wp_of hCl (wp_of hRf ⟨rfl, ?_⟩)
      obtain ⟨rest1, rest2⟩ := rest_land (μ := μ) (ρ := ρ1) (M := ms (ms μe 0 3 k) 0 4 j) (R := ms (ms ρ6 111 13 k) 111 14 j) hL hr s4 s5 (fun c i x0 x2 x3 x4 x58 x59 x62 xL => by rw [mM c i x0, kM c i x0 x2 x3 x4 xL]) (by rw [ms_ni (by decide), ms_ni (by decide)]; exact k010) (fun c i x y z => by rw [rM c i x, kR c i x y])
      refine ⟨?_, ?_, ?_, ?_, rest1, rest2⟩
      · refine ⟨?_, ?_, ?_, ?_⟩
        · rw [ms_ni (by decide), ms_ni (by decide), ms_ni (by decide), ms_ni (by decide), k01, k5]
        · rw [ms_ni (by decide), ms_ni (by decide), k01]; decide
        · rw [ms_ni (by decide), ms_ni (by decide), k01]; decide
        · intro i i0 i1
          rw [ms_ni (by decide), ms_ni (by decide), k01] at i1
          omega
      · refine ⟨?_, ?_, ?_⟩
        · rw [ms_ni (by decide), ms_eq, ms_ni (by decide), ms_eq]
        · rw [ms_eq, ms_eq]
        · have := h2.2.2
          unfold OddR at this ⊢
          rw [mM 108 0 (by decide), mM 108 1 (by decide), kM 108 0 (by decide) (by decide) (by decide) (by decide) (by omega), kM 108 1 (by decide) (by decide) (by decide) (by decide) (by omega)]
          exact this
      · obtain ⟨x1, x2, x3⟩ := h3
        have eA : rowA (ms (ms ρ6 111 13 k) 111 14 j) 0 = rowA ρ1 0 := by
          funext i
          unfold rowA
          rw [rM 112 _ (by decide), kR 112 _ (by decide) (by decide)]
        have e58 : ∀ i, ms (ms μe 0 3 k) 0 4 j 58 i = μ 58 i := fun i => by rw [mM 58 i (by decide), kM 58 i (by decide) (by decide) (by decide) (by decide) (by omega)]
        have e59 : ∀ i, ms (ms μe 0 3 k) 0 4 j (58 + 1) i = μ (58 + 1) i := fun i => by rw [mM (58 + 1) i (by decide), kM (58 + 1) i (by decide) (by decide) (by decide) (by decide) (by omega)]
        unfold NowR
        rw [e58, eA]
        refine ⟨x1, LR_co x1 (fun c i c1 c2 _ => ?_) x2, CR_co e58 e59 x3⟩
        unfold isL at x1
        rw [mM c i (by omega), kM c i (by omega) (by omega) (by omega) (by omega) (by omega)]
      · have h9 : ρ1 112 2 ≤ 9 := by
          have := LR_2 h3.2.1
          simpa [rowA] using this
        refine HistR_c ?_ ?_ ?_ h9 h4
        · rw [mM 58 0 (by decide), kM 58 0 (by decide) (by decide) (by decide) (by decide) (by omega)]
        · intro c i c1 c2
          rw [mM c i (by omega), kM c i (by omega) (by omega) (by omega) (by omega) (by omega)]
        · intro i _
          rw [rM 112 i (by decide), kR 112 i (by decide) (by decide)]
  · have c1 : f_X11_land 0 a μ = some (-3, μ) := by
      unfold f_X11_land
      rw [ha, nt]
      by_cases q : a < 0
      · rw [if_pos q]
      · rw [if_neg q, if_neg (by omega)]
    have c2 : f_X12_land 111 a ρ = some (-3, ρ1) := by
      unfold f_X12_land
      rw [nm_eq, hρ, nt', bn_within ha rfl nt', if_neg (show ¬ (0 ≤ a ∧ a ≤ ρ1 111 5) by omega), if_pos (by decide : nrm 0 = 0)]
    exact wp_of c1 (wp_of c2 ⟨rfl, hr⟩)
