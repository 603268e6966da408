theorem La_fr {La : Int} {μ μ' : Mem} (hL : isL La) (h : μ 2 1 = La) (s : FrE La μ μ') : μ' 2 1 = La := by
  have hLo := hL
  unfold isL at hLo
  rw [s 2 1 (by decide) (by decide) (by omega) (by omega)]
  exact h
theorem Bd_add {La x y : Int} {μ ρ : Mem} (hL : isL La) (hb : Bd μ ρ) : ∃ μ', f_X4_addStep (La + 7) x y μ = some (0, μ') ∧ FrE La μ μ' ∧ Bd μ' ρ := by
  obtain ⟨μ', c1, c2, c3⟩ := add_ex (x := x) (y := y) (μ := μ) hL
  refine ⟨μ', c1, c2, ?_⟩
  unfold Bd
  rw [c3, c3]
  exact hb
theorem rd2 {n La w : Int} {T : Int → Int} {B BS BT : Nat} {rC rR : Nat → Int → Int → Mem → Option (Int × Mem)} {d : Nat} (hd : d ≤ 6) (hBS : d < 6 → BS + 2 ≤ B) (hBT : d < 6 → BT ≤ B)
    (hS : d < 6 → ∀ μ ρ a K V N, ES n T La w μ ρ a K V N → Res n T La w N a BS false μ ρ (rC 3 2 ((d : Int) + 1) μ) (rR 3 111 ((d : Int) + 1) ρ))
    (hT : d < 6 → ∀ μ ρ a K V N, ES n T La w μ ρ a K V N → Res n T La w N a BT true μ ρ (rC 5 2 ((d : Int) + 1) μ) (rR 5 111 ((d : Int) + 1) ρ))
    (hN : d < 6 → ∀ ρ : Mem, 1 ≤ ρ 111 11 → ρ 111 11 ≤ 4 → rR 3 111 ((d : Int) + 1) ρ = some (0, ρ)) {μ ρ : Mem} {a K V N : Int} (hE : ES n T La w μ ρ a K V N) (hK : K ≠ 24) :
    Res n T La w N a B false μ ρ (b_X7_readIf rC 2 d μ) (b_X12_readIf rR 111 d ρ) := by
  have hL := hE.2.2.2.1
  have h21 := hE.2.2.1
  have n0 := hE.2.2.2.2.2.2.2.1
  have na := hE.2.2.2.2.2.2.2.2.1
  have w01 := hE.2.2.2.2.2.2.1
  have fail : ∀ {μ1 ρ1 : Mem}, FrE La μ μ1 → FrS ρ ρ1 → Bd μ1 ρ1 → ∀ g : Option (Int × Mem), g = some (0, ρ1) → Res n T La w N a B false μ ρ (f_X7_readIf_j72 rC 2 μ1) g := by
    intro μ1 ρ1 f1 f2 hb g hg
    obtain ⟨μ', c1, c2, c3⟩ := Bd_add (x := 11) (y := 0) hL hb
    refine ⟨0, μ', ρ1, ?_, hg, FrE_tr f1 c2, f2, .inr ⟨rfl, c3⟩⟩
    unfold f_X7_readIf_j72 f_X7_readIf_j73
    rw [La_fr hL h21 f1, gd_pos (isL_k hL), bn_eq c1, gd_pos (by decide : isB 0)]
  have cod : ∀ {ρ1 : Mem}, 1 ≤ ρ1 111 11 → ρ1 111 11 ≤ 4 → f_X12_readIf_j72 rR 111 ρ1 = some (0, ρ1) := by
    intro ρ1 h h4
    unfold f_X12_readIf_j72
    rw [bn_eq (codes_no h h4)]
  unfold b_X7_readIf b_X12_readIf
  obtain ⟨r, μ1, ρ1, r1, r2, r3, r4, r5⟩ := ES_open hE hd hK
  rw [bn_eq r1, bn_eq r2]
  rcases r5 with ⟨rfl, d6, a1, K1, V1, m1, m2, m3⟩ | ⟨rfl, hb⟩
  · have hN := hN d6
    have c51 : ∀ {ρ1 : Mem}, 1 ≤ ρ1 111 11 → ρ1 111 11 ≤ 4 → f_X12_readIf_j51 rR 111 d ρ1 = some (0, ρ1) := by
      intro ρ1 h h4
      unfold f_X12_readIf_j51
      rw [bn_eq (hN ρ1 h h4), eats_C h h4 (fun ρ => f_X12_readIf_j72 rR 111 ρ), cod h h4]
    have c30 : ∀ {ρ1 : Mem}, 1 ≤ ρ1 111 11 → ρ1 111 11 ≤ 4 → f_X12_readIf_j30 rR 111 d ρ1 = some (0, ρ1) := by
      intro ρ1 h h4
      unfold f_X12_readIf_j30
      rw [bn_eq (hN ρ1 h h4), eats_C h h4 (fun ρ => f_X12_readIf_j51 rR 111 d ρ), c51 h h4]
    rw [if_neg (by decide : ¬ nrm 1 = 0), if_neg (by decide : ¬ nrm 1 = 0)]
    obtain ⟨r, μ2, ρ2, q1, q2, q3, q4, q5⟩ := hT d6 μ1 ρ1 a1 K1 V1 N m2
    rw [bn_eq q1, bn_eq q2]
    have F2 := FrE_tr r3 q3
    have S2 := FrS_tr r4 q4
    rcases q5 with ⟨rfl, a2, K2, V2, N2, g1, g2, g3, g4, g5⟩ | ⟨rfl, hb⟩
    · rw [if_neg (by decide : ¬ nrm 1 = 0)]
      obtain ⟨r, μ3, ρ3, u1, u2, u3, u4, u5⟩ := ES_take g1 (k := 16) (ck := 144) (by unfold kOk; decide) (by decide) (by decide)
      rw [bn_eq u1, u2 (fun ρ => f_X12_readIf_j30 rR 111 d ρ)]
      have F3 := FrE_tr F2 u3
      have S3 := FrS_tr S2 u4
      rcases u5 with ⟨rfl, _, a3, K3, V3, s1, s2, s3⟩ | ⟨rfl, hb⟩
      · rw [if_neg (by decide : ¬ nrm 1 = 0)]
        obtain ⟨r, μ4, ρ4, v1, v2, v3, v4, v5⟩ := hS d6 μ3 ρ3 a3 K3 V3 N2 s2
        unfold f_X12_readIf_j30
        rw [bn_eq v1, bn_eq v2]
        have F4 := FrE_tr F3 v3
        have S4 := FrS_tr S3 v4
        rcases v5 with ⟨rfl, a4, K4, V4, N4, h1, h2, h3, h4, h5⟩ | ⟨rfl, hb⟩
        · rw [if_neg (by decide : ¬ nrm 1 = 0)]
          obtain ⟨r, μ5, ρ5, x1, x2, x3, x4, x5⟩ := ES_take h1 (k := 17) (ck := 145) (by unfold kOk; decide) (by decide) (by decide)
          rw [bn_eq x1, x2 (fun ρ => f_X12_readIf_j51 rR 111 d ρ)]
          have F5 := FrE_tr F4 x3
          have S5 := FrS_tr S4 x4
          rcases x5 with ⟨rfl, _, a5, K5, V5, y1, y2, y3⟩ | ⟨rfl, hb⟩
          · rw [if_neg (by decide : ¬ nrm 1 = 0)]
            obtain ⟨r, μ6, ρ6, z1, z2, z3, z4, z5⟩ := hS d6 μ5 ρ5 a5 K5 V5 N4 y2
            unfold f_X12_readIf_j51
            rw [bn_eq z1, bn_eq z2]
            have F6 := FrE_tr F5 z3
            have S6 := FrS_tr S5 z4
            rcases z5 with ⟨rfl, a6, K6, V6, N6, i1, i2, i3, i4, i5⟩ | ⟨rfl, hb⟩
            · rw [if_neg (by decide : ¬ nrm 1 = 0)]
              obtain ⟨r, μ7, ρ7, j1, j2, j3, j4, j5⟩ := ES_take i1 (k := 18) (ck := 146) (by unfold kOk; decide) (by decide) (by decide)
              rw [bn_eq j1, j2 (fun ρ => f_X12_readIf_j72 rR 111 ρ)]
              have F7 := FrE_tr F6 j3
              have S7 := FrS_tr S6 j4
              rcases j5 with ⟨rfl, _, a7, K7, V7, o1, o2, o3⟩ | ⟨rfl, hb⟩
              · rw [if_neg (by decide : ¬ nrm 1 = 0)]
                obtain ⟨μ8, ρ8, e1, e2, e3, e4, e5, e6, e7, _⟩ := ES_code (c := 3009) (x := 11) (y := 0) o2 (.inl (by omega)) (by decide)
                have hE8 := e7 (by omega)
                refine ⟨1, μ8, ρ8, ?_, ?_, FrE_tr F7 e3, FrS_tr S7 e4, .inl ⟨rfl, a7, K7, V7, N6 + 1, hE8, by omega, by omega, fun j j0 j1 => ?_, fun s hs => ?_⟩⟩
                · unfold f_X7_readIf_j73
                  rw [La_fr hL h21 F7, gd_pos (isL_k hL), bn_eq e1, gd_pos (by decide : isB 1)]
                · unfold f_X12_readIf_j72
                  rw [bn_eq e2]
                · rw [e5 j j0 (by omega), o3, i4 j j0 (by omega), y3, h4 j j0 (by omega), s3, g4 j j0 j1, m3]
                · have b1 := hBS d6
                  have b2 := hBT d6
                  have p8 : ∀ i, 0 ≤ i → i < N6 → ρ8 115 (200 + i) = ρ6 115 (200 + i) := fun i i0 i1' => by rw [e5 i i0 i1', o3]
                  have p4 : ∀ i, 0 ≤ i → i < N4 → ρ8 115 (200 + i) = ρ4 115 (200 + i) := fun i i0 i1' => by rw [p8 i i0 (by omega), i4 i i0 i1', y3]
                  have p2 : ∀ i, 0 ≤ i → i < N2 → ρ8 115 (200 + i) = ρ2 115 (200 + i) := fun i i0 i1' => by rw [p4 i i0 (by omega), h4 i i0 i1', s3]
                  have t1 : tyR w (fun j => ρ8 115 (200 + j)) (N2 - N).toNat N s = some (true :: s) := by
                    rw [tyR_cg2 (cd' := fun j => ρ2 115 (200 + j)) _ _ _ (fun i i0 i1' => p2 i (by omega) (by omega))]
                    exact g5 s (by omega)
                  have t2 : tyR w (fun j => ρ8 115 (200 + j)) (N4 - N2).toNat N2 (true :: s) = some (false :: true :: s) := by
                    rw [tyR_cg2 (cd' := fun j => ρ4 115 (200 + j)) _ _ _ (fun i i0 i1' => p4 i (by omega) (by omega))]
                    exact h5 (true :: s) (by simp only [List.length_cons]; omega)
                  have t3 : tyR w (fun j => ρ8 115 (200 + j)) (N6 - N4).toNat N4 (false :: true :: s) = some (false :: false :: true :: s) := by
                    rw [tyR_cg2 (cd' := fun j => ρ6 115 (200 + j)) _ _ _ (fun i i0 i1' => p8 i (by omega) (by omega))]
                    exact i5 (false :: true :: s) (by simp only [List.length_cons]; omega)
                  have t4 : tyR w (fun j => ρ8 115 (200 + j)) (N6 + 1 - N6).toNat N6 (false :: false :: true :: s) = some (false :: s) := by
                    refine ty_one ?_
                    show tyS w (ρ8 115 (200 + N6)) _ = _
                    rw [e6]
                    rcases w01 with q | q <;> rw [q] <;> rfl
                  exact ty_seq (by omega) (by omega) (ty_seq (by omega) (by omega) (ty_seq (by omega) (by omega) t1 t2) t3) t4
              · rw [if_pos (by decide : nrm 0 = 0)]
                exact fail F7 S7 hb _ (cod hb.1 hb.2.1)
            · rw [if_pos (by decide : nrm 0 = 0), eats_C hb.1 hb.2.1 (fun ρ => f_X12_readIf_j72 rR 111 ρ)]
              exact fail F6 S6 hb _ (cod hb.1 hb.2.1)
          · rw [if_pos (by decide : nrm 0 = 0)]
            exact fail F5 S5 hb _ (c51 hb.1 hb.2.1)
        · rw [if_pos (by decide : nrm 0 = 0), eats_C hb.1 hb.2.1 (fun ρ => f_X12_readIf_j51 rR 111 d ρ)]
          exact fail F4 S4 hb _ (c51 hb.1 hb.2.1)
      · rw [if_pos (by decide : nrm 0 = 0)]
        exact fail F3 S3 hb _ (c30 hb.1 hb.2.1)
    · rw [if_pos (by decide : nrm 0 = 0), eats_C hb.1 hb.2.1 (fun ρ => f_X12_readIf_j30 rR 111 d ρ)]
      exact fail F2 S2 hb _ (c30 hb.1 hb.2.1)
  · rw [if_pos (by decide : nrm 0 = 0), if_pos (by decide : nrm 0 = 0)]
    exact fail r3 r4 hb _ rfl
theorem rd6 {n La w : Int} {T : Int → Int} {B B0 BU BT : Nat} {rC rR : Nat → Int → Int → Mem → Option (Int × Mem)} {d : Nat} (hd : d ≤ 6) (hB0 : B0 + 1 ≤ B) (hBU : d < 6 → BU ≤ B) (hBT : d < 6 → BT ≤ B)
    (hS : ∀ μ ρ a K V N, ES n T La w μ ρ a K V N → Res n T La w N a B0 false μ ρ (rC 3 2 d μ) (rR 3 111 d ρ))
    (hU : d < 6 → ∀ μ ρ a K V N, ES n T La w μ ρ a K V N → Res n T La w N a BU true μ ρ (rC 6 2 ((d : Int) + 1) μ) (rR 6 111 ((d : Int) + 1) ρ))
    (hT : d < 6 → ∀ μ ρ a K V N, ES n T La w μ ρ a K V N → Res n T La w N a BT true μ ρ (rC 5 2 ((d : Int) + 1) μ) (rR 5 111 ((d : Int) + 1) ρ))
    (hN : ∀ ρ : Mem, 1 ≤ ρ 111 11 → ρ 111 11 ≤ 4 → rR 3 111 d ρ = some (0, ρ)) {μ ρ : Mem} {a K V N : Int} (hE : ES n T La w μ ρ a K V N) :
    Res n T La w N a B true μ ρ (b_X7_readUnit rC 2 d μ) (b_X12_readUnit rR 111 d ρ) := by
  have hL := hE.2.2.2.1
  have hL4 : isK (La + 7) 4 := by
    rcases hL with q | q | q | q <;> rw [q] <;> decide +kernel
  have h21 := hE.2.2.1
  have n0 := hE.2.2.2.2.2.2.2.1
  have na := hE.2.2.2.2.2.2.2.2.1
  have w01 := hE.2.2.2.2.2.2.1
  have t1 : nrm (μ 3 0) = nrm 147 ↔ K = 21 := ES_c hE (k := 21) (by unfold kOk; decide)
  have t2 : nrm (μ 3 0) = nrm 91 ↔ K = 37 := ES_c hE (k := 37) (by unfold kOk; decide)
  have i21 := ES_is hE (k := 21) (by unfold kOk; decide)
  have i37 := ES_is hE (k := 37) (by unfold kOk; decide)
  have fail : ∀ {μ1 ρ1 : Mem}, FrE La μ μ1 → FrS ρ ρ1 → Bd μ1 ρ1 → ∀ g : Option (Int × Mem), g = some (0, ρ1) → Res n T La w N a B true μ ρ (f_X7_readUnit_j35 rC 2 μ1) g := by
    intro μ1 ρ1 f1 f2 hb g hg
    obtain ⟨μ', c1, c2, c3⟩ := Bd_add (x := 8) (y := 0) hL hb
    refine ⟨0, μ', ρ1, ?_, hg, FrE_tr f1 c2, f2, .inr ⟨rfl, c3⟩⟩
    unfold f_X7_readUnit_j35 f_X7_readUnit_j36
    rw [La_fr hL h21 f1, gd_pos (isL_k hL), bn_eq c1, gd_pos (by decide : isB 0)]
  have no151 : ∀ {ρ1 : Mem} {c : Int}, 1 ≤ ρ1 111 11 → ρ1 111 11 ≤ 4 → f_X12_readUnit_j151 rR 111 d c ρ1 = some (0, ρ1) := by
    intro ρ1 c h h4
    unfold f_X12_readUnit_j151
    rw [bn_eq (hN ρ1 h h4), bn_eq (codes_no h h4)]
  have no111 : ∀ {ρ1 : Mem} {c : Int}, 1 ≤ ρ1 111 11 → ρ1 111 11 ≤ 4 → f_X12_readUnit_j111 rR 111 d c ρ1 = some (0, ρ1) := by
    intro ρ1 c h h4
    unfold f_X12_readUnit_j111
    rw [bn_eq (is_no h h4), if_pos (by decide : nrm 0 = 0), bn_eq (is_no h h4), if_pos (by decide : nrm 0 = 0), bn_eq (is_no h h4), if_pos (by decide : nrm 0 = 0), bn_eq (fails_no h h4), no151 h h4]
  unfold b_X7_readUnit b_X12_readUnit
  rw [show (2 + 1 : Int) = 3 from rfl]
  by_cases z1 : K = 21
  · rw [if_pos (t1.mpr z1)]
    rw [if_pos z1] at i21
    rw [bn_eq i21, if_neg (by decide : ¬ nrm 1 = 0)]
    obtain ⟨r, μ1, ρ1, r1, r2, r3, r4, r5⟩ := ES_open hE hd (by omega : K ≠ 24)
    rw [bn_eq r1, bn_eq r2]
    rcases r5 with ⟨rfl, d6, a1, K1, V1, m1, m2, m3⟩ | ⟨rfl, hb⟩
    · rw [if_neg (by decide : ¬ nrm 1 = 0), if_neg (by decide : ¬ nrm 1 = 0)]
      obtain ⟨r, μ2, ρ2, q1, q2, q3, q4, q5⟩ := hU d6 μ1 ρ1 a1 K1 V1 N m2
      rw [bn_eq q1, bn_eq q2]
      have F2 := FrE_tr r3 q3
      have S2 := FrS_tr r4 q4
      rcases q5 with ⟨rfl, a2, K2, V2, N2, g1, g2, g3, g4, g5⟩ | ⟨rfl, hb⟩
      · rw [if_neg (by decide : ¬ nrm 1 = 0)]
        obtain ⟨μ8, ρ8, e1, e2, e3, e4, e5, e6, e7, _⟩ := ES_code (c := 3006) (x := 8) (y := 0) g1 (.inl (by omega)) (by decide)
        have hE8 := e7 (by omega)
        refine ⟨1, μ8, ρ8, ?_, by rw [bn_eq e2], FrE_tr F2 e3, FrS_tr S2 e4, .inl ⟨rfl, a2, K2, V2, N2 + 1, hE8, by omega, by omega, fun j j0 j1 => ?_, fun s hs => ?_⟩⟩
        · unfold f_X7_readUnit_j36
          rw [La_fr hL h21 F2, gd_pos (isL_k hL), bn_eq e1, gd_pos (by decide : isB 1)]
        · rw [e5 j j0 (by omega), g4 j j0 j1, m3]
        · have b1 := hBU d6
          have t1 : tyR w (fun j => ρ8 115 (200 + j)) (N2 - N).toNat N s = some (true :: s) := by
            rw [tyR_cg2 (cd' := fun j => ρ2 115 (200 + j)) _ _ _ (fun i i0 i1' => e5 i (by omega) (by omega))]
            exact g5 s (by omega)
          have t4 : tyR w (fun j => ρ8 115 (200 + j)) (N2 + 1 - N2).toNat N2 (true :: s) = some (true :: s) := by
            refine ty_one ?_
            show tyS w (ρ8 115 (200 + N2)) _ = _
            rw [e6]
            rcases w01 with q | q <;> rw [q] <;> rfl
          exact ty_seq (by omega) (by omega) t1 t4
      · rw [if_pos (by decide : nrm 0 = 0)]
        exact fail F2 S2 hb _ (by rw [bn_eq (codes_no hb.1 hb.2.1)])
    · rw [if_pos (by decide : nrm 0 = 0), if_pos (by decide : nrm 0 = 0)]
      exact fail r3 r4 hb _ rfl
  · rw [if_neg (fun q => z1 (t1.mp q))]
    rw [if_neg z1] at i21
    rw [bn_eq i21, if_pos (by decide : nrm 0 = 0)]
    by_cases z2 : K = 37
    · rw [if_pos (t2.mpr z2)]
      rw [if_pos z2] at i37
      rw [bn_eq i37, if_neg (by decide : ¬ nrm 1 = 0)]
      obtain ⟨r, μ1, ρ1, r1, r2, r3, r4, r5⟩ := ES_open hE hd (by omega : K ≠ 24)
      rw [bn_eq r1, bn_eq r2]
      rcases r5 with ⟨rfl, d6, a1, K1, V1, m1, m2, m3⟩ | ⟨rfl, hb⟩
      · rw [if_neg (by decide : ¬ nrm 1 = 0), if_neg (by decide : ¬ nrm 1 = 0)]
        obtain ⟨r', μ2, ρ2, q1, q2, q3, q4, q5⟩ := hT d6 μ1 ρ1 a1 K1 V1 N m2
        rw [bn_eq q1, bn_eq q2]
        rcases q5 with ⟨rfl, a2, K2, V2, N2, g1, g2, g3, g4, g5⟩ | ⟨rfl, hb⟩
        · rw [if_neg (by decide : ¬ nrm 1 = 0)]
          obtain ⟨r'', μ3, ρ3, u1, u2, u3, u4, u5⟩ := ES_take g1 (k := 38) (ck := 93) (by unfold kOk; decide) (by decide) (by decide)
          rw [bn_eq u1, u2 (fun ρ => some (0, ρ))]
          rcases u5 with ⟨rfl, _, a3, K3, V3, s1, s2, s3⟩ | ⟨rfl, hb⟩
          · rw [if_neg (by decide : ¬ nrm 1 = 0)]
            refine ⟨1, μ3, ρ3, rfl, rfl, FrE_tr r3 (FrE_tr q3 u3), FrS_tr r4 (FrS_tr q4 u4), .inl ⟨rfl, a3, K3, V3, N2, s2, g2, by omega, fun j j0 j1 => by rw [s3, g4 j j0 j1, m3], fun s hs => ?_⟩⟩
            have := hBT d6
            rw [tyR_cg2 (cd' := fun j => ρ2 115 (200 + j)) _ _ _ (fun i i0 i1 => s3 _)]
            exact g5 s (by omega)
          · rw [if_pos (by decide : nrm 0 = 0)]
            exact ⟨0, μ3, ρ3, rfl, rfl, FrE_tr r3 (FrE_tr q3 u3), FrS_tr r4 (FrS_tr q4 u4), .inr ⟨rfl, hb⟩⟩
        · rw [if_pos (by decide : nrm 0 = 0), eats_C hb.1 hb.2.1 (fun ρ => some (0, ρ))]
          exact ⟨0, μ2, ρ2, rfl, rfl, FrE_tr r3 q3, FrS_tr r4 q4, .inr ⟨rfl, hb⟩⟩
      · rw [if_pos (by decide : nrm 0 = 0), if_pos (by decide : nrm 0 = 0)]
        exact ⟨0, μ1, ρ1, rfl, rfl, r3, r4, .inr ⟨rfl, hb⟩⟩
    · rw [if_neg (fun q => z2 (t2.mp q))]
      rw [if_neg z2] at i37
      rw [bn_eq i37, if_pos (by decide : nrm 0 = 0)]
      obtain ⟨r, μ1, ρ1, r1, r2, r3, r4, r5⟩ := hS μ ρ a K V N hE
      rw [bn_eq r1, bn_eq r2]
      rcases r5 with ⟨rfl, a1, K1, V1, N1, g1, g2, g3, g4, g5⟩ | ⟨rfl, hb⟩
      · rw [if_neg (by decide : ¬ nrm 1 = 0), nm_eq]
        have s1 : nrm (μ1 3 0) = nrm 61 ↔ K1 = 39 := ES_c g1 (k := 39) (by unfold kOk; decide)
        have s2 : nrm (μ1 3 0) = nrm 60 ↔ K1 = 40 := ES_c g1 (k := 40) (by unfold kOk; decide)
        have s3 : nrm (μ1 3 0) = nrm 62 ↔ K1 = 41 := ES_c g1 (k := 41) (by unfold kOk; decide)
        have j39 := ES_is g1 (k := 39) (by unfold kOk; decide)
        have j40 := ES_is g1 (k := 40) (by unfold kOk; decide)
        have j41 := ES_is g1 (k := 41) (by unfold kOk; decide)
        have go : ∀ c x : Int, x * 1000 + 0 = phi c → K1 ≠ 24 → (∀ s, tyS w c (false :: false :: s) = some (true :: s)) → (∀ r μ2 μ3 μ4, f_X9_advance 3 μ1 = some (0, μ2) → rC 3 2 d μ2 = some (r, μ3) → μ3 2 1 = La → (r = 0 ∨ r = 1) → f_X4_addStep (La + 7) x 0 μ3 = some (0, μ4) → f_X7_readUnit_j139 rC 2 d (μ1 3 0) μ1 = some (r, μ4)) → Res n T La w N a B true μ ρ (f_X7_readUnit_j139 rC 2 d (μ1 3 0) μ1) (f_X12_readUnit_j139 rR 111 d c ρ1) := by
          intro c x hc k24 hty hj
          obtain ⟨μ2, ρ2, a2, K2, V2, y1, y2, y3, y4, y5, y6, y7⟩ := ES_step g1 k24
          obtain ⟨r, μ3, ρ3, q1, q2, q3, q4, q5⟩ := hS μ2 ρ2 a2 K2 V2 N1 y7
          have F3 := FrE_tr r3 (FrE_tr y3 q3)
          have S3 := FrS_tr r4 (FrS_tr y4 q4)
          unfold f_X12_readUnit_j139
          rw [bn_eq y2]
          rcases q5 with ⟨rfl, a3, K3, V3, N3, h1, h2, h3, h4, h5⟩ | ⟨rfl, hb⟩
          · obtain ⟨μ8, ρ8, e1, e2, e3, e4, e5, e6, e7, _⟩ := ES_code (c := c) (x := x) (y := 0) h1 (.inl (by omega)) hc
            have hE8 := e7 (by omega)
            refine ⟨1, μ8, ρ8, hj 1 μ2 μ3 μ8 y1 q1 (La_fr hL h21 F3) (.inr rfl) e1, ?_, FrE_tr F3 e3, FrS_tr S3 e4, .inl ⟨rfl, a3, K3, V3, N3 + 1, hE8, by omega, by omega, fun j j0 j1 => ?_, fun s hs => ?_⟩⟩
            · unfold f_X12_readUnit_j151
              rw [bn_eq q2, bn_eq e2]
            · rw [e5 j j0 (by omega), h4 j j0 (by omega), y5, g4 j j0 j1]
            · have t1 : tyR w (fun j => ρ8 115 (200 + j)) (N1 - N).toNat N s = some (false :: s) := by
                rw [tyR_cg2 (cd' := fun j => ρ1 115 (200 + j)) _ _ _ (fun i i0 i1' => by rw [e5 i (by omega) (by omega), h4 i (by omega) (by omega), y5])]
                exact g5 s (by omega)
              have t2 : tyR w (fun j => ρ8 115 (200 + j)) (N3 - N1).toNat N1 (false :: s) = some (false :: false :: s) := by
                rw [tyR_cg2 (cd' := fun j => ρ3 115 (200 + j)) _ _ _ (fun i i0 i1' => e5 i (by omega) (by omega))]
                exact h5 (false :: s) (by simp only [List.length_cons]; omega)
              have t4 : tyR w (fun j => ρ8 115 (200 + j)) (N3 + 1 - N3).toNat N3 (false :: false :: s) = some (true :: s) := by
                refine ty_one ?_
                show tyS w (ρ8 115 (200 + N3)) _ = _
                rw [e6]
                exact hty s
              exact ty_seq (by omega) (by omega) (ty_seq (by omega) (by omega) t1 t2) t4
          · obtain ⟨μ', c1, c2, c3⟩ := Bd_add (x := x) (y := 0) hL hb
            refine ⟨0, μ', ρ3, hj 0 μ2 μ3 μ' y1 q1 (La_fr hL h21 F3) (.inl rfl) c1, ?_, FrE_tr F3 c2, S3, .inr ⟨rfl, c3⟩⟩
            unfold f_X12_readUnit_j151
            rw [bn_eq q2, bn_eq (codes_no hb.1 hb.2.1)]
        by_cases y1 : K1 = 39
        · rw [if_pos (s1.mpr y1)]
          rw [if_pos y1] at j39
          unfold f_X12_readUnit_j111
          rw [bn_eq j39, if_neg (by decide : ¬ nrm 1 = 0), bn_eq j39, if_neg (by decide : ¬ nrm 1 = 0)]
          refine go 3003 5 (by decide) (by omega) (fun s => by rcases w01 with q | q <;> rw [q] <;> rfl) ?_
          intro r μ2 μ3 μ4 x1 x2 x3 x4 x5
          unfold f_X7_readUnit_j139 f_X7_readUnit_j182
          rw [show (2 + 1 : Int) = 3 from rfl, bn_eq x1, bn_eq x2, x3, gd_pos (isL_k hL), if_pos (s1.mpr y1), gd_pos hL4, bn_eq x5]
          rcases x4 with q | q <;> rw [q, gd_pos (by decide)]
        · rw [if_neg (fun q => y1 (s1.mp q))]
          rw [if_neg y1] at j39
          rw [bn_eq j39, if_pos (by decide : nrm 0 = 0)]
          by_cases y2 : K1 = 40
          · rw [if_pos (s2.mpr y2)]
            rw [if_pos y2] at j40
            unfold f_X12_readUnit_j111
            rw [bn_eq j40, if_neg (by decide : ¬ nrm 1 = 0), bn_eq j39, if_pos (by decide : nrm 0 = 0), bn_eq j40, if_neg (by decide : ¬ nrm 1 = 0)]
            refine go 3004 6 (by decide) (by omega) (fun s => by rcases w01 with q | q <;> rw [q] <;> rfl) ?_
            intro r μ2 μ3 μ4 x1 x2 x3 x4 x5
            unfold f_X7_readUnit_j139 f_X7_readUnit_j182
            rw [show (2 + 1 : Int) = 3 from rfl, bn_eq x1, bn_eq x2, x3, gd_pos (isL_k hL), if_neg (fun q => y1 (s1.mp q)), if_pos (s2.mpr y2), gd_pos hL4, bn_eq x5]
            rcases x4 with q | q <;> rw [q, gd_pos (by decide)]
          · rw [if_neg (fun q => y2 (s2.mp q))]
            rw [if_neg y2] at j40
            rw [bn_eq j40, if_pos (by decide : nrm 0 = 0)]
            unfold f_X12_readUnit_j111
            rw [bn_eq j39, if_pos (by decide : nrm 0 = 0), bn_eq j40, if_pos (by decide : nrm 0 = 0), bn_eq j41]
            by_cases y3 : K1 = 41
            · rw [if_pos (s3.mpr y3), if_pos y3, if_neg (by decide : ¬ nrm 1 = 0)]
              refine go 3005 7 (by decide) (by omega) (fun s => by rcases w01 with q | q <;> rw [q] <;> rfl) ?_
              intro r μ2 μ3 μ4 x1 x2 x3 x4 x5
              unfold f_X7_readUnit_j139 f_X7_readUnit_j182
              rw [show (2 + 1 : Int) = 3 from rfl, bn_eq x1, bn_eq x2, x3, gd_pos (isL_k hL), if_neg (fun q => y1 (s1.mp q)), if_neg (fun q => y2 (s2.mp q)), gd_pos hL4, bn_eq x5]
              rcases x4 with q | q <;> rw [q, gd_pos (by decide)]
            · rw [if_neg (fun q => y3 (s3.mp q)), if_neg y3, if_pos (by decide : nrm 0 = 0)]
              obtain ⟨μ', ρ', v1, v2, v3, v4, v5⟩ := ES_bad g1 (x := 2) (by decide) (by decide)
              refine ⟨0, μ', ρ', by rw [bn_eq v1, gd_pos (by decide : isB 0)], by rw [bn_eq v2, no151 v5.1 v5.2.1], FrE_tr r3 v3, FrS_tr r4 v4, .inr ⟨rfl, v5⟩⟩
      · rw [if_pos (by decide : nrm 0 = 0), bn_eq (is_no hb.1 hb.2.1), if_pos (by decide : nrm 0 = 0), bn_eq (is_no hb.1 hb.2.1), if_pos (by decide : nrm 0 = 0), no111 hb.1 hb.2.1]
        exact ⟨0, μ1, ρ1, rfl, rfl, r3, r4, .inr ⟨rfl, hb⟩⟩
def rkS : Nat → Nat
  | 0 => 1
  | 1 => 5
  | 2 => 0
  | 3 => 3
  | 4 => 2
  | 5 => 6
  | _ => 4
def ofS : Nat → Nat
  | 0 => 0
  | 1 => 4
  | 2 => 0
  | 3 => 2
  | 4 => 1
  | 5 => 5
  | _ => 3
def soS : Nat → Bool
  | 1 => true
  | 5 => true
  | 6 => true
  | _ => false
theorem Res_le {n La w N a : Int} {T : Int → Int} {B B' : Nat} {b : Bool} {μ ρ : Mem} {f g : Option (Int × Mem)} (h : Res n T La w N a B b μ ρ f g) (hB : B ≤ B') : Res n T La w N a B' b μ ρ f g := by
  obtain ⟨r, μ', ρ', h1, h2, h3, h4, h5⟩ := h
  refine ⟨r, μ', ρ', h1, h2, h3, h4, ?_⟩
  rcases h5 with ⟨q, a', K', V', N', g1, g2, g3, g4, g5⟩ | q
  · exact .inl ⟨q, a', K', V', N', g1, g2, g3, g4, fun s hs => g5 s (by omega)⟩
  · exact .inr q
/-- All that a law is made of is read alike. -/
theorem rd_all {n La w : Int} {T : Int → Int} : ∀ (fu sel d : Nat), sel ≤ 6 → d ≤ 6 → 7 * (6 - d) + rkS sel + 1 ≤ fu → ∀ μ ρ a K V N, ES n T La w μ ρ a K V N → (sel = 2 → K = 15) → Res n T La w N a (31 - 5 * d + ofS sel) (soS sel) μ ρ (g_X7_readAtom fu sel 2 d μ) (g_X12_readAtom fu sel 111 d ρ) := by
  intro fu
  induction fu with
  | zero => intro sel d _ _ h; omega
  | succ fu ih =>
    intro sel d hs hd hf μ ρ a K V N hE hK
    have deep : ∀ sel', sel' ≤ 6 → sel' ≠ 2 → d < 6 → ∀ μ ρ a K V N, ES n T La w μ ρ a K V N → Res n T La w N a (31 - 5 * (d + 1) + ofS sel') (soS sel') μ ρ (g_X7_readAtom fu sel' 2 ((d : Int) + 1) μ) (g_X12_readAtom fu sel' 111 ((d : Int) + 1) ρ) := by
      intro sel' h1 h2 h3 μ ρ a K V N hE
      have hr : rkS sel' ≤ 6 := by
        rcases (by omega : sel' = 0 ∨ sel' = 1 ∨ sel' = 2 ∨ sel' = 3 ∨ sel' = 4 ∨ sel' = 5 ∨ sel' = 6) with e | e | e | e | e | e | e <;> rw [e] <;> decide
      have := ih sel' (d + 1) h1 (by omega) (by omega) μ ρ a K V N hE (fun q => absurd q h2)
      rw [show ((d + 1 : Nat) : Int) = (d : Int) + 1 by omega] at this
      exact this
    rcases (by omega : sel = 0 ∨ sel = 1 ∨ sel = 2 ∨ sel = 3 ∨ sel = 4 ∨ sel = 5 ∨ sel = 6) with e | e | e | e | e | e | e <;> subst e
    · have hf' : 7 * (6 - d) + 1 + 1 ≤ fu + 1 := hf
      exact rd0 (B := 31 - 5 * d) (BS := 31 - 5 * (d + 1) + 2) hd (by omega) (fun _ => by omega) (fun h => deep 3 (by decide) (by decide) h) (fun μ ρ a V N h => ih 2 d (by decide) hd (by show 7 * (6 - d) + 0 + 1 ≤ fu; omega) μ ρ a 15 V N h (fun _ => rfl)) hE
    · have hf' : 7 * (6 - d) + 5 + 1 ≤ fu + 1 := hf
      exact rd1 (B := 31 - 5 * d + 3) (fun μ ρ a K V N h => ih 6 d (by decide) hd (by show 7 * (6 - d) + 4 + 1 ≤ fu; omega) μ ρ a K V N h (fun q => absurd q (by decide))) hE
    · have hf' : 7 * (6 - d) + 0 + 1 ≤ fu + 1 := hf
      exact rd2 (B := 31 - 5 * d) (BS := 31 - 5 * (d + 1) + 2) (BT := 31 - 5 * (d + 1) + 5) hd (fun _ => by omega) (fun _ => by omega) (fun h => deep 3 (by decide) (by decide) h) (fun h => deep 5 (by decide) (by decide) h) (fun h ρ h1 h4 => by
        obtain ⟨q, hq⟩ : ∃ q, fu = q + 3 := ⟨fu - 3, by omega⟩
        rw [hq]
        exact no3 h1 h4) hE (by have := hK rfl; omega)
    · have hf' : 7 * (6 - d) + 3 + 1 ≤ fu + 1 := hf
      exact rd3 (B := 31 - 5 * d + 1) (fun μ ρ a K V N h => ih 4 d (by decide) hd (by show 7 * (6 - d) + 2 + 1 ≤ fu; omega) μ ρ a K V N h (fun q => absurd q (by decide))) hE
    · have hf' : 7 * (6 - d) + 2 + 1 ≤ fu + 1 := hf
      exact rd4 (B := 31 - 5 * d + 0) (fun μ ρ a K V N h => ih 0 d (by decide) hd (by show 7 * (6 - d) + 1 + 1 ≤ fu; omega) μ ρ a K V N h (fun q => absurd q (by decide))) hE
    · have hf' : 7 * (6 - d) + 6 + 1 ≤ fu + 1 := hf
      exact rd5 (B := 31 - 5 * d + 4) (fun μ ρ a K V N h => ih 1 d (by decide) hd (by show 7 * (6 - d) + 5 + 1 ≤ fu; omega) μ ρ a K V N h (fun q => absurd q (by decide))) hE
    · have hf' : 7 * (6 - d) + 4 + 1 ≤ fu + 1 := hf
      exact rd6 (B := 31 - 5 * d + 3) (B0 := 31 - 5 * d + 2) (BU := 31 - 5 * (d + 1) + 3) (BT := 31 - 5 * (d + 1) + 5) hd (by omega) (fun _ => by omega) (fun _ => by omega) (fun μ ρ a K V N h => ih 3 d (by decide) hd (by show 7 * (6 - d) + 3 + 1 ≤ fu; omega) μ ρ a K V N h (fun q => absurd q (by decide))) (fun h => deep 6 (by decide) (by decide) h) (fun h => deep 5 (by decide) (by decide) h) (fun ρ h1 h4 => by
        obtain ⟨q, hq⟩ : ∃ q, fu = q + 3 := ⟨fu - 3, by omega⟩
        rw [hq]
        exact no3 h1 h4) hE
