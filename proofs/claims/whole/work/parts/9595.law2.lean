theorem LnS_w {n La a K V N i v : Int} {T : Int → Int} {μ ρ : Mem} (h : LnS n T La μ ρ a K V N) (hi : 4 ≤ i) : LnS n T La (ms μ 2 i v) ρ a K V N := by
  obtain ⟨hB, hD, hN⟩ := h
  have hL := hB.2.2.2
  have hLo := hL
  unfold isL at hLo
  exact ⟨BS_co hB (fun i => ms_nc (by decide)) (fun i => ms_nc (by decide)) (fun j _ _ => ms_ni (by omega)) (fun _ => rfl) (fun _ => rfl), LD_co hL (fun c i _ _ => ms_nc (by omega)) (fun _ => rfl) hD, hN⟩
theorem FZ_e {La : Int} {μ μ' : Mem} (h : FrE La μ μ') : FZ La μ μ' := fun c i e1 e2 e3 => h c i e2 (by omega) (by omega) (by omega)
theorem FY_s {ρ ρ' : Mem} (h : FrS ρ ρ') : FY ρ ρ' := fun c i e1 e2 => h c i (by omega) (by omega)
/-- A line that tells a law. -/
theorem law_ok {n La w a K V N : Int} {T : Int → Int} {μ ρ : Mem} {fC fR : Mem → Option (Int × Mem)} (hw : w = 0 ∨ w = 1) (h : LnS n T La μ ρ a K V N) (hK : K ≠ 24)
    (hres : ∀ μ ρ a K V N, ES n T La w μ ρ a K V N → Res n T La w N a 36 (decide (w = 1)) μ ρ (fC μ) (fR ρ)) (hno : ∀ ρ : Mem, 1 ≤ ρ 111 11 → ρ 111 11 ≤ 4 → fR ρ = some (0, ρ)) :
    LRes n T La a μ ρ (bn (f_X9_advance 3 μ) fun _ μ1 => (nm (ms μ1 2 5 w) fun μ4 => (gd (isK (μ4 2 1) 3) (bn (f_X4_stepsNow (μ4 2 1 + 7) μ4) fun r8 μ7 => (bn (f_X7_take 2 58 μ7) fun r11 μ10 => (if nrm r11 = 0 then some (0, μ10) else (bn (fC μ10) fun r15 μ14 => (if nrm r15 = 0 then some (0, μ14) else gd (isK (μ14 2 1) 3) (bn (f_X4_enact (μ14 2 1 + 7) w r8 μ14) fun _ μ19 => (bn (f_X7_takeLineEnd 2 μ19) fun r23 μ22 => (gd (isB r23) (some (r23, μ22)))))))))))))
      (bn (bn (f_X12_next 111 ρ) fun _ ρ1 => (bn (f_X12_eats 111 31 ρ1) fun r5 ρ4 => (if nrm r5 = 0 then (bn (f_X12_fails 111 2 ρ4) fun _ ρ8 => (nm (ρ8 115 199) fun v1 => (nm (ms ρ8 111 15 w) fun ρ3 => (bn (fR ρ3) fun _ ρ9 => f_X12_readLaw_j49 111 w v1 ρ9)))) else (nm (ρ4 115 199) fun v1 => (nm (ms ρ4 111 15 w) fun ρ3 => (bn (fR ρ3) fun _ ρ9 => f_X12_readLaw_j49 111 w v1 ρ9)))))) fun _ ρ1 => f_X12_closes 111 ρ1) := by
  obtain ⟨μ1, ρ1, a1, K1, V1, y1, y2, y3, y4, y5, y6⟩ := LS_step h hK
  have y6' := LnS_w (i := 5) (v := w) y6 (by decide)
  have hL := y6.1.2.2.2
  have hLo := hL
  unfold isL at hLo
  have n7 : ms μ1 2 5 w (La + 7) 1 = N := y6'.2.1.2.2.2.2.2.2.2.2.1
  have fz1 : FZ La μ (ms μ1 2 5 w) := FZ_tr (FZ_l y3) (fun c i e _ _ => ms_nc e)
  obtain ⟨r, μ2, ρ2, t1, t2, t3, t4, t5⟩ := LnS_take y6' (k := 31) (ck := 58) (by unfold kOk; decide) (by decide) (by decide)
  have F2 := FZ_tr fz1 (FZ_l t3)
  have S2 := FY_tr (FY_q y4) (FY_q t4)
  have i5 : μ2 2 5 = w := by rw [t3 2 5 (by decide) (by decide), ms_eq]
  have jn : ∀ {ρx : Mem} {v : Int}, 1 ≤ ρx 111 11 → ρx 111 11 ≤ 4 → f_X12_readLaw_j49 111 w v ρx = some (0, ρx) := by
    intro ρx v h1 h4
    unfold f_X12_readLaw_j49
    rw [nrm_id (z := ρx 111 11) (by omega) (by omega), if_neg (by omega)]
  unfold f_X4_stepsNow
  rw [bn_eq y1, nm_eq, y6'.1.2.2.1, gd_pos (isL_k hL), bn_eq rfl, n7, bn_eq t1, bn_eq y2, t2 (fun ρ8 => (nm (ρ8 115 199) fun v1 => (nm (ms ρ8 111 15 w) fun ρ3 => (bn (fR ρ3) fun _ ρ9 => f_X12_readLaw_j49 111 w v1 ρ9)))), nm_eq, nm_eq]
  have s15 : FY ρ2 (ms ρ2 111 15 w) := fun c i e _ => by rw [ms_at, if_neg (by omega)]
  have S3 := FY_tr S2 s15
  rcases t5 with ⟨rfl, a2, K2, V2, w1, w2⟩ | ⟨rfl, hb⟩
  · have hE := mkES w2 hw i5
    have e199 : ρ2 115 199 = N := w2.2.1.2.2.2.2.2.2.2.1
    obtain ⟨r, μ3, ρ3, r1, r2, r3, r4, r5⟩ := hres μ2 _ a2 K2 V2 N hE
    have F3 := FZ_tr F2 (FZ_e r3)
    have S4 := FY_tr S3 (FY_s r4)
    rw [if_neg (by decide : ¬ nrm 1 = 0), bn_eq r1, bn_eq r2, e199]
    rcases r5 with ⟨rfl, a3, K3, V3, N3, g1, g2, g3, g4, g5⟩ | ⟨rfl, hb⟩
    · have hD2 : LD La μ2 ((ms ρ2 111 15 w) 115) N := LD_co hL (fun _ _ _ _ => rfl) (fun i => ms_nc (by decide)) w2.2.1
      have hD := unES hD2 r3 r4 g1 g2 g4 (g5 [] (by decide))
      have hP := g1
      obtain ⟨q1, q2, q3, q4, _, _, _, q8, q9, q10, q11, _⟩ := hP
      have a9 := q1.2.2.1.2
      have n9 := q1.1.2.1
      have hB3 : BS n T La (ms (ms μ3 (La + 9) w N) (La + 10) w N3) (ms (ms (ms ρ3 115 (5 + w) 1) 115 (7 + w) N) 115 (9 + w) (N3 - N)) a3 K3 V3 := BS_co ⟨q1, q2, q3, q4⟩ (fun i => by rw [ms_nc (by omega), ms_nc (by omega)]) (fun i => by rw [ms_nc (by omega), ms_nc (by omega)]) (fun i _ _ => by rw [ms_nc (by omega), ms_nc (by omega)]) (fun i => by rw [ms_nc (by decide), ms_nc (by decide), ms_nc (by decide)]) (fun i => by rw [ms_nc (by decide), ms_nc (by decide), ms_nc (by decide)])
      have hen : f_X4_enact (La + 7) w N μ3 = some (0, ms (ms μ3 (La + 9) w N) (La + 10) w N3) := by
        unfold f_X4_enact
        rw [nrm_id (z := w) (by omega) (by omega), if_neg (by omega), if_neg (by show ¬ ((2 : Int) ≤ w); omega), gd_pos (by omega), nm_eq, gd_pos (by omega), nm_eq, show La + 7 + 2 = La + 9 by omega, show La + 7 + 3 = La + 10 by omega, ms_nc (by omega), q11]
      have hj : f_X12_readLaw_j49 111 w N ρ3 = some (0, ms (ms (ms ρ3 115 (5 + w) 1) 115 (7 + w) N) 115 (9 + w) (N3 - N)) := by
        unfold f_X12_readLaw_j49
        rw [q2, if_pos (by decide : nrm 0 = 0), show (111 + 4 : Int) = 115 from rfl, nrm_id (z := 5 + w) (by omega) (by omega), nrm_id (z := 7 + w) (by omega) (by omega), nrm_id (z := 9 + w) (by omega) (by omega), gd_pos (by omega), nm_eq, gd_pos (by omega), nm_eq, gd_pos (by omega), nm_eq, ms_ni (by omega), ms_ni (by omega), q10]
      rw [if_neg (by decide : ¬ nrm 1 = 0), q3, gd_pos (isL_k hL), bn_eq hen, hj, bn_eq rfl]
      refine LRes_fr (LRes_b (close_ok ⟨hB3, hD, q9⟩)) (by omega) (FZ_tr F3 (FZ_tr (FZ_ms (by omega)) (FZ_ms (by omega)))) (FY_tr S4 (FY_tr FY_ms (FY_tr FY_ms FY_ms)))
    · rw [if_pos (by decide : nrm 0 = 0), jn hb.1 hb.2.1, bn_eq rfl]
      obtain ⟨ρ6, c1, c2, c3⟩ := close_no hb
      exact ⟨0, μ3, ρ6, rfl, c1, F3, FY_tr S4 c2, .inr ⟨rfl, c3⟩⟩
  · have hb' : Bd μ2 (ms ρ2 111 15 w) := by
      unfold Bd
      rw [ms_ni (by decide), ms_ni (by decide)]
      exact hb
    rw [if_pos (by decide : nrm 0 = 0), bn_eq (hno _ hb'.1 hb'.2.1), jn hb'.1 hb'.2.1, bn_eq rfl]
    obtain ⟨ρ6, c1, c2, c3⟩ := close_no hb'
    exact ⟨0, μ2, ρ6, rfl, c1, F2, FY_tr S3 c2, .inr ⟨rfl, c3⟩⟩
