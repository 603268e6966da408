theorem bn_id {o : Option (Int × Mem)} : (bn o fun r μ => some (r, μ)) = o := by
  cases o with
  | none => rfl
  | some x => rfl
theorem Bd_115 {μ ρ : Mem} {i v : Int} (hb : Bd μ ρ) : Bd μ (ms ρ 115 i v) := by
  unfold Bd
  rw [ms_nc (by decide), ms_nc (by decide)]
  exact hb
theorem named_no {k lo hi : Int} {ρ : Mem} (h : 1 ≤ ρ 111 11) (h4 : ρ 111 11 ≤ 4) : f_X12_named 111 k lo hi ρ = some (ρ 111 10, ρ) := by
  unfold f_X12_named
  rw [eats_C h h4 (fun ρ => f_X12_named_j13 111 lo hi ρ)]
  unfold f_X12_named_j13
  rw [bn_eq (takes_no h h4)]
theorem named_y {k lo hi : Int} {ρ ρ' : Mem} (y : ∀ C : Mem → Option (Int × Mem), (bn (f_X12_eats 111 k ρ) fun r ρ1 => (if nrm r = 0 then (bn (f_X12_fails 111 2 ρ1) fun _ ρ2 => C ρ2) else C ρ1)) = C ρ') : f_X12_named 111 k lo hi ρ = f_X12_takes 111 lo hi ρ' := by
  unfold f_X12_named
  rw [y (fun ρ => f_X12_named_j13 111 lo hi ρ)]
  unfold f_X12_named_j13
  exact bn_id
theorem LnS_take {n La a K V N k ck : Int} {T : Int → Int} {μ ρ : Mem} (h : LnS n T La μ ρ a K V N) (hk : kOk k) (k24 : k ≠ 24) (hck : nrm ck = cK k) : ∃ r μ' ρ', f_X7_take 2 ck μ = some (r, μ') ∧ (∀ C : Mem → Option (Int × Mem), (bn (f_X12_eats 111 k ρ) fun r ρ1 => (if nrm r = 0 then (bn (f_X12_fails 111 2 ρ1) fun _ ρ2 => C ρ2) else C ρ1)) = C ρ') ∧ FL μ μ' ∧ FQ ρ ρ' ∧ ((r = 1 ∧ ∃ a' K' V', a + 1 ≤ a' ∧ LnS n T La μ' ρ' a' K' V' N) ∨ (r = 0 ∧ Bd μ' ρ')) := by
  obtain ⟨hB, hD, hN⟩ := h
  obtain ⟨r, μ', ρ', y1, y2, y3, y4, y5⟩ := BS_take hB hk k24 hck
  refine ⟨r, μ', ρ', y1, y2, y3, y4, ?_⟩
  rcases y5 with ⟨q, _, a', K', V', z1, z2⟩ | q
  · exact .inl ⟨q, a', K', V', z1, z2, LD_l hB.2.2.2 hD y3 y4, by omega⟩
  · exact .inr q
/-- A line of the cart. -/
theorem cart_ok {n La a K V N : Int} {T : Int → Int} {μ ρ : Mem} (h : LnS n T La μ ρ a K V N) (hK : K ≠ 24) : LRes n T La a μ ρ (f_X7_readCart 2 μ) (bn (f_X12_readCart 111 ρ) fun _ ρ1 => f_X12_closes 111 ρ1) := by
  obtain ⟨μ1, ρ1, a1, K1, V1, y1, y2, y3, y4, y5, y6⟩ := LS_step h hK
  obtain ⟨r, μ2, ρ2, t1, t2, t3, t4, t5⟩ := LnS_take y6 (k := 7) (ck := 135) (by unfold kOk; decide) (by decide) (by decide)
  have F2 := FZ_tr (FZ_l (La := La) y3) (FZ_l t3)
  have S2 := FY_tr (FY_q y4) (FY_q t4)
  have e1 : ρ2 115 1 = ρ1 115 1 := t4 115 1 (by decide)
  unfold f_X7_readCart f_X12_readCart
  rw [show (2 + 1 : Int) = 3 from rfl, show (111 + 4 : Int) = 115 from rfl, bn_eq y1, bn_eq t1, bn_eq y2, named_y t2, ← e1]
  -- what the reference does behind a fault
  have rest : ∀ (μx ρx : Mem), FZ La μ μx → FY ρ ρx → Bd μx ρx → ∃ ρ', (bn (bn (f_X12_named 111 8 0 9 ρx) fun r10 μ9 => (nm (ms μ9 115 4 r10) fun μ12 => some ((0 : Int), μ12))) fun _ ρ1 => f_X12_closes 111 ρ1) = some (0, ρ') ∧ FY ρ ρ' ∧ Bd μx ρ' := by
    intro μx ρx fz fy hb
    obtain ⟨ρ3, c1, c2, c3⟩ := close_no (Bd_115 (i := 4) (v := ρx 111 10) hb)
    refine ⟨ρ3, ?_, FY_tr fy (FY_tr FY_ms c2), c3⟩
    rw [bn_eq (named_no hb.1 hb.2.1), nm_eq, bn_eq rfl]
    exact c1
  rcases t5 with ⟨rfl, a2, K2, V2, w1, w2⟩ | ⟨rfl, hb⟩
  · have hL := w2.1.2.2.2
    have h21 := w2.1.2.2.1
    obtain ⟨p1, p2, p3⟩ := w2.2.1.1.1
    obtain ⟨μ3, ρ3, z1, z2, z3, z4⟩ := num_set (lo := 0) (hi := ρ2 115 1 - 1) (f := 4) (g := 55) w2 (by decide) (by decide) (by omega) (by omega) (.inl ⟨rfl, rfl, by omega⟩)
    have F3 := FZ_tr F2 z1
    have S3 := FY_tr S2 z2
    have zz : (bn (bn (f_X12_takes 111 0 (ρ2 115 1 - 1) ρ2) fun r5 μ4 => (nm (ms μ4 115 55 r5) fun μ7 => (bn (f_X12_named 111 8 0 9 μ7) fun r10 μ9 => (nm (ms μ9 115 4 r10) fun μ12 => some ((0 : Int), μ12))))) fun _ ρ1 => f_X12_closes 111 ρ1) = (bn (bn (f_X12_named 111 8 0 9 ρ3) fun r10 μ9 => (nm (ms μ9 115 4 r10) fun μ12 => some ((0 : Int), μ12))) fun _ ρ1 => f_X12_closes 111 ρ1) := by
      rw [z3 (fun ρ => (bn (f_X12_named 111 8 0 9 ρ) fun r10 μ9 => (nm (ms μ9 115 4 r10) fun μ12 => some ((0 : Int), μ12))))]
    rw [if_neg (by decide : ¬ nrm 1 = 0), h21, gd_pos (isL_k hL), p1, zz]
    rcases z4 with ⟨⟨a3, K3, V3, v1, v2⟩, _, v3⟩ | ⟨hb, v3⟩
    · rw [v3 (fun μ14 => (bn (f_X7_take 2 136 μ14) fun r17 μ16 => (if nrm r17 = 0 then some (0, μ16) else (bn (f_X7_takeNumber 2 0 9 (-1) μ16) fun r21 μ20 => (if nrm r21 = 0 then some (0, μ20) else gd (isK (μ20 2 1) 3) (nm (ms μ20 (μ20 2 1) 5 (μ20 2 4)) fun μ25 => (bn (f_X7_takeLineEnd 2 μ25) fun r28 μ27 => (gd (isB r28) (some (r28, μ27)))))))))) ]
      obtain ⟨r, μ4, ρ4, q1, q2, q3, q4, q5⟩ := LnS_take v2 (k := 8) (ck := 136) (by unfold kOk; decide) (by decide) (by decide)
      have F4 := FZ_tr F3 (FZ_l q3)
      have S4 := FY_tr S3 (FY_q q4)
      rw [bn_eq q1, named_y q2]
      rcases q5 with ⟨rfl, a4, K4, V4, u1, u2⟩ | ⟨rfl, hb⟩
      · obtain ⟨μ5, ρ5, x1, x2, x3, x4⟩ := num_set (lo := 0) (hi := 9) (f := 5) (g := 4) u2 (by decide) (by decide) (by decide) (by decide) (.inr (.inl ⟨rfl, rfl, by decide⟩))
        have F5 := FZ_tr F4 x1
        have S5 := FY_tr S4 x2
        rw [if_neg (by decide : ¬ nrm 1 = 0), x3 (fun μ12 => some ((0 : Int), μ12)), bn_eq rfl]
        rcases x4 with ⟨⟨a5, K5, V5, o1, o2⟩, _, o3⟩ | ⟨hb, o3⟩
        · rw [o3 (fun μ => bn (f_X7_takeLineEnd 2 μ) fun r μ' => gd (isB r) (some (r, μ')))]
          exact LRes_fr (LRes_b (close_ok o2)) (by omega) F5 S5
        · rw [o3 (fun μ => bn (f_X7_takeLineEnd 2 μ) fun r μ' => gd (isB r) (some (r, μ')))]
          obtain ⟨ρ6, c1, c2, c3⟩ := close_no hb
          exact ⟨0, μ5, ρ6, rfl, c1, F5, FY_tr S5 c2, .inr ⟨rfl, c3⟩⟩
      · obtain ⟨ρ6, c1, c2, c3⟩ := close_no (Bd_115 (i := 4) (v := ρ4 111 10) hb)
        rw [if_pos (by decide : nrm 0 = 0), bn_eq (takes_no hb.1 hb.2.1), nm_eq, bn_eq rfl]
        exact ⟨0, μ4, ρ6, rfl, c1, F4, FY_tr S4 (FY_tr FY_ms c2), .inr ⟨rfl, c3⟩⟩
    · rw [v3 (fun μ14 => (bn (f_X7_take 2 136 μ14) fun r17 μ16 => (if nrm r17 = 0 then some (0, μ16) else (bn (f_X7_takeNumber 2 0 9 (-1) μ16) fun r21 μ20 => (if nrm r21 = 0 then some (0, μ20) else gd (isK (μ20 2 1) 3) (nm (ms μ20 (μ20 2 1) 5 (μ20 2 4)) fun μ25 => (bn (f_X7_takeLineEnd 2 μ25) fun r28 μ27 => (gd (isB r28) (some (r28, μ27)))))))))) ]
      obtain ⟨ρ6, c1, c2, c3⟩ := rest μ3 ρ3 F3 S3 hb
      exact ⟨0, μ3, ρ6, rfl, c1, F3, c2, .inr ⟨rfl, c3⟩⟩
  · rw [if_pos (by decide : nrm 0 = 0), bn_eq (takes_no hb.1 hb.2.1), nm_eq]
    obtain ⟨ρ6, c1, c2, c3⟩ := rest μ2 (ms ρ2 115 55 (ρ2 111 10)) F2 (FY_tr S2 FY_ms) (Bd_115 hb)
    exact ⟨0, μ2, ρ6, rfl, c1, F2, c2, .inr ⟨rfl, c3⟩⟩
