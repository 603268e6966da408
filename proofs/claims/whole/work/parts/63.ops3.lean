theorem bnid (o : Option (Int × Mem)) : (bn o fun r m => some (r, m)) = o := by
  cases o with
  | none => rfl
  | some q => rfl
theorem td_cmp {v : Int} (v0 : 0 ≤ v) (v5 : v ≤ 50) : ¬ nrm (kcmp v 0) < 0 ∧ nrm (kcmp v 50) ≤ 0 ∧ krem v 10 = v % 10 ∧ nrm (v % 10) = v % 10 ∧ nrm (v - v % 10) = v - v % 10 := by
  have hv : nrl v = v := nrl_id (by omega) (by omega)
  refine ⟨?_, ?_, krem_nn v0 (by omega) (by decide) (by decide), nrm_id (by omega) (by omega), nrm_id (by omega) (by omega)⟩
  · rw [kcmp_neg, hv]; show ¬ v < 0; omega
  · have := kcmp_pos (a := v) (b := 50)
    rw [hv, show nrl 50 = 50 from rfl] at this
    omega
theorem td_go {C l : Int} (μ : Mem) (l0 : 0 ≤ l) (l9 : l ≤ 9) : f_X0_tryDeed C l μ = bn (f_X0_whyNoGoing C l μ) fun r7 μ6 => if nrm r7 = 0 then (bn (f_X0_goBy C l μ6) fun _ μ10 => some (r7, μ10)) else some (r7, μ6) := by
  obtain ⟨a1, a2, a3, a4, a5⟩ := td_cmp (v := l) l0 (by omega)
  unfold f_X0_tryDeed
  rw [if_neg a1, if_pos a2, nm_eq, a3, a4, a5, if_pos (by omega : l - l % 10 = 0), show l % 10 = l by omega]
theorem td_fill {C l : Int} (μ : Mem) (l0 : 0 ≤ l) (l9 : l ≤ 9) : f_X0_tryDeed C (10 + l) μ = f_X0_tryDepth C l (-1) μ := by
  obtain ⟨a1, a2, a3, a4, a5⟩ := td_cmp (v := 10 + l) (by omega) (by omega)
  unfold f_X0_tryDeed
  rw [if_neg a1, if_pos a2, nm_eq, a3, a4, a5, if_neg (by omega), if_pos (by omega), show (10 + l) % 10 = l by omega, bnid]
theorem td_dig {C l : Int} (μ : Mem) (l0 : 0 ≤ l) (l9 : l ≤ 9) : f_X0_tryDeed C (20 + l) μ = f_X0_tryDepth C l 1 μ := by
  obtain ⟨a1, a2, a3, a4, a5⟩ := td_cmp (v := 20 + l) (by omega) (by omega)
  unfold f_X0_tryDeed
  rw [if_neg a1, if_pos a2, nm_eq, a3, a4, a5, if_neg (by omega), if_neg (by omega), if_pos (by omega), show (20 + l) % 10 = l by omega, bnid]
theorem td_rain {C l : Int} (μ : Mem) (l0 : 0 ≤ l) (l9 : l ≤ 9) : f_X0_tryDeed C (30 + l) μ = some (0, ms μ C 2 l) := by
  obtain ⟨a1, a2, a3, a4, a5⟩ := td_cmp (v := 30 + l) (by omega) (by omega)
  unfold f_X0_tryDeed
  rw [if_neg a1, if_pos a2, nm_eq, a3, a4, a5, if_neg (by omega), if_neg (by omega), if_neg (by omega), if_pos (by omega), show (30 + l) % 10 = l by omega, nm_eq]
theorem td_turn {C l : Int} (μ : Mem) (l0 : 0 ≤ l) (l9 : l ≤ 9) : f_X0_tryDeed C (40 + l) μ = f_X0_tryTurning C l μ := by
  obtain ⟨a1, a2, a3, a4, a5⟩ := td_cmp (v := 40 + l) (by omega) (by omega)
  unfold f_X0_tryDeed
  rw [if_neg a1, if_pos a2, nm_eq, a3, a4, a5, if_neg (by omega), if_neg (by omega), if_neg (by omega), if_neg (by omega), if_pos (by omega), show (40 + l) % 10 = l by omega, bnid]
theorem doOne_in {a s : Int} (μ : Mem) (a0 : 0 ≤ a) (a9 : a ≤ 9) (s0 : 0 ≤ s) (s5 : s ≤ 40) : f_X11_doOne 0 s a μ = bn (f_X0_tryDeed 58 (s + a) (tko μ 60 58)) fun r7 μ6 => if nrm r7 = 0 then (bn (f_X2_keep 62 60 μ6) fun _ μ10 => some (r7, μ10)) else some (r7, μ6) := by
  unfold f_X11_doOne
  simp only [Int.zero_add]
  rw [nrm_id (z := a) (by omega) (by omega), show nrm 9 = 9 from rfl, if_neg (by omega), if_pos a9, bn_eq (takeOver_eq μ kk_58 (by decide) (by decide) (by decide)), nrm_id (z := s + a) (by omega) (by omega)]
theorem doOne_out {a s : Int} (μ : Mem) (ha : nrm a = a) (h : ¬ (0 ≤ a ∧ a ≤ 9)) : f_X11_doOne 0 s a μ = some (1, μ) := by
  unfold f_X11_doOne
  rw [ha, show nrm 9 = 9 from rfl]
  by_cases g : a < 0
  · rw [if_pos g]
  · rw [if_neg g, if_neg (by omega)]
theorem doOne_ok {a s : Int} {μ μ3 μ4 : Mem} (a0 : 0 ≤ a) (a9 : a ≤ 9) (s0 : 0 ≤ s) (s5 : s ≤ 40) (h1 : f_X0_tryDeed 58 (s + a) (tko μ 60 58) = some (0, μ3)) (h2 : f_X2_keep 62 60 μ3 = some (0, μ4)) : f_X11_doOne 0 s a μ = some (0, μ4) := by
  rw [doOne_in μ a0 a9 s0 s5, bn_eq h1, if_pos (by decide : nrm 0 = 0), bn_eq h2]
theorem doOne_no {a s w : Int} {μ μ3 : Mem} (a0 : 0 ≤ a) (a9 : a ≤ 9) (s0 : 0 ≤ s) (s5 : s ≤ 40) (h1 : f_X0_tryDeed 58 (s + a) (tko μ 60 58) = some (w, μ3)) (h2 : nrm w ≠ 0) : f_X11_doOne 0 s a μ = some (w, μ3) := by
  rw [doOne_in μ a0 a9 s0 s5, bn_eq h1, if_neg h2]
theorem RR_55 {μ ρ : Mem} (h : RR μ ρ) : μ 58 1 = ρ 112 55 ∧ μ 58 2 = ρ 112 66 ∧ μ 58 3 = ρ 112 65 := by
  obtain ⟨_, _, _, _, _, _, _, c, r, b, _⟩ := now_is (C := 58) h.2.2.1
  exact ⟨c.1, r.1, b.1⟩
theorem op_go (a : Int) (ha : nrm a = a) : Op2 (f_X11_go 0 a) (f_X12_go 111 a) := by
  intro μ ρ h
  have h' := RR_co (SaC_rfl μ) (SaR_thrown ρ 0) h
  generalize hρ : ms ρ 111 0 0 = ρ1 at h'
  have hl : nrl a = a := by rw [← ha, nrl_nrm]
  obtain ⟨ρ2, q1, q2⟩ := whyGo_m (C := 58) h'.2.2.1 hl
  have e2 : ∀ i, ρ2 112 i = ρ1 112 i := fun i => q2 112 i (by decide) (by decide)
  have eA : rowA ρ2 0 = rowA ρ1 0 := rowA_co (ScW_sa q2) 0
  unfold f_X11_go f_X12_go
  simp only [Int.zero_add, Int.reduceAdd]
  rw [nm_eq, hρ, ha, bn_eq q1]
  have wi := whyM_in (A := rowA ρ1 0) (l := a)
  rw [nrm_id (z := whyM (rowA ρ1 0) a) (by omega) (by omega)]
  by_cases g : 0 ≤ a ∧ a ≤ 9
  · have td := td_go (C := 58) (tko μ 60 58) g.1 g.2
    obtain ⟨j1, _, j3, _⟩ := JR_tko (ρ := ρ1) h'.2.2.1
    obtain ⟨μ2, p1, p2⟩ := whyNo_c kk_58 j1 ha
    obtain ⟨k1, k2⟩ := JR_co (.inl rfl) j1 p2 q2
    rw [j3] at p2 k2
    have hs : ScD 58 (μ 58 0) (tko μ 60 58) μ2 := ScD_of (.inl rfl) h'.2.2.1.1 p2
    rw [bn_eq p1, nrm_id (z := whyM (rowA ρ1 0) a) (by omega) (by omega)] at td
    by_cases z : whyM (rowA ρ1 0) a = 0
    · obtain ⟨z1, z2, z3, z4⟩ := whyM_0 z
      rw [rowA_0] at z2 z3
      have eS : rowA (cpr ρ2 118 0 112 55 13) 0 = rowA ρ1 0 := by
        rw [← eA]
        funext i
        rw [rowA_0, rowA_0, cpr_nc (by decide)]
      obtain ⟨μ3, ρ3, d1, d2, d3, d4, d5⟩ := go_eq (.inl rfl) kk_58 (JR_st k1) z1 (by rw [cpr_nc (by decide), e2]; exact z2) (by rw [eS, cpr_nc (by decide), e2]; exact z3)
      rw [k2] at d4
      obtain ⟨r1, r2, r3⟩ := deed_done h' (ScD_tr hs d4) q2 (DcS_R d5) d3
      rw [if_pos z, bn_eq d1, z, ← Int.zero_add a] at td
      rw [bn_eq (doOne_ok g.1 g.2 (by decide) (by decide) (by rw [Int.zero_add] at td ⊢; exact td) r1), if_pos (by decide : nrm 0 = 0), if_pos z, bn_eq (stores_eq ρ2), bn_eq d2, bn_eq r2]
      simp only [wp_some]
      exact ⟨by rw [(RR_55 r3).1], r3⟩
    · rw [if_neg z] at td
      have zn : nrm (whyM (rowA ρ1 0) a) ≠ 0 := by rw [nrm_id (z := whyM (rowA ρ1 0) a) (by omega) (by omega)]; exact z
      rw [bn_eq (doOne_no g.1 g.2 (by decide) (by decide) (by rw [Int.zero_add]; exact td) zn), if_neg zn, if_neg z]
      simp only [wp_some]
      exact ⟨trivial, deed_not h' hs (DcR_of q2) k1⟩
  · rw [doOne_out μ ha g]
    have z : whyM (rowA ρ1 0) a = 1 := by
      unfold whyM
      have L9 := LR_2 h'.2.2.1.2.1
      rw [if_neg (by omega)]
    rw [z, bn_eq rfl, if_neg (by decide : ¬ nrm 1 = 0), if_neg (by decide : ¬ (1 : Int) = 0)]
    simp only [wp_some]
    exact ⟨trivial, RR_co (SaC_rfl μ) (ScW_sa q2) h'⟩
theorem shov (a s m : Int) (ha : nrm a = a) (hs : (s = 10 ∧ m = -1) ∨ (s = 20 ∧ m = 1)) : Op2 (fun μ => bn (f_X11_doOne 0 s a μ) fun r2 μ1 => if nrm r2 = 0 then (bn (f_X0_depthOf 58 a μ1) fun r6 μ5 => some (r6, μ5)) else some (-10 - r2, μ1)) (fun ρ => bn (f_X12_shovels 111 a m (ms ρ 111 0 0)) fun r4 μ3 => some (r4, μ3)) := by
  intro μ ρ h
  have h' := RR_co (SaC_rfl μ) (SaR_thrown ρ 0) h
  generalize hρ : ms ρ 111 0 0 = ρ1 at h'
  have hl : nrl a = a := by rw [← ha, nrl_nrm]
  have hm : m = 1 ∨ m = -1 := by omega
  have L9 := LR_2 h'.2.2.1.2.1
  simp only [hρ, bnid]
  unfold f_X12_shovels
  simp only [Int.reduceAdd]
  have wi := rutM_in (A := rowA ρ1 0) (l := a) (m := m)
  rw [ha, bn_eq (whyRut_eq (C := 58) h'.2.2.1 hl hm), nrm_id (z := rutM (rowA ρ1 0) a m) (by omega) (by omega)]
  by_cases g : 0 ≤ a ∧ a ≤ 9
  · have td : f_X0_tryDeed 58 (s + a) (tko μ 60 58) = f_X0_tryDepth 58 a m (tko μ 60 58) := by
      rcases hs with ⟨e1, e2⟩ | ⟨e1, e2⟩ <;> subst e1 <;> subst e2
      · exact td_fill _ g.1 g.2
      · exact td_dig _ g.1 g.2
    obtain ⟨j1, _, j3, _⟩ := JR_tko (ρ := ρ1) h'.2.2.1
    rw [tryDepth_eq (.inl rfl) j1 ha hm] at td
    by_cases z : rutM (rowA ρ1 0) a m = 0
    · obtain ⟨z1, z2, _⟩ := rutM_0 z
      rw [rowA_0] at z2 L9
      have eS : rowA (cpr ρ1 118 0 112 55 13) 0 = rowA ρ1 0 := by
        funext i
        rw [rowA_0, rowA_0, cpr_nc (by decide)]
      obtain ⟨n1, n2, n3⟩ := rut_new (.inl rfl) (JR_st j1) hm (by rw [eS]; exact z)
      rw [j3] at n2
      obtain ⟨r1, r2, r3⟩ := deed_done h' n2 ScW_rf (DcS_R n3) n1
      rw [if_pos z, z] at td
      obtain ⟨hL, _, _, ⟨M0, M9⟩, _, _, hl2, _, _, _, hd⟩ := now_is (C := 58) r3.2.2.1
      have hg : nrm (56 + a) = 56 + a := nrm_id (by omega) (by omega)
      have eN : notesM (ms (cpr ρ1 118 0 112 55 13) 112 (56 + a) (cpr ρ1 118 0 112 55 13 112 (56 + a) + m)) 112 2 = ρ1 112 2 := by
        have := r3.2.2.2.1
        rw [nt_o (by rw [ms_ni (by omega), cpr_nc (by decide)]; exact h'.2.2.2.1.2.1) (by rw [ms_ni (by omega), cpr_nc (by decide)]; exact h'.2.2.2.1.2.2.1) (by omega), ms_ni (by omega), cpr_nc (by decide)]
      have hdo := hd a z1 (by rw [eN]; exact z2)
      have hde : ∀ μx : Mem, isL (μx 58 0) → μx (μx 58 0) 1 = notesM (ms (cpr ρ1 118 0 112 55 13) 112 (56 + a) (cpr ρ1 118 0 112 55 13 112 (56 + a) + m)) 112 2 → f_X0_depthOf 58 a μx = some (μx 59 a, μx) := by
        intro μx x1 x2
        unfold f_X0_depthOf
        rw [gd_pos (isL_k x1), bn_eq (hasLane_eq x2 M0 M9 ha), eN, if_pos (⟨z1, z2⟩ : 0 ≤ a ∧ a < ρ1 112 2), if_neg (by decide : ¬ nrm 1 = 0), ha, gd_pos (by omega)]
        rfl
      have hde' := hde _ hL hl2
      rw [bn_eq (doOne_ok g.1 g.2 (by omega) (by omega) td r1), if_pos (by decide : nrm 0 = 0), hde', if_pos z, bn_eq (stores_eq ρ1), hg, gd_pos (by omega : 0 ≤ 56 + a ∧ 56 + a < 3300), gd_pos (by omega : 0 ≤ 56 + a ∧ 56 + a < 3300), nm_eq, bn_eq r2, gd_pos (by omega : 0 ≤ 56 + a ∧ 56 + a < 3300)]
      simp only [wp_some]
      exact ⟨by rw [← hdo.1]; rfl, r3⟩
    · rw [if_neg z] at td
      have zn : nrm (rutM (rowA ρ1 0) a m) ≠ 0 := by rw [nrm_id (z := rutM (rowA ρ1 0) a m) (by omega) (by omega)]; exact z
      rw [bn_eq (doOne_no g.1 g.2 (by omega) (by omega) td zn), if_neg zn, if_neg z]
      simp only [wp_some]
      exact ⟨trivial, deed_not h' ScD_rf DcR_rf j1⟩
  · rw [doOne_out μ ha g]
    have z : rutM (rowA ρ1 0) a m = 1 := by
      unfold rutM
      rw [if_neg (by omega)]
    rw [z, bn_eq rfl, if_neg (by decide : ¬ nrm 1 = 0), if_neg (by decide : ¬ (1 : Int) = 0)]
    simp only [wp_some]
    exact ⟨trivial, h'⟩
theorem op_fill (a : Int) (ha : nrm a = a) : Op2 (f_X11_fill 0 a) (f_X12_fill 111 a) := shov a 10 (-1) ha (.inl ⟨rfl, rfl⟩)
theorem op_dig (a : Int) (ha : nrm a = a) : Op2 (f_X11_dig 0 a) (f_X12_dig 111 a) := shov a 20 1 ha (.inr ⟨rfl, rfl⟩)
theorem op_rain (a : Int) (ha : nrm a = a) : Op2 (f_X11_rain 0 a) (f_X12_rain 111 a) := by
  intro μ ρ h
  have h' := RR_co (SaC_rfl μ) (SaR_thrown ρ 0) h
  generalize hρ : ms ρ 111 0 0 = ρ1 at h'
  unfold f_X11_rain f_X12_rain
  simp only [Int.zero_add, Int.reduceAdd, nm_eq, hρ]
  rw [bn_within ha rfl rfl]
  by_cases g : 0 ≤ a ∧ a ≤ 9
  · obtain ⟨j1, _, j3, _⟩ := JR_tko (ρ := ρ1) h'.2.2.1
    obtain ⟨n1, n2, n3⟩ := rain_new (.inl rfl) (JR_st j1) g.1 g.2
    rw [j3] at n2
    obtain ⟨r1, r2, r3⟩ := deed_done h' n2 ScW_rf (DcS_R n3) n1
    rw [bn_eq (doOne_ok g.1 g.2 (by decide) (by decide) (td_rain _ g.1 g.2) r1), if_pos (by decide : nrm 0 = 0), if_pos g, if_neg (by decide : ¬ nrm 1 = 0), bn_eq (stores_eq ρ1), bn_eq r2]
    simp only [wp_some]
    refine ⟨?_, r3⟩
    have hh := h'.2.2.2.1
    rw [nt_o (by rw [ms_ni (by omega), cpr_nc (by decide)]; exact hh.2.1) (by rw [ms_ni (by omega), cpr_nc (by decide)]; exact hh.2.2.1) (by omega), ms_nc (by decide), cpr_in (by omega) (by omega), (RR_55 h').2.1]
    rfl
  · rw [bn_eq (doOne_out μ ha g), if_neg g, if_neg (by decide : ¬ nrm 1 = 0), if_pos (by decide : nrm 0 = 0)]
    simp only [wp_some]
    exact ⟨rfl, h'⟩
theorem op_turn (a : Int) (ha : nrm a = a) : Op2 (f_X11_turn 0 a) (f_X12_turn 111 a) := by
  intro μ ρ h
  have h' := RR_co (SaC_rfl μ) (SaR_thrown ρ 0) h
  generalize hρ : ms ρ 111 0 0 = ρ1 at h'
  obtain ⟨P1, P2, P3, P4⟩ := now_P (C := 58) h'.2.2.1
  obtain ⟨_, _, _, _, _, _, _, _, _, ⟨b1, b2, b3⟩, _⟩ := now_is (C := 58) h'.2.2.1
  unfold f_X11_turn f_X12_turn
  simp only [Int.zero_add, Int.reduceAdd, nm_eq, hρ]
  rw [bn_eq (isPerson_eq P2 P3), nrl_nrm, ha]
  by_cases z : 0 ≤ a ∧ a < ρ1 112 3
  · obtain ⟨j1, _, j3, _⟩ := JR_tko (ρ := ρ1) h'.2.2.1
    have hp := pow_back P2 P3
    obtain ⟨x1, x2⟩ := jxor_tb (x := ρ1 112 65) (k := a) b2 (by omega) z.1 (by omega)
    obtain ⟨n1, n2, n3⟩ := back_new (b := jxor (ρ1 112 65) (jshl 1 a)) (.inl rfl) (JR_st j1) x1 (by rw [cpr_nc (by decide)]; exact x2 _ P4 (by omega))
    rw [j3] at n2
    obtain ⟨r1, r2, r3⟩ := deed_done h' n2 ScW_rf (DcS_R n3) n1
    have e65 : cpr ρ1 118 0 112 55 13 112 65 = ρ1 112 65 := cpr_nc (by decide)
    have td := td_turn (C := 58) (tko μ 60 58) z.1 (by omega)
    rw [tryTurning_eq j1 ha, if_pos z, if_pos z] at td
    rw [bn_eq (doOne_ok z.1 (by omega) (by decide) (by decide) td r1), if_pos (by decide : nrm 0 = 0), if_pos z, if_neg (by decide : ¬ nrm 1 = 0), bn_eq (stores_eq ρ1), e65, bn_eq r2]
    simp only [wp_some]
    exact ⟨by rw [(RR_55 r3).2.2], r3⟩
  · rw [if_neg z]
    by_cases g : 0 ≤ a ∧ a ≤ 9
    · obtain ⟨j1, _, j3, _⟩ := JR_tko (ρ := ρ1) h'.2.2.1
      have td := td_turn (C := 58) (tko μ 60 58) g.1 g.2
      rw [tryTurning_eq j1 ha, if_neg z, if_neg z] at td
      rw [bn_eq (doOne_no g.1 g.2 (by decide) (by decide) td (by decide)), if_neg (by decide : ¬ nrm 1 = 0), if_pos (by decide : nrm 0 = 0)]
      simp only [wp_some]
      exact ⟨rfl, deed_not h' ScD_rf DcR_rf j1⟩
    · rw [bn_eq (doOne_out μ ha g), if_neg (by decide : ¬ nrm 1 = 0), if_pos (by decide : nrm 0 = 0)]
      simp only [wp_some]
      exact ⟨rfl, h'⟩
