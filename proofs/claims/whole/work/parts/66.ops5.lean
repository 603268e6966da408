theorem ms111 {ρ : Mem} {i v c j : Int} (hi : 19 ≤ i) (h : ¬ (c = 111 ∧ 19 ≤ j)) : ms ρ 111 i v c j = ρ c j := by
  rw [ms_at, if_neg (by omega)]
/-- The end of deeds by now: kept if some were done. -/
theorem done_end {μ ρ μ2 ρ2 : Mem} {d : Int} (h : RR μ ρ) (s : ScD 58 (μ 58 0) (tko μ 60 58) μ2) (t2 : DcR (cpr ρ 118 0 112 55 13) ρ2) (j : JR μ2 58 ρ2) (d0 : 0 ≤ d) (d4 : d ≤ 40) :
    wp (f_X11_perform_j65 0 d μ2) (fun r μ' => wp (if nrm d ≤ 0 then some (d, ρ2) else bn (f_X12_notes 111 ρ2) fun _ μ3 => some (d, μ3)) (fun r' ρ' => nrm r = nrm r' ∧ RR μ' ρ')) := by
  obtain ⟨r1, r2, r3⟩ := deed_done h s ScW_rf t2 j
  unfold f_X11_perform_j65
  rw [show (0 + 62 : Int) = 62 from rfl, show (0 + 60 : Int) = 60 from rfl]
  by_cases z : nrm d ≤ 0
  · rw [if_pos z, if_pos z]
    simp only [wp_some]
    refine ⟨trivial, deed_not2 h s ?_ j⟩
    intro c i e1 e2 e3 e4 e5
    rw [t2 c i e1 e2 e4 e5, cpr_nc e3]
  · rw [if_neg z, if_neg z, bn_eq r1, bn_eq r2]
    simp only [wp_some]
    exact ⟨trivial, r3⟩
theorem op_perform (a : Int) (ha : nrm a = a) : Op2 (f_X11_perform 0 a) (f_X12_perform 111 a) := by
  intro μ ρ h
  have h' := RR_co (SaC_rfl μ) (SaR_thrown ρ 0) h
  generalize hρ : ms ρ 111 0 0 = ρ1 at h'
  unfold f_X11_perform f_X12_perform
  rw [nm_eq, hρ, bn_eq (trayOf_eq μ ha), bn_eq (noTray_eq ha (trays_s h')), show (0 + 60 : Int) = 60 from rfl, show (0 + 58 : Int) = 58 from rfl]
  by_cases g : 0 ≤ a ∧ a < 4
  · rw [if_pos g, if_pos g, if_neg (by omega : ¬ 90 + 2 * a < 0), gd_pos (tray_k g.1 g.2).1]
    rcases h'.2.2.2.2.2 a g.1 g.2 with ⟨e1, e2⟩ | ⟨e1, e2, e3, e4, e5, e6, e7, e8⟩
    · rw [e1, if_neg (by decide : ¬ nrm 1 = 0), if_pos e2, if_neg (by decide : ¬ nrm (-6) = 0)]
      simp only [wp_some]
      exact ⟨trivial, h'⟩
    · rw [e1, if_pos (by decide : nrm 0 = 0), if_neg (by omega : ¬ ρ1 126 a = -1), if_pos (by decide : nrm 0 = 0), bn_eq (takeOver_eq μ kk_58 (by decide) (by decide) (by decide)), bn_eq (stores_eq ρ1)]
      obtain ⟨j1, _, j3, _⟩ := JR_tko (ρ := ρ1) h'.2.2.1
      have es : ∀ c i, c ≠ 118 → ¬ (c = 111 ∧ 19 ≤ i) → ms (cpr ρ1 118 0 112 55 13) 111 19 0 c i = ρ1 c i := by
        intro c i x1 x2
        rw [ms111 (by decide) x2, cpr_nc x1]
      obtain ⟨d, μ2, ρ2, q1, q2, q3, q4, q5, q6, q7⟩ := perf_w (V := fun i => ρ1 128 (40 * a + i)) g.1 g.2 e7 h'.2.2.1.1 (fun i i0 i1 => (e8 i i0 i1).2) (ρ1 127 a).toNat FU FU 0 (tko μ 60 58) (ms (cpr ρ1 118 0 112 55 13) 111 19 0) (by decide) (by omega) (by unfold FU; omega) (by unfold FU; omega)
        (JR_r (fun i => ms_nc (by decide)) (JR_st j1)) j3 (by rw [tko_nc (by omega) (by omega)]; exact e5) (fun i i0 i1 => by rw [tko_nc (by omega) (by omega)]; exact (e8 i i0 i1).1)
        (es 127 a (by decide) (by omega)) (fun i i0 i1 => es 128 _ (by decide) (by omega)) (ms_eq _ _ _ _)
      have t2 : DcR (cpr ρ1 118 0 112 55 13) ρ2 := fun c i x1 x2 x3 x4 => by rw [q5 c i x1 x2 x3 x4, ms111 (by decide) x4]
      unfold f_X12_tells
      rw [nm_eq, bn_eq q2, q1]
      exact done_end h' q4 t2 q3 (by omega) (by omega)
  · rw [if_neg g, if_neg g, if_pos (by decide : (-1 : Int) < 0), if_neg (by decide : ¬ nrm (-2) = 0)]
    simp only [wp_some]
    exact ⟨trivial, h'⟩
theorem op_judge (a b : Int) (ha : nrm a = a) (hb : nrm b = b) : Op2 (f_X11_judge 0 a b) (f_X12_judge 111 a b) := by
  intro μ ρ h
  have h' := RR_co (SaC_rfl μ) (SaR_thrown ρ 0) h
  generalize hρ : ms ρ 111 0 0 = ρ1 at h'
  unfold f_X11_judge f_X12_judge
  rw [nm_eq, hρ, bn_eq (trayOf_eq μ ha), bn_within hb rfl rfl, hb, show nrm 3 = 3 from rfl, show (0 + 60 : Int) = 60 from rfl, show (0 + 58 : Int) = 58 from rfl]
  by_cases gb : 0 ≤ b ∧ b ≤ 3
  · rw [if_pos gb, if_neg (by decide : ¬ nrm 1 = 0), bn_eq (noTray_eq ha (trays_s h'))]
    by_cases g : 0 ≤ a ∧ a < 4
    · rw [if_pos g, if_pos g, if_neg (by omega : ¬ 90 + 2 * a < 0), if_neg (by omega : ¬ b < 0), if_pos gb.2, gd_pos (tray_k g.1 g.2).1]
      rcases h'.2.2.2.2.2 a g.1 g.2 with ⟨e1, e2⟩ | ⟨e1, e2, e3, e4, e5, e6, e7, e8⟩
      · rw [e1, if_neg (by decide : ¬ nrm 1 = 0), if_pos e2, if_neg (by decide : ¬ nrm (-6) = 0)]
        simp only [wp_some]
        exact ⟨trivial, h'⟩
      · rw [e1, if_pos (by decide : nrm 0 = 0), if_neg (by omega : ¬ ρ1 126 a = -1), if_pos (by decide : nrm 0 = 0), bn_eq (takeOver_eq μ kk_58 (by decide) (by decide) (by decide)), bn_eq (stores_eq ρ1)]
        obtain ⟨_, j1, _, j3⟩ := JR_tko (ρ := ρ1) h'.2.2.1
        have es : ∀ c i, c ≠ 118 → ¬ (c = 111 ∧ 19 ≤ i) → ms (cpr ρ1 118 0 112 55 13) 111 19 0 c i = ρ1 c i := by
          intro c i x1 x2
          rw [ms111 (by decide) x2, cpr_nc x1]
        obtain ⟨d, w, μ2, ρ2, q1, q2, q3, q4, q5, q6, q7, q8, q9⟩ := judg_w (V := fun i => ρ1 128 (40 * a + i)) (wh := b) g.1 g.2 e7 h'.2.2.1.1 (fun i i0 i1 => (e8 i i0 i1).2) (ρ1 127 a).toNat FU FU 0 (tko μ 60 58) (ms (cpr ρ1 118 0 112 55 13) 111 19 0) (by decide) (by omega) (by unfold FU; omega) (by unfold FU; omega)
          (JR_r (fun i => ms_nc (by decide)) (JR_st j1)) j3 (by rw [tko_nc (by omega) (by omega)]; exact e5) (fun i i0 i1 => by rw [tko_nc (by omega) (by omega)]; exact (e8 i i0 i1).1)
          (es 127 a (by decide) (by omega)) (fun i i0 i1 => es 128 _ (by decide) (by omega)) (ms_eq _ _ _ _)
        have er : ∀ c i, c ≠ 116 → c ≠ 117 → c ≠ 118 → ¬ (c = 112 ∧ 55 ≤ i ∧ i < 68) → ¬ (c = 111 ∧ 19 ≤ i) → ρ2 c i = ρ1 c i := fun c i x1 x2 x3 x4 x5 => by rw [q7 c i x1 x2 x4 x5, es c i x3 x5]
        have ew : ∀ j, 0 ≤ j → j < 13 → ρ2 118 j = ρ1 112 (55 + j) := by
          intro j j0 j1
          rw [q7 118 j (by decide) (by decide) (by omega) (by omega), ms_nc (by decide), cpr_in (by omega) (by omega)]
          congr 1
          omega
        have hL := h'.2.2.1.1
        have hL' := hL
        unfold isL at hL'
        have hRR : RR μ2 (cpr ρ2 112 55 118 0 13) := by
          refine RR_co ?_ ?_ h'
          · intro c i e
            unfold EssC at e
            rw [q6.1 c i (by omega) (by omega) (by omega) (by omega) (by omega), tko_nc (by omega) (by omega)]
          · intro c i e
            unfold EssR at e
            by_cases x : c = 112 ∧ 55 ≤ i ∧ i < 68
            · rw [x.1, cpr_in (by omega) (by omega), ew _ (by omega) (by omega)]
              congr 1
              omega
            · unfold cpr
              rw [if_neg (by omega)]
              exact er c i (by omega) (by omega) (by omega) x (by omega)
        obtain ⟨k1, ⟨_, ⟨k2, k3, k4⟩, _⟩, kC, ⟨k20, k29⟩, _, _, _, ⟨kc, _⟩, _⟩ := now_is q5
        have d1 := allDepths_eq (C := 60) rfl (isL_k k1) k2 k3 k4
        have d2 := depthSum_eq (ρ := ρ2) (L := rowA ρ2 0 2) (by rw [rowA_0]) k3 k4
        have d3 := sums_alike (ρ := ρ2) kC (rowA ρ2 0 2).toNat (by omega)
        have d4 : sumTo (fun j => rowA ρ2 0 (55 + 1 + j)) (rowA ρ2 0 2).toNat = sumTo (fun j => ρ2 112 (56 + j)) (rowA ρ2 0 2).toNat := sumTo_cg (fun j _ _ => by rw [rowA_0]; rfl)
        unfold f_X12_tells
        rw [nm_eq, bn_eq q2, q1, nm_eq, bn_eq d2, bn_eq (isAgain_eq ρ2), show (111 + 1 : Int) = 112 from rfl]
        unfold f_X11_judge_j95
        rw [hb, show nrm 1 = 1 from rfl, show nrm 2 = 2 from rfl, show (0 + 60 : Int) = 60 from rfl]
        have e19 : cpr ρ2 112 55 118 0 13 111 19 = w := by rw [cpr_nc (by decide)]; exact q3
        rw [e19]
        by_cases b0 : b = 0
        · rw [if_pos b0, if_pos b0]
          by_cases z : nrm w = 0
          · rw [if_pos z, if_pos z]; simp only [wp_some]; exact ⟨trivial, hRR⟩
          · rw [if_neg z, if_neg z]; simp only [wp_some]; exact ⟨trivial, hRR⟩
        · rw [if_neg b0, if_neg b0]
          by_cases b1 : b = 1
          · rw [if_pos b1, if_pos b1]; simp only [wp_some]; exact ⟨trivial, hRR⟩
          · rw [if_neg b1, if_neg b1]
            by_cases b2 : b = 2
            · rw [if_pos b2, if_pos b2]; simp only [wp_some]; exact ⟨by rw [kc], hRR⟩
            · rw [if_neg b2, if_neg b2, bn_eq d1]; simp only [wp_some]; exact ⟨by rw [d3, d4], hRR⟩
    · rw [if_neg g, if_neg g, if_pos (by decide : (-1 : Int) < 0), if_neg (by decide : ¬ nrm (-2) = 0)]
      simp only [wp_some]
      exact ⟨trivial, h'⟩
  · rw [if_neg gb, if_pos (by decide : nrm 0 = 0)]
    by_cases g : 0 ≤ a ∧ a < 4
    · rw [if_pos g, if_neg (by omega : ¬ 90 + 2 * a < 0)]
      by_cases b0 : b < 0
      · rw [if_pos b0]; simp only [wp_some]; exact ⟨trivial, h'⟩
      · rw [if_neg b0, if_neg (by omega)]; simp only [wp_some]; exact ⟨trivial, h'⟩
    · rw [if_neg g, if_pos (by decide : (-1 : Int) < 0)]; simp only [wp_some]; exact ⟨trivial, h'⟩
theorem jushr16 (z : Int) : 0 ≤ jushr z 16 ∧ jushr z 16 < 65536 := by
  unfold jushr
  have e : (jI 16).toUInt32 &&& Int32.toUInt32 31 = 16 := by decide
  rw [e]
  generalize (jI z).toUInt32 = u
  have hn : (u >>> 16).toNat < 65536 := by
    rw [UInt32.toNat_shiftRight]
    show u.toNat >>> 16 < 65536
    rw [Nat.shiftRight_eq_div_pow]
    have := u.toNat_lt
    omega
  have hi : (u >>> 16).toInt32.toInt = ((u >>> 16).toNat : Int) := by
    show (u >>> 16).toBitVec.toInt = _
    rw [bv_int (by show (u >>> 16).toNat < _; omega)]
    rfl
  rw [hi]
  omega
def rndM (x : Int) : Int := 1103515245 * x + 12345
/-- A drawn deed, and the number behind it. -/
def drM (x : Int) : Int × Int :=
  if jrem (jushr (rndM x) 16) 8 = 7 then (50, rndM x)
  else (if jrem (jushr (rndM x) 16) 8 = 3 then 10 + jrem (jushr (rndM (rndM x)) 16) 9 else if jrem (jushr (rndM x) 16) 8 = 4 then 20 + jrem (jushr (rndM (rndM x)) 16) 9 else if jrem (jushr (rndM x) 16) 8 = 5 then 30 + jrem (jushr (rndM (rndM x)) 16) 10 else if jrem (jushr (rndM x) 16) 8 = 6 then 40 + jrem (jushr (rndM (rndM x)) 16) 8 else jrem (jushr (rndM (rndM x)) 16) 9, rndM (rndM x))
theorem rem_in (z : Int) {b : Int} (b1 : 0 < b) (b2 : b ≤ 10) : 0 ≤ jrem (jushr z 16) b ∧ jrem (jushr z 16) b < b := by
  have := jushr16 z
  rw [jrem_nn (by omega) (by omega) b1 (by omega)]
  exact ⟨Int.emod_nonneg _ (by omega), Int.emod_lt_of_pos _ b1⟩
theorem drM_in (x : Int) : 0 ≤ (drM x).1 ∧ (drM x).1 ≤ 50 := by
  have h1 := rem_in (rndM (rndM x)) (b := 9) (by decide) (by decide)
  have h2 := rem_in (rndM (rndM x)) (b := 10) (by decide) (by decide)
  have h3 := rem_in (rndM (rndM x)) (b := 8) (by decide) (by decide)
  unfold drM
  split
  · exact ⟨by show (0 : Int) ≤ 50; decide, by show (50 : Int) ≤ 50; decide⟩
  · dsimp only
    split
    · omega
    · split
      · omega
      · split
        · omega
        · split <;> omega
theorem draw_eq {b : Int} (ρ : Mem) (hb : nrm b ≠ 0) : f_X12_draw 111 b ρ = some (jrem (jushr (rndM (ρ 111 20)) 16) b, ms ρ 111 20 (rndM (ρ 111 20))) := by
  unfold f_X12_draw
  rw [nm_eq, gd_pos hb, ms_eq]
  rfl
theorem drawn_eq (ρ : Mem) : f_X12_drawn 111 ρ = some ((drM (ρ 111 20)).1, ms ρ 111 20 (drM (ρ 111 20)).2) := by
  have h0 := rem_in (rndM (ρ 111 20)) (b := 8) (by decide) (by decide)
  unfold f_X12_drawn drM
  rw [bn_eq (draw_eq ρ (by decide))]
  have d : ∀ b, nrm b ≠ 0 → f_X12_draw 111 b (ms ρ 111 20 (rndM (ρ 111 20))) = some (jrem (jushr (rndM (rndM (ρ 111 20))) 16) b, ms ρ 111 20 (rndM (rndM (ρ 111 20)))) := by
    intro b hb
    rw [draw_eq _ hb, ms_eq, ms_ms]
  generalize jrem (jushr (rndM (ρ 111 20)) 16) 8 = k at h0
  rw [nrm_id (z := k) (by omega) (by omega), show nrm 3 = 3 from rfl, show nrm 5 = 5 from rfl, show nrm 6 = 6 from rfl]
  rcases (by omega : k = 0 ∨ k = 1 ∨ k = 2 ∨ k = 3 ∨ k = 4 ∨ k = 5 ∨ k = 6 ∨ k = 7) with e | e | e | e | e | e | e | e <;> subst e
  · rw [if_neg (by decide), bn_eq (d 9 (by decide))]; rfl
  · rw [if_neg (by decide), bn_eq (d 9 (by decide))]; rfl
  · rw [if_neg (by decide), bn_eq (d 9 (by decide))]; rfl
  · rw [if_pos (by decide), if_neg (by decide), bn_eq (d 9 (by decide))]; rfl
  · rw [if_pos (by decide), if_neg (by decide), bn_eq (d 9 (by decide))]; rfl
  · rw [if_pos (by decide), if_pos (by decide), if_pos rfl, bn_eq (d 10 (by decide))]; rfl
  · rw [if_pos (by decide), if_pos (by decide), if_neg (by decide), if_pos rfl, bn_eq (d 8 (by decide))]; rfl
  · rw [if_pos (by decide), if_pos (by decide), if_neg (by decide), if_neg (by decide)]; rfl
theorem drawB (x : Int) (μ : Mem) : f_X11_drawBehind x μ = some (rndM x, μ) := rfl
theorem year_c {t x c i : Int} {n : Nat} (μ : Mem) (h : ¬ nrm t ≤ nrm i) : f_X11_year_w33 (n + 1) 0 t x c i μ = f_X11_year_j80 (f_X11_year_w33 n) 0 t (drM x).2 c i (drM x).1 μ := by
  have h0 := rem_in (rndM x) (b := 8) (by decide) (by decide)
  unfold drM
  rw [f_X11_year_w33, if_neg h, bn_eq (drawB x μ), nm_eq, bn_eq (drawB (rndM x) μ)]
  generalize jrem (jushr (rndM x) 16) 8 = k at h0
  unfold f_X11_drawnDeed
  rw [nrm_id (z := k) (by omega) (by omega), show nrm 7 = 7 from rfl]
  rcases (by omega : k = 0 ∨ k = 1 ∨ k = 2 ∨ k = 3 ∨ k = 4 ∨ k = 5 ∨ k = 6 ∨ k = 7) with e | e | e | e | e | e | e | e <;> subst e
  · rw [if_neg (by decide), if_neg (by decide), if_neg (by decide), if_neg (by decide), if_neg (by decide), bn_eq rfl, Int.zero_add]; rfl
  · rw [if_neg (by decide), if_neg (by decide), if_neg (by decide), if_neg (by decide), if_neg (by decide), bn_eq rfl, Int.zero_add]; rfl
  · rw [if_neg (by decide), if_neg (by decide), if_neg (by decide), if_neg (by decide), if_neg (by decide), bn_eq rfl, Int.zero_add]; rfl
  · rw [if_neg (by decide), if_pos rfl, bn_eq rfl]; rfl
  · rw [if_neg (by decide), if_neg (by decide), if_pos rfl, bn_eq rfl]; rfl
  · rw [if_neg (by decide), if_neg (by decide), if_neg (by decide), if_pos rfl, bn_eq rfl]; rfl
  · rw [if_neg (by decide), if_neg (by decide), if_neg (by decide), if_neg (by decide), if_pos rfl, bn_eq rfl]; rfl
  · rw [if_pos rfl]; rfl
theorem year_w {t La : Int} (t4 : t ≤ 40) (hL : isL La) : ∀ (r n m : Nat) (x c i : Int) (μ ρ : Mem), 0 ≤ i → i + r = t → r < n → r < m → 0 ≤ c → c ≤ i → JR μ 58 ρ → μ 58 0 = La → ρ 111 20 = x →
    ∃ d μ' ρ', f_X11_year_w33 n 0 t x c i μ = f_X11_perform_j65 0 d μ' ∧ f_X12_year_w34 m 111 t c i ρ = (if nrm d ≤ 0 then some (d, ρ') else bn (f_X12_notes 111 ρ') fun _ μ3 => some (d, μ3)) ∧ JR μ' 58 ρ' ∧ ScD 58 La μ μ' ∧ DcR ρ ρ' ∧ 0 ≤ d ∧ d ≤ t := by
  intro r
  induction r with
  | zero =>
    intro n m x c i μ ρ i0 it hn hm c0 ci j hLa hx
    obtain ⟨n, rfl⟩ : ∃ q, n = q + 1 := ⟨n - 1, by omega⟩
    obtain ⟨m, rfl⟩ : ∃ q, m = q + 1 := ⟨m - 1, by omega⟩
    refine ⟨c, μ, ρ, ?_, ?_, j, ScD_rf, DcR_rf, c0, by omega⟩
    · rw [f_X11_year_w33, nrm_id (z := t) (by omega) (by omega), nrm_id (z := i) (by omega) (by omega), if_pos (by omega)]
      rfl
    · rw [f_X12_year_w34, nrm_id (z := t) (by omega) (by omega), nrm_id (z := i) (by omega) (by omega), if_pos (by omega)]
  | succ r ih =>
    intro n m x c i μ ρ i0 it hn hm c0 ci j hLa hx
    obtain ⟨n, rfl⟩ : ∃ q, n = q + 1 := ⟨n - 1, by omega⟩
    obtain ⟨m, rfl⟩ : ∃ q, m = q + 1 := ⟨m - 1, by omega⟩
    have hg : ¬ nrm t ≤ nrm i := by rw [nrm_id (z := t) (by omega) (by omega), nrm_id (z := i) (by omega) (by omega)]; omega
    have hd := drM_in x
    have hv : nrm (drM x).1 = (drM x).1 := nrm_id (by omega) (by omega)
    obtain ⟨w, μ2, ρ1, p1, p2, p3, p4, p5, p6⟩ := deed_eq (.inl rfl) kk_58 (JR_r (ρ' := ms ρ 111 20 (drM x).2) (fun i => ms_nc (by decide)) j) (nrl_id (z := (drM x).1) (by omega) (by omega))
    rw [hLa] at p4
    have u1 : f_X11_year_w33 (n + 1) 0 t x c i μ = if nrm w = 0 then f_X11_year_w33 n 0 t (drM x).2 (c + 1) (i + 1) μ2 else f_X11_year_w33 n 0 t (drM x).2 c (i + 1) μ2 := by
      rw [year_c μ hg]
      unfold f_X11_year_j80
      rw [hv, show (0 + 58 : Int) = 58 from rfl, bn_eq p1]
      rfl
    have u2 : f_X12_year_w34 (m + 1) 111 t c i ρ = if nrm w = 0 then (bn (f_X12_does 111 (drM x).1 ρ1) fun _ μ13 => f_X12_year_w34 m 111 t (c + 1) (i + 1) μ13) else f_X12_year_w34 m 111 t c (i + 1) ρ1 := by
      rw [f_X12_year_w34, if_neg hg, bn_eq (drawn_eq ρ), hx, hv, bn_eq p2]
      rfl
    have e20 : ρ1 111 20 = (drM x).2 := by rw [p3 111 20 (by decide) (by decide), ms_eq]
    have t0 : DcR ρ ρ1 := fun c i x1 x2 x3 x4 => by rw [p3 c i x1 x2, ms111 (by decide) x4]
    rw [nrm_id (z := w) (by omega) (by omega)] at u1 u2
    rcases p6 with ⟨wn, j2⟩ | ⟨w0, v0, v5, ρ2, d1, d2, d3⟩
    · obtain ⟨d, μ', ρ', q1, q2, q3, q4, q5, q6, q7⟩ := ih n m (drM x).2 c (i + 1) μ2 ρ1 (by omega) (by omega) (by omega) (by omega) c0 (by omega) j2 (by rw [p4.2]; exact hLa) e20
      exact ⟨d, μ', ρ', by rw [u1, if_neg wn]; exact q1, by rw [u2, if_neg wn]; exact q2, q3, ScD_tr p4 q4, DcR_tr t0 q5, q6, q7⟩
    · have e20' : ρ2 111 20 = (drM x).2 := by rw [d2 111 20 (by decide) (by decide) (by omega)]; exact e20
      obtain ⟨d, μ', ρ', q1, q2, q3, q4, q5, q6, q7⟩ := ih n m (drM x).2 (c + 1) (i + 1) μ2 ρ2 (by omega) (by omega) (by omega) (by omega) (by omega) (by omega) d3 (by rw [p4.2]; exact hLa) e20'
      exact ⟨d, μ', ρ', by rw [u1, if_pos w0]; exact q1, by rw [u2, if_pos w0, bn_eq d1]; exact q2, q3, ScD_tr p4 q4, DcR_tr t0 (DcR_tr (DcS_R d2) q5), q6, q7⟩
theorem op_year (a b : Int) (hb : nrm b = b) : Op2 (f_X11_year 0 a b) (f_X12_year 111 a b) := by
  intro μ ρ h
  have h' := RR_co (SaC_rfl μ) (SaR_thrown ρ 0) h
  generalize hρ : ms ρ 111 0 0 = ρ1 at h'
  unfold f_X11_year f_X12_year
  rw [nm_eq, hρ, bn_within hb rfl rfl, hb, show nrm 1 = 1 from rfl, show nrm 40 = 40 from rfl, show (0 + 60 : Int) = 60 from rfl, show (0 + 58 : Int) = 58 from rfl]
  by_cases g : 1 ≤ b ∧ b ≤ 40
  · rw [if_neg (by omega : ¬ b < 1), if_pos g.2, if_pos g, if_neg (by decide : ¬ nrm 1 = 0), bn_eq (takeOver_eq μ kk_58 (by decide) (by decide) (by decide)), bn_eq (stores_eq ρ1), nm_eq]
    obtain ⟨j1, _, j3, _⟩ := JR_tko (ρ := ρ1) h'.2.2.1
    obtain ⟨d, μ2, ρ2, q1, q2, q3, q4, q5, q6, q7⟩ := year_w g.2 h'.2.2.1.1 b.toNat FU FU a 0 0 (tko μ 60 58) (ms (cpr ρ1 118 0 112 55 13) 111 20 a) (by decide) (by omega) (by unfold FU; omega) (by unfold FU; omega) (by decide) (by decide) (JR_r (fun i => ms_nc (by decide)) (JR_st j1)) j3 (ms_eq _ _ _ _)
    have t2 : DcR (cpr ρ1 118 0 112 55 13) ρ2 := fun c i x1 x2 x3 x4 => by rw [q5 c i x1 x2 x3 x4, ms111 (by decide) x4]
    rw [q1, q2]
    exact done_end h' q4 t2 q3 q6 (by omega)
  · rw [if_neg g, if_pos (by decide : nrm 0 = 0)]
    by_cases a1 : b < 1
    · rw [if_pos a1]; simp only [wp_some]; exact ⟨trivial, h'⟩
    · rw [if_neg a1, if_neg (by omega)]; simp only [wp_some]; exact ⟨trivial, h'⟩
