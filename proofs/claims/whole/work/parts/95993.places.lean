/-- The places, told first. -/
theorem LD_pl {La N v : Int} {μ : Mem} {A : Int → Int} (hL : isL La) (h : LD La μ A N) (hl : A 2 = 0) (hc : A 55 = 0) (v1 : 1 ≤ v) (v7 : v ≤ 7) : LD La (ms μ La 0 v) (upF A 1 v) N := by
  obtain ⟨⟨g1, g2, g3, g4, g5, g6, g7, g8, g9⟩, h2, h3, h4, h5, h6, h7, h8, h9, h10, h11, h12, h13⟩ := h
  have s : ∀ c i, ¬ (c = La ∧ i = 0) → ms μ La 0 v c i = μ c i := fun c i hc => by rw [ms_at, if_neg hc]
  have t : ∀ i, i ≠ 1 → upF A 1 v i = A i := fun i hi => upF_ne hi
  have hw : ∀ w, (w = 0 ∨ w = 1) → LawR μ La A w → LawR (ms μ La 0 v) La (upF A 1 v) w := by
    intro w hw h
    unfold LawR at h ⊢
    rw [t (5 + w) (by omega), t (7 + w) (by omega), t (9 + w) (by omega), s (La + 9) w (by omega), s (La + 10) w (by omega)]
    rcases h with h | ⟨a, b, c, d, e, f, g, k⟩
    · exact .inl h
    · refine .inr ⟨a, b, c, d, e, f, ?_, ?_⟩
      · intro j j1 j2
        rw [s (La + 8) j (by omega), t (200 + j) (by omega)]
        exact g j j1 j2
      · rw [tyR_cg2 (cd' := fun j => A (200 + j)) _ _ _ (fun i i0 i1 => t (200 + i) (by omega))]
        exact k
  refine ⟨⟨⟨by rw [ms_eq, upF_eq], by rw [upF_eq]; exact v1, by rw [upF_eq]; exact v7⟩, by rw [s La 1 (by omega), t 2 (by decide)]; exact g2, by rw [s La 2 (by omega), t 3 (by decide)]; exact g3, by rw [s La 3 (by omega), t 0 (by decide)]; exact g4, by rw [s La 5 (by omega), t 4 (by decide)]; exact g5, ?_, ?_, hw 0 (.inl rfl) g8, hw 1 (.inr rfl) g9⟩, ?_, by rw [s La 6 (by omega), t 66 (by decide)]; exact h3, by rw [s La 7 (by omega), t 65 (by decide), t 3 (by decide)]; exact h4, ?_, by rw [t 67 (by decide)]; exact h6, by rw [t 68 (by decide)]; exact h7, by rw [t 199 (by decide)]; exact h8, by rw [s (La + 7) 1 (by omega)]; exact h9, h10, ?_, by rw [t 5 (by decide), t 7 (by decide), t 9 (by decide)]; exact h12, by rw [t 6 (by decide), t 8 (by decide), t 10 (by decide)]; exact h13⟩
  · intro l l0 l1
    rw [t 2 (by decide)] at l1
    omega
  · intro p p0 p1
    rw [t 3 (by decide)] at p1
    have := g7 p p0 p1
    unfold TurnR at this ⊢
    rw [t (47 + p) (by omega), s (La + 6) p (by omega)]
    exact this
  · rw [s La 4 (by omega), t 55 (by decide), upF_eq]
    exact ⟨h2.1, h2.2.1, by omega⟩
  · intro l l0 l1
    rw [s (La + 3) l (by omega), s (La + 4) l (by omega), s (La + 5) l (by omega), t (56 + l) (by omega), t (29 + l) (by omega), t (38 + l) (by omega)]
    exact h5 l l0 l1
  · intro j j0 j1
    rw [s (La + 8) j (by omega), t (200 + j) (by omega)]
    exact h11 j j0 j1
/-- The first line. -/
theorem places_ok {n La a K V N : Int} {T : Int → Int} {μ ρ : Mem} (h : LnS n T La μ ρ a K V N) (hl : ρ 115 2 = 0) (hc : ρ 115 55 = 0) : LRes n T La a μ ρ (f_X7_readLandLine 2 μ) (bn (f_X12_eats 111 0 ρ) fun r ρ1 => (if nrm r = 0 then (bn (f_X12_fails 111 2 ρ1) fun _ ρ2 => (bn (f_X12_named 111 1 1 7 ρ2) fun v ρ3 => (nm (ms ρ3 115 1 v) fun ρ4 => f_X12_closes 111 ρ4))) else (bn (f_X12_named 111 1 1 7 ρ1) fun v ρ3 => (nm (ms ρ3 115 1 v) fun ρ4 => f_X12_closes 111 ρ4)))) := by
  obtain ⟨r, μ1, ρ1, t1, t2, t3, t4, t5⟩ := LnS_take h (k := 0) (ck := 128) (by unfold kOk; decide) (by decide) (by decide)
  have F1 := FZ_l (La := La) t3
  have S1 := FY_q t4
  unfold f_X7_readLandLine
  rw [bn_eq t1, t2 (fun ρ2 => (bn (f_X12_named 111 1 1 7 ρ2) fun v ρ3 => (nm (ms ρ3 115 1 v) fun ρ4 => f_X12_closes 111 ρ4)))]
  have fail : ∀ (μx ρx : Mem) (v : Int), FZ La μ μx → FY ρ ρx → Bd μx ρx → LRes n T La a μ ρ (some (0, μx)) (f_X12_closes 111 (ms ρx 115 1 v)) := by
    intro μx ρx v fz fy hb
    obtain ⟨ρ6, c1, c2, c3⟩ := close_no (Bd_115 (i := 1) (v := v) hb)
    exact ⟨0, μx, ρ6, rfl, c1, fz, FY_tr fy (FY_tr FY_ms c2), .inr ⟨rfl, c3⟩⟩
  rcases t5 with ⟨rfl, a1, K1, V1, w1, w2⟩ | ⟨rfl, hb⟩
  · obtain ⟨r, μ2, ρ2, u1, u2, u3, u4, u5⟩ := LnS_take w2 (k := 1) (ck := 129) (by unfold kOk; decide) (by decide) (by decide)
    have F2 := FZ_tr F1 (FZ_l u3)
    have S2 := FY_tr S1 (FY_q u4)
    rw [if_neg (by decide : ¬ nrm 1 = 0), bn_eq u1, named_y u2]
    rcases u5 with ⟨rfl, a2, K2, V2, x1, x2⟩ | ⟨rfl, hb⟩
    · obtain ⟨hB, hD, hN⟩ := x2
      have hL := hB.2.2.2
      have hLo := hL
      unfold isL at hLo
      obtain ⟨r, v, μ3, ρ3, y1, y2, y3, y4, y5⟩ := BS_num hB (lo := 1) (hi := 7) (bar := -1) (by decide) (by decide) (by decide) (by decide) (.inl rfl) rfl
      have F3 := FZ_tr F2 (FZ_l y3)
      have S3 := FY_tr S2 (FY_q y4)
      rw [if_neg (by decide : ¬ nrm 1 = 0), bn_eq y1, bn_eq y2, nm_eq]
      rcases y5 with ⟨rfl, z1, z2, z3, _, a', K', V', z5, z6⟩ | ⟨rfl, hb⟩
      · have hl3 : ρ3 115 2 = 0 := by rw [y4 115 2 (by decide), u4 115 2 (by decide), t4 115 2 (by decide)]; exact hl
        have hc3 : ρ3 115 55 = 0 := by rw [y4 115 55 (by decide), u4 115 55 (by decide), t4 115 55 (by decide)]; exact hc
        have hS : LnS n T La (ms μ3 La 0 v) (ms ρ3 115 1 v) a' K' V' N := by
          refine ⟨BS_co z6 (fun i => ms_nc (by omega)) (fun i => ms_nc (by omega)) (fun i _ _ => ms_nc (by omega)) (fun i => ms_nc (by decide)) (fun i => ms_nc (by decide)), ?_, by omega⟩
          rw [up115]
          exact LD_pl hL (LD_l hL hD y3 y4) hl3 hc3 z2 z3
        rw [if_neg (by decide : ¬ nrm 1 = 0), z6.2.2.1, gd_pos (isL_k hL), z1, nm_eq]
        exact LRes_fr (LRes_b (close_ok hS)) (by omega) (FZ_tr F3 (FZ_ms (by omega))) (FY_tr S3 FY_ms)
      · rw [if_pos (by decide : nrm 0 = 0)]
        exact fail μ3 ρ3 v F3 S3 hb
    · rw [if_pos (by decide : nrm 0 = 0), bn_eq (takes_no hb.1 hb.2.1), nm_eq]
      exact fail μ2 ρ2 _ F2 S2 hb
  · rw [if_pos (by decide : nrm 0 = 0), bn_eq (named_no hb.1 hb.2.1), nm_eq]
    exact fail μ1 ρ1 _ F1 S1 hb
