/-- While a lane's flags are being read. -/
def LB (n : Int) (T : Int → Int) (La L : Int) (μ ρ : Mem) (a K V N : Int) : Prop := LnS n T La μ ρ a K V N ∧ ρ 115 2 = L ∧ (0 ≤ L ∧ L < 9) ∧ (μ (La + 1) L = ρ 115 (11 + L) ∧ 0 ≤ ρ 115 (11 + L) ∧ ρ 115 (11 + L) < ρ 115 1) ∧ (μ (La + 2) L = ρ 115 (20 + L) ∧ 0 ≤ ρ 115 (20 + L) ∧ ρ 115 (20 + L) < ρ 115 1) ∧ ρ 115 (11 + L) ≠ ρ 115 (20 + L)
theorem lane_end {n La L a K V N : Int} {T : Int → Int} {μ ρ : Mem} (h : LB n T La L μ ρ a K V N) : LRes n T La a μ ρ (f_X7_readLane_j137 2 μ) (bn (f_X12_readLane_j122 111 ρ) fun _ ρ1 => f_X12_closes 111 ρ1) := by
  obtain ⟨⟨hB, hD, hN⟩, h2, hl, h3, h4, h5⟩ := h
  have hL := hB.2.2.2
  have hLo := hL
  unfold isL at hLo
  have e1 : μ La 1 = L := hD.1.2.1.1.trans h2
  have hS : LnS n T La (ms μ La 1 (L + 1)) (ms ρ 115 2 (L + 1)) a K V N := by
    refine ⟨BS_co hB (fun i => ms_nc (by omega)) (fun i => ms_nc (by omega)) (fun i _ _ => ms_nc (by omega)) (fun i => ms_nc (by decide)) (fun i => ms_nc (by decide)), ?_, hN⟩
    rw [up115]
    exact LD_lane hD h2 hl.2 h3 h4 h5
  unfold f_X7_readLane_j137 f_X12_readLane_j122
  rw [show (111 + 4 : Int) = 115 from rfl, hB.2.2.1, gd_pos (isL_k hL), nm_eq, e1, hB.2.1, if_pos (by decide : nrm 0 = 0), nm_eq, bn_eq rfl, h2]
  exact LRes_fr (LRes_b (close_ok hS)) (by omega) (FZ_ms (by omega)) FY_ms
def fgG (K : Int) : Int := if K = 3 then 56 else if K = 4 then 29 else 38
def fgH (K : Int) : Int := if K = 3 then 6 else if K = 4 then 9 else 10
theorem flag_C {n La L a K V : Int} {T : Int → Int} {μ ρ : Mem} (h : BS n T La μ ρ a K V) (hl : 0 ≤ L ∧ L < 9) (hK : K = 3 ∨ K = 4 ∨ K = 5) : f_X7_readFlag 2 L μ = (bn (f_X9_advance 3 μ) fun _ μ1 => (bn (f_X7_takeNumber 2 0 (fgH K) (-1) μ1) fun r μ2 => (if nrm r = 0 then some (0, μ2) else gd (isK (μ2 2 1) 3) (gd (0 ≤ L ∧ L < 9) (nm (ms μ2 (μ2 2 1 + K) L (μ2 2 4)) fun μ3 => some (1, μ3)))))) := by
  have e := h.1.2.2.2.2.1
  have nl : nrm L = L := nrm_id (by omega) (by omega)
  unfold f_X7_readFlag f_X7_readFlag_j35 f_X7_readFlag_j68 fgH
  rw [nm_eq, show (2 + 1 : Int) = 3 from rfl, e, nl]
  rcases hK with z | z | z <;> subst z
  · rw [if_pos (by decide : nrm (cK 3) = nrm 131), if_pos rfl]
    simp only [if_pos (by decide : nrm (cK 3) = nrm 131)]
  · rw [if_neg (by decide : ¬ nrm (cK 4) = nrm 131), if_pos (by decide : nrm (cK 4) = nrm 132), if_neg (by decide : ¬ (4 : Int) = 3), if_pos rfl]
    simp only [if_neg (by decide : ¬ nrm (cK 4) = nrm 131), if_pos (by decide : nrm (cK 4) = nrm 132)]
  · rw [if_neg (by decide : ¬ nrm (cK 5) = nrm 131), if_neg (by decide : ¬ nrm (cK 5) = nrm 132), if_pos (by decide : nrm (cK 5) = nrm 133), if_neg (by decide : ¬ (5 : Int) = 3), if_neg (by decide : ¬ (5 : Int) = 4)]
    simp only [if_neg (by decide : ¬ nrm (cK 5) = nrm 131), if_neg (by decide : ¬ nrm (cK 5) = nrm 132)]
theorem flag_R {n La L a K V : Int} {T : Int → Int} {μ ρ ρ1 : Mem} (h : BS n T La μ ρ a K V) (hl : 0 ≤ L ∧ L < 9) (hK : K = 3 ∨ K = 4 ∨ K = 5) (y : f_X12_next 111 ρ = some (0, ρ1)) : f_X12_readFlag 111 L ρ = (bn (f_X12_takes 111 0 (fgH K) ρ1) fun v ρ2 => (nm (ms ρ2 115 (fgG K + L) v) fun ρ3 => f_X12_readFlag_j83 111 ρ3)) := by
  unfold f_X12_readFlag
  rw [show (111 + 4 : Int) = 115 from rfl, nrm_id (z := 56 + L) (by omega) (by omega), nrm_id (z := 29 + L) (by omega) (by omega), nrm_id (z := 38 + L) (by omega) (by omega)]
  rcases hK with z | z | z
  · rw [bn_eq (BS_yes h (by unfold kOk; decide) z y), if_neg (by decide : ¬ nrm 1 = 0), z]
    have : ∀ (c : Mem → Option (Int × Mem)) (x : Mem), gd (0 ≤ 56 + L ∧ 56 + L < 1100) (c x) = c x := fun c x => gd_pos (by omega)
    show (bn (f_X12_takes 111 0 6 ρ1) fun r26 μ25 => gd (0 ≤ 56 + L ∧ 56 + L < 1100) (nm (ms μ25 115 (56 + L) r26) fun μ28 => f_X12_readFlag_j83 111 μ28)) = (bn (f_X12_takes 111 0 6 ρ1) fun v ρ2 => (nm (ms ρ2 115 (56 + L) v) fun ρ3 => f_X12_readFlag_j83 111 ρ3))
    congr 1
    funext r x
    rw [gd_pos (by omega)]
  · rw [bn_eq (BS_no h (by unfold kOk; decide) (by omega)), if_pos (by decide : nrm 0 = 0), bn_eq (BS_yes h (by unfold kOk; decide) z y), if_neg (by decide : ¬ nrm 1 = 0), z]
    show (bn (f_X12_takes 111 0 9 ρ1) fun r26 μ25 => gd (0 ≤ 29 + L ∧ 29 + L < 1100) (nm (ms μ25 115 (29 + L) r26) fun μ28 => f_X12_readFlag_j83 111 μ28)) = (bn (f_X12_takes 111 0 9 ρ1) fun v ρ2 => (nm (ms ρ2 115 (29 + L) v) fun ρ3 => f_X12_readFlag_j83 111 ρ3))
    congr 1
    funext r x
    rw [gd_pos (by omega)]
  · rw [bn_eq (BS_no h (by unfold kOk; decide) (by omega)), if_pos (by decide : nrm 0 = 0), bn_eq (BS_no h (by unfold kOk; decide) (by omega)), if_pos (by decide : nrm 0 = 0), bn_eq (BS_yes h (by unfold kOk; decide) z y), if_neg (by decide : ¬ nrm 1 = 0), z]
    show (bn (f_X12_takes 111 0 10 ρ1) fun r26 μ25 => gd (0 ≤ 38 + L ∧ 38 + L < 1100) (nm (ms μ25 115 (38 + L) r26) fun μ28 => f_X12_readFlag_j83 111 μ28)) = (bn (f_X12_takes 111 0 10 ρ1) fun v ρ2 => (nm (ms ρ2 115 (38 + L) v) fun ρ3 => f_X12_readFlag_j83 111 ρ3))
    congr 1
    funext r x
    rw [gd_pos (by omega)]
/-- One flag of a lane. -/
theorem flag_ok {n La L a K V N : Int} {T : Int → Int} {μ ρ : Mem} (h : LB n T La L μ ρ a K V N) (hK : K = 3 ∨ K = 4 ∨ K = 5) : ∃ r μ' ρ', f_X7_readFlag 2 L μ = some (r, μ') ∧ f_X12_readFlag 111 L ρ = some (r, ρ') ∧ FZ La μ μ' ∧ FY ρ ρ' ∧ ((r = 1 ∧ ∃ a' K' V', a + 1 ≤ a' ∧ LB n T La L μ' ρ' a' K' V' N) ∨ (r = 0 ∧ Bd μ' ρ')) := by
  obtain ⟨hS, h2, hl, h3, h4, h5⟩ := h
  have hB := hS.1
  have hL := hB.2.2.2
  have hLo := hL
  unfold isL at hLo
  obtain ⟨μ1, ρ1, a1, K1, V1, y1, y2, y3, y4, y5, y6⟩ := LS_step hS (by omega)
  obtain ⟨hB1, hD1, hN1⟩ := y6
  have hG : (K = 3 ∧ fgG K = 56 ∧ fgH K = 6) ∨ (K = 4 ∧ fgG K = 29 ∧ fgH K = 9) ∨ (K = 5 ∧ fgG K = 38 ∧ fgH K = 10) := by
    rcases hK with z | z | z <;> subst z <;> decide
  rw [flag_C hB hl hK, flag_R hB hl hK y2, bn_eq y1]
  generalize fgG K = G at *
  generalize fgH K = H at *
  obtain ⟨r, v, μ2, ρ2, x1, x2, x3, x4, x5⟩ := BS_num hB1 (lo := 0) (hi := H) (bar := -1) (by decide) (by decide) (by omega) (by omega) (.inl rfl) rfl
  have F2 := FZ_tr (FZ_l (La := La) y3) (FZ_l x3)
  have S2 := FY_tr (FY_tr (FY_q y4) (FY_q x4)) (FY_ms (i := G + L) (v := v))
  rw [bn_eq x1, bn_eq x2, nm_eq, nm_eq]
  unfold f_X12_readFlag_j83
  rw [ms_nc (by decide : (111 : Int) ≠ 115)]
  rcases x5 with ⟨rfl, z1, z2, z3, _, a', K', V', z5, z6⟩ | ⟨rfl, hb⟩
  · rw [if_neg (by decide : ¬ nrm 1 = 0), z6.2.1, if_pos (by decide : nrm 0 = 0), z6.2.2.1, gd_pos (isL_k hL), gd_pos hl, z1]
    have r2 : ∀ i, ρ2 115 i = ρ 115 i := fun i => (x4 115 i (by omega)).trans (y4 115 i (by omega))
    have m2 : ∀ c i, La ≤ c → c ≤ La + 10 → μ2 c i = μ c i := fun c i c1 c2 => (x3 c i (by omega) (by omega)).trans (y3 c i (by omega) (by omega))
    have hS2 : LnS n T La μ2 ρ2 a' K' V' N := ⟨z6, LD_l hL hD1 x3 x4, by omega⟩
    refine ⟨1, _, _, rfl, rfl, FZ_tr F2 (FZ_ms (by omega)), S2, .inl ⟨rfl, a', K', V', by omega, ?_⟩⟩
    have w := r2 2
    refine ⟨LS_row (k := K) (g := G + L) (j := L) (v := v) hS2 hl.1 (by omega), ?_, hl, ?_, ?_, ?_⟩
    · rw [ms_ni (by omega), r2]; exact h2
    · rw [ms_nc (by omega), m2 (La + 1) L (by omega) (by omega), ms_ni (by omega), ms_ni (by omega), r2, r2]; exact h3
    · rw [ms_nc (by omega), m2 (La + 2) L (by omega) (by omega), ms_ni (by omega), ms_ni (by omega), r2, r2]; exact h4
    · rw [ms_ni (by omega), ms_ni (by omega), r2, r2]; exact h5
  · have w1 := hb.1
    have w2 := hb.2.1
    rw [if_pos (by decide : nrm 0 = 0), nrm_id (z := ρ2 111 11) (by omega) (by omega), if_neg (by omega)]
    exact ⟨0, _, _, rfl, rfl, F2, S2, .inr ⟨rfl, Bd_115 hb⟩⟩
theorem lj_no {ρ : Mem} (h : 1 ≤ ρ 111 11) (h4 : ρ 111 11 ≤ 4) : f_X12_readLane_j122 111 ρ = some (0, ρ) := by
  unfold f_X12_readLane_j122
  rw [nrm_id (z := ρ 111 11) (by omega) (by omega), if_neg (by omega)]
theorem lw_no {L : Int} {fr : Nat} {ρ : Mem} (h : 1 ≤ ρ 111 11) (h4 : ρ 111 11 ≤ 4) : f_X12_readLane_w104 (fr + 1) 111 L ρ = some (0, ρ) := by
  rw [f_X12_readLane_w104, nrm_id (z := ρ 111 11) (by omega) (by omega), if_neg (by omega)]
  exact lj_no h h4
theorem lane_stop {n La L x2 a K V N : Int} {T : Int → Int} {fu fr : Nat} {μ ρ : Mem} (h : LB n T La L μ ρ a K V N) (hK : ¬ (K = 3 ∨ K = 4 ∨ K = 5)) : LRes n T La a μ ρ (f_X7_readLane_w102 (fu + 1) 2 L x2 μ) (bn (f_X12_readLane_w104 (fr + 1) 111 L ρ) fun _ ρ1 => f_X12_closes 111 ρ1) := by
  have hB := h.1.1
  have hR : f_X12_readFlag 111 L ρ = some (0, ρ) := by
    unfold f_X12_readFlag
    rw [bn_eq (BS_no hB (by unfold kOk; decide) (by omega)), if_pos (by decide : nrm 0 = 0), bn_eq (BS_no hB (by unfold kOk; decide) (by omega)), if_pos (by decide : nrm 0 = 0), bn_eq (BS_no hB (by unfold kOk; decide) (by omega)), if_pos (by decide : nrm 0 = 0)]
  rw [f_X7_readLane_w102, f_X12_readLane_w104, hB.2.1, if_pos (by decide : nrm 0 = 0), bn_eq hR, if_pos (by decide : nrm 0 = 0)]
  by_cases y : nrm 900 ≤ nrm x2
  · rw [if_pos y]
    exact lane_end h
  · rw [if_neg y]
    by_cases z : K = 30
    · rw [if_pos (show nrm (μ (2 + 1) 0) = nrm 59 from (BS_c hB (k := 30) (by unfold kOk; decide)).mpr z)]
      exact lane_end h
    · have n3 : ¬ nrm (μ (2 + 1) 0) = nrm 131 := fun q => absurd ((BS_c hB (k := 3) (by unfold kOk; decide)).mp q) (by omega)
      have n4 : ¬ nrm (μ (2 + 1) 0) = nrm 132 := fun q => absurd ((BS_c hB (k := 4) (by unfold kOk; decide)).mp q) (by omega)
      have n5 : ¬ nrm (μ (2 + 1) 0) = nrm 133 := fun q => absurd ((BS_c hB (k := 5) (by unfold kOk; decide)).mp q) (by omega)
      have hB' : BS n T La μ (ms ρ 115 2 (L + 1)) a K V := BS_co hB (fun _ => rfl) (fun _ => rfl) (fun _ _ _ => rfl) (fun i => ms_nc (by decide)) (fun i => ms_nc (by decide))
      obtain ⟨μ', ρ', y1, y2, y3, y4, y5⟩ := BS_bad hB' (x := 2) (by decide) (by decide)
      have hC : f_X7_readFlag 2 L μ = some (0, μ') := by
        unfold f_X7_readFlag
        rw [nm_eq, if_neg n3, if_neg n4, if_neg n5, bn_eq y1, gd_pos (by decide)]
      rw [if_neg (show ¬ nrm (μ (2 + 1) 0) = nrm 59 from fun q => z ((BS_c hB (k := 30) (by unfold kOk; decide)).mp q)), bn_eq hC, if_pos (by decide : nrm 0 = 0)]
      unfold f_X12_readLane_j122 f_X12_closes f_X12_closes_j14
      rw [hB.2.1, if_pos (by decide : nrm 0 = 0), show (111 + 4 : Int) = 115 from rfl, nm_eq, bn_eq rfl, h.2.1, bn_eq (BS_no hB' (by unfold kOk; decide) z), if_pos (by decide : nrm 0 = 0), bn_eq y2, nm_eq]
      exact ⟨0, μ', _, rfl, rfl, FZ_l y3, FY_tr FY_ms (FY_tr (FY_q y4) FY_ms), .inr ⟨rfl, Bd_115 y5⟩⟩
theorem lane_w {n La L : Int} {T : Int → Int} : ∀ (m fu fr : Nat) (x2 a K V N : Int) (μ ρ : Mem), (900 - a).toNat ≤ m → m < fu → m < fr → 0 ≤ x2 → x2 ≤ a → LB n T La L μ ρ a K V N →
    LRes n T La a μ ρ (f_X7_readLane_w102 fu 2 L x2 μ) (bn (f_X12_readLane_w104 fr 111 L ρ) fun _ ρ1 => f_X12_closes 111 ρ1) := by
  intro m
  induction m with
  | zero =>
    intro fu fr x2 a K V N μ ρ hm hu hr x0 xa h
    obtain ⟨fu, rfl⟩ : ∃ f, fu = f + 1 := ⟨fu - 1, by omega⟩
    obtain ⟨fr, rfl⟩ : ∃ f, fr = f + 1 := ⟨fr - 1, by omega⟩
    refine lane_stop h (fun z => ?_)
    have hB := h.1.1
    have hn := hB.1.1.2.1
    have ha := hB.1.2.2.1.2
    obtain ⟨_, _, a', _, _, _, _, _, _, y5, y6, _⟩ := BS_step hB (by omega)
    have := y6.1.2.2.1.2
    omega
  | succ m ih =>
    intro fu fr x2 a K V N μ ρ hm hu hr x0 xa h
    obtain ⟨fu, rfl⟩ : ∃ f, fu = f + 1 := ⟨fu - 1, by omega⟩
    obtain ⟨fr, rfl⟩ : ∃ f, fr = f + 1 := ⟨fr - 1, by omega⟩
    by_cases z : K = 3 ∨ K = 4 ∨ K = 5
    · have hB := h.1.1
      have hn := hB.1.1.2.1
      have ha := hB.1.2.2.1.2
      have ha9 : a < 900 := by
        obtain ⟨_, _, a', _, _, _, _, _, _, y5, y6, _⟩ := BS_step hB (by omega)
        have := y6.1.2.2.1.2
        omega
      obtain ⟨r, μ', ρ', y1, y2, y3, y4, y5⟩ := flag_ok h z
      rw [f_X7_readLane_w102, f_X12_readLane_w104, hB.2.1, if_pos (by decide : nrm 0 = 0), bn_eq y2, nrm_id (z := x2) (by omega) (by omega), if_neg (by show ¬ ((900 : Int) ≤ x2); omega), if_neg (show ¬ nrm (μ (2 + 1) 0) = nrm 59 from fun q => absurd ((BS_c hB (k := 30) (by unfold kOk; decide)).mp q) (by omega)), bn_eq y1]
      rcases y5 with ⟨rfl, a', K', V', w1, w2⟩ | ⟨rfl, hb⟩
      · have ha' := w2.1.1.1.2.2.1.2
        rw [if_neg (by decide : ¬ nrm 1 = 0), if_neg (by decide : ¬ nrm 1 = 0)]
        exact LRes_fr (ih fu fr (x2 + 1) a' K' V' N _ _ (by omega) (by omega) (by omega) (by omega) (by omega) w2) (by omega) y3 y4
      · rw [if_pos (by decide : nrm 0 = 0), if_pos (by decide : nrm 0 = 0), bn_eq (lj_no hb.1 hb.2.1)]
        obtain ⟨ρ6, c1, c2, c3⟩ := close_no hb
        exact ⟨0, μ', ρ6, rfl, c1, y3, FY_tr y4 c2, .inr ⟨rfl, c3⟩⟩
    · exact lane_stop h z
/-- What the reference does of a lane behind a fault. -/
theorem j82_no {La L : Int} {μ ρ : Mem} (hl : 0 ≤ L ∧ L < 9) (hb : Bd μ ρ) : ∃ ρ', (bn (f_X12_readLane_j82 111 L ρ) fun _ ρ1 => f_X12_closes 111 ρ1) = some (0, ρ') ∧ FY ρ ρ' ∧ Bd μ ρ' := by
  have hb' := Bd_115 (i := 20 + L) (v := ρ 111 10) hb
  obtain ⟨ρ6, c1, c2, c3⟩ := close_no hb'
  refine ⟨ρ6, ?_, FY_tr FY_ms c2, c3⟩
  unfold f_X12_readLane_j82
  rw [nrm_id (z := 20 + L) (by omega) (by omega), show (111 + 4 : Int) = 115 from rfl, bn_eq (takes_no hb.1 hb.2.1), gd_pos (by omega), nm_eq, show FU = 9999 + 1 from rfl, bn_eq (lw_no hb'.1 hb'.2.1)]
  exact c1
/-- A line of a lane. -/
theorem lane_ok {n La a K V N : Int} {T : Int → Int} {μ ρ : Mem} (h : LnS n T La μ ρ a K V N) (hK : K ≠ 24) : LRes n T La a μ ρ (f_X7_readLane 2 μ) (bn (f_X12_readLane 111 ρ) fun _ ρ1 => f_X12_closes 111 ρ1) := by
  have hB := h.1
  have hL := hB.2.2.2
  have hLo := hL
  unfold isL at hLo
  obtain ⟨e2, L0, L9⟩ := h.2.1.1.2.1
  generalize hE : ρ 115 2 = L at *
  have nL : nrm L = L := nrm_id (by omega) (by omega)
  unfold f_X7_readLane f_X12_readLane
  rw [hB.2.2.1, gd_pos (isL_k hL), nm_eq, e2, nL, if_neg (by omega), show (111 + 4 : Int) = 115 from rfl, nm_eq, hE, nL]
  by_cases q : L = 9
  · obtain ⟨μ', ρ', y1, y2, y3, y4, y5⟩ := BS_bad hB (x := 4) (by decide) (by decide)
    obtain ⟨ρ6, c1, c2, c3⟩ := close_no y5
    have w1 := y5.1
    have w2 := y5.2.1
    unfold f_X7_readLane_j18 f_X12_readLane_j18
    rw [if_neg (show ¬ (L < nrm 9) by show ¬ (L < (9 : Int)); omega), if_pos (show L = nrm 9 from q), bn_eq y1, gd_pos (by decide), bn_eq y2, nrm_id (z := ρ' 111 11) (by omega) (by omega), if_neg (by omega), bn_eq rfl]
    exact ⟨0, μ', ρ6, rfl, c1, FZ_l y3, FY_tr (FY_q y4) c2, .inr ⟨rfl, c3⟩⟩
  · have hl : 0 ≤ L ∧ L < 9 := by omega
    obtain ⟨μ1, ρ1, a1, K1, V1, y1, y2, y3, y4, y5, y6⟩ := LS_step h hK
    obtain ⟨hB1, hD1, hN1⟩ := y6
    obtain ⟨pl, pl1, pl7⟩ := hD1.1.1
    have e12 : ρ1 115 2 = L := by rw [y4 115 2 (by decide)]; exact hE
    obtain ⟨r, v, μ2, ρ2, x1, x2, x3, x4, x5⟩ := BS_num hB1 (lo := 0) (hi := ρ1 115 1 - 1) (bar := -1) (by decide) (by decide) (by omega) (by omega) (.inl rfl) rfl
    have F2 := FZ_tr (FZ_l (La := La) y3) (FZ_l x3)
    have S2 := FY_tr (FY_q y4) (FY_q x4)
    have n11 : nrm (11 + L) = 11 + L := nrm_id (by omega) (by omega)
    unfold f_X12_readLane_j18
    rw [if_pos (show L < nrm 9 by show L < (9 : Int); omega), if_neg (show ¬ L = nrm 9 from q), hB.2.1, if_pos (by decide : nrm 0 = 0), show (2 + 1 : Int) = 3 from rfl, bn_eq y1, bn_eq y2, hB1.2.2.1, gd_pos (isL_k hL), pl, bn_eq x1, show (111 + 4 : Int) = 115 from rfl, bn_eq x2, n11, gd_pos (show 0 ≤ 11 + L ∧ 11 + L < 1100 by omega), nm_eq]
    rcases x5 with ⟨rfl, z1, z2, z3, _, a2, K2, V2, z5, z6⟩ | ⟨rfl, hb⟩
    · have hS2 : LnS n T La μ2 ρ2 a2 K2 V2 N := ⟨z6, LD_l hL hD1 x3 x4, by omega⟩
      have e22 : ρ2 115 2 = L := by rw [x4 115 2 (by decide)]; exact e12
      have e21 : ρ2 115 1 = ρ1 115 1 := x4 115 1 (by decide)
      have hS3 := LS_row (k := 1) (g := 11 + L) (j := L) (v := v) hS2 L0 (by omega)
      rw [if_neg (by decide : ¬ nrm 1 = 0), z6.2.2.1, gd_pos (isL_k hL), gd_pos (show 0 ≤ L ∧ L < 9 by omega), z1, nm_eq]
      have e24 : (ms μ2 (La + 1) L v) 2 4 = v := by rw [ms_nc (by omega)]; exact z1
      have e31 : (ms ρ2 115 (11 + L) v) 115 1 = ρ1 115 1 := by rw [ms_ni (by omega)]; exact e21
      have e3L : (ms ρ2 115 (11 + L) v) 115 (11 + L) = v := ms_eq ..
      have e32 : (ms ρ2 115 (11 + L) v) 115 2 = L := by rw [ms_ni (by omega)]; exact e22
      have m3L : (ms μ2 (La + 1) L v) (La + 1) L = v := ms_eq ..
      have F3 := FZ_tr F2 (FZ_ms (La := La) (c := La + 1) (i := L) (v := v) (by omega))
      have S3 := FY_tr S2 (FY_ms (i := 11 + L) (v := v))
      generalize ms μ2 (La + 1) L v = μ3 at *
      generalize ms ρ2 115 (11 + L) v = ρ3 at *
      obtain ⟨hB3, hD3, hN3⟩ := hS3
      have p3 : μ3 La 0 = ρ1 115 1 := hD3.1.1.1.trans e31
      have i23 := BS_is hB3 (k := 23) (by unfold kOk; decide)
      rw [hB3.2.2.1, gd_pos (isL_k hL), p3, e24, bn_eq i23, e3L]
      have p7 := hB3.1.2.2.2.2.2.2.1
      by_cases w : K2 = 23 ∧ V2 = v
      · obtain ⟨w1, w2⟩ := w
        obtain ⟨v1, v2, v3, v4⟩ := p7 w1
        obtain ⟨μ4, ρ4, b1, b2, b3, b4, b5⟩ := BS_bad hB3 (x := 3) (by decide) (by decide)
        obtain ⟨ρ6, c1, c2, c3⟩ := j82_no (La := La) hl b5
        have ht : f_X7_takeNumber 2 0 (ρ1 115 1 - 1) v μ3 = some (0, μ4) := by
          unfold f_X7_takeNumber f_X7_takeNumber_j50
          rw [show (2 + 1 : Int) = 3 from rfl, if_pos (show nrm (μ3 3 0) = nrm 2 from (BS_c hB3 (k := 23) (by unfold kOk; decide)).mpr w1), v1, w2, if_neg (by rw [nrm_id (z := v) (by omega) (by omega)]; show ¬ (v < (0 : Int)); omega), if_neg (by rw [nrm_id (z := v) (by omega) (by omega), nrm_id (z := ρ1 115 1 - 1) (by omega) (by omega)]; omega), if_pos rfl, bn_eq b1, gd_pos (by decide)]
        rw [bn_eq ht, if_pos (by decide : nrm 0 = 0), if_pos w1, if_neg (by decide : ¬ nrm 1 = 0), gd_pos (show 0 ≤ 11 + L ∧ 11 + L < 1100 by omega), v2, w2, if_pos rfl, bn_eq b2]
        exact ⟨0, μ4, ρ6, rfl, c1, FZ_tr F3 (FZ_l b3), FY_tr S3 (FY_tr (FY_q b4) c2), .inr ⟨rfl, c3⟩⟩
      · have hj : (if nrm (if K2 = 23 then (1 : Int) else 0) = 0 then f_X12_readLane_j82 111 L ρ3 else gd (0 ≤ 11 + L ∧ 11 + L < 1100) (if nrm (ρ3 111 10) = nrm v then (bn (f_X12_fails 111 3 ρ3) fun r18 μ17 => f_X12_readLane_j82 111 L μ17) else f_X12_readLane_j82 111 L ρ3)) = f_X12_readLane_j82 111 L ρ3 := by
          by_cases u : K2 = 23
          · obtain ⟨v1, v2, v3, v4⟩ := p7 u
            rw [if_pos u, if_neg (by decide : ¬ nrm 1 = 0), gd_pos (by omega), v2, nrm_id (z := V2) (by omega) (by omega), nrm_id (z := v) (by omega) (by omega), if_neg (fun x => w ⟨u, x⟩)]
          · rw [if_neg u, if_pos (by decide : nrm 0 = 0)]
        rw [hj]
        obtain ⟨r, u, μ4, ρ4, b1, b2, b3, b4, b5⟩ := BS_num hB3 (lo := 0) (hi := ρ1 115 1 - 1) (bar := v) (by decide) (by decide) (by omega) (by omega) (.inr w) (nrm_id (by omega) (by omega))
        have F4 := FZ_tr F3 (FZ_l b3)
        have S4 := FY_tr S3 (FY_q b4)
        unfold f_X12_readLane_j82
        rw [bn_eq b1, show (111 + 4 : Int) = 115 from rfl, e31, bn_eq b2, nrm_id (z := 20 + L) (by omega) (by omega), gd_pos (show 0 ≤ 20 + L ∧ 20 + L < 1100 by omega), nm_eq]
        rcases b5 with ⟨rfl, k1, k2, k3, k4, a4, K4, V4, k5, k6⟩ | ⟨rfl, hb⟩
        · have hS4 : LnS n T La μ4 ρ4 a4 K4 V4 N := ⟨k6, LD_l hL hD3 b3 b4, by omega⟩
          have e42 : ρ4 115 2 = L := by rw [b4 115 2 (by decide)]; exact e32
          have e41 : ρ4 115 1 = ρ1 115 1 := by rw [b4 115 1 (by decide)]; exact e31
          have e4L : ρ4 115 (11 + L) = v := by rw [b4 115 (11 + L) (by omega)]; exact e3L
          have m4L : μ4 (La + 1) L = v := by rw [b3 (La + 1) L (by omega) (by omega)]; exact m3L
          have hS5 := LS_row (k := 2) (g := 20 + L) (j := L) (v := u) hS4 L0 (by omega)
          have a40 := k6.1.2.2.1.1
          rw [if_neg (by decide : ¬ nrm 1 = 0), k6.2.2.1, gd_pos (isL_k hL), gd_pos (show 0 ≤ L ∧ L < 9 by omega), k1, nm_eq]
          have hLB : LB n T La L (ms μ4 (La + 2) L u) (ms ρ4 115 (20 + L) u) a4 K4 V4 N := by
            refine ⟨hS5, by rw [ms_ni (by omega)]; exact e42, hl, ?_, ?_, ?_⟩
            · rw [ms_nc (by omega), ms_ni (by omega), ms_ni (by omega), e4L, e41, m4L]
              omega
            · rw [ms_eq, ms_eq, ms_ni (by omega), e41]
              omega
            · rw [ms_eq, ms_ni (by omega), e4L]
              omega
          exact LRes_fr (lane_w 900 FU FU 0 a4 K4 V4 N _ _ (by omega) (by decide) (by decide) (by decide) a40 hLB) (by omega) (FZ_tr F4 (FZ_ms (by omega))) (FY_tr S4 FY_ms)
        · have hb' := Bd_115 (i := 20 + L) (v := u) hb
          obtain ⟨ρ6, c1, c2, c3⟩ := close_no hb'
          rw [if_pos (by decide : nrm 0 = 0), nm_eq, show FU = 9999 + 1 from rfl, bn_eq (lw_no hb'.1 hb'.2.1)]
          exact ⟨0, μ4, ρ6, rfl, c1, F4, FY_tr S4 (FY_tr FY_ms c2), .inr ⟨rfl, c3⟩⟩
    · have hb' := Bd_115 (i := 11 + L) (v := v) hb
      obtain ⟨ρ6, c1, c2, c3⟩ := j82_no (La := La) hl hb'
      rw [if_pos (by decide : nrm 0 = 0), nm_eq, bn_eq (is_no hb'.1 hb'.2.1), if_pos (by decide : nrm 0 = 0)]
      exact ⟨0, μ2, ρ6, rfl, c1, F2, FY_tr S2 (FY_tr FY_ms c2), .inr ⟨rfl, c3⟩⟩
