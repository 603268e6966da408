def LnS (n : Int) (T : Int → Int) (La : Int) (μ ρ : Mem) (a K V N : Int) : Prop := BS n T La μ ρ a K V ∧ LD La μ (ρ 115) N ∧ N ≤ a
def FZ (La : Int) (μ μ' : Mem) : Prop := ∀ c i, c ≠ 2 → c ≠ 3 → ¬ (La ≤ c ∧ c ≤ La + 10) → μ' c i = μ c i
def FY (ρ ρ' : Mem) : Prop := ∀ c i, ¬ (c = 111 ∧ (i = 15 ∨ (6 ≤ i ∧ i ≤ 12 ∧ i ≠ 8))) → c ≠ 115 → ρ' c i = ρ c i
theorem FZ_tr {La : Int} {a b c : Mem} (h : FZ La a b) (k : FZ La b c) : FZ La a c := fun x i e1 e2 e3 => (k x i e1 e2 e3).trans (h x i e1 e2 e3)
theorem FY_tr {a b c : Mem} (h : FY a b) (k : FY b c) : FY a c := fun x i e1 e2 => (k x i e1 e2).trans (h x i e1 e2)
theorem FZ_rf {La : Int} {a : Mem} : FZ La a a := fun _ _ _ _ _ => rfl
theorem FY_rf {a : Mem} : FY a a := fun _ _ _ _ => rfl
theorem FZ_l {La : Int} {μ μ' : Mem} (h : FL μ μ') : FZ La μ μ' := fun c i e1 e2 _ => h c i e2 (by omega)
theorem FY_q {ρ ρ' : Mem} (h : FQ ρ ρ') : FY ρ ρ' := fun c i e1 _ => h c i (by omega)
theorem FZ_ms {La c i v : Int} {μ : Mem} (h : La ≤ c ∧ c ≤ La + 10) : FZ La μ (ms μ c i v) := fun x j _ _ e => ms_nc (fun q => e (by omega))
theorem FY_ms {i v : Int} {ρ : Mem} : FY ρ (ms ρ 115 i v) := fun x j _ e => ms_nc e
theorem up115 {ρ : Mem} {g v : Int} : (ms ρ 115 g v) 115 = upF (ρ 115) g v := by
  funext i
  by_cases e : i = g
  · rw [e, ms_eq, upF_eq]
  · rw [ms_ni e, upF_ne e]
theorem BS_co {n La a K V : Int} {T : Int → Int} {μ μ' ρ ρ' : Mem} (h : BS n T La μ ρ a K V) (s3 : ∀ i, μ' 3 i = μ 3 i) (s4 : ∀ i, μ' 4 i = μ 4 i) (s2 : ∀ i, 1 ≤ i → i ≤ 3 → μ' 2 i = μ 2 i) (t1 : ∀ i, ρ' 111 i = ρ 111 i) (t4 : ∀ i, ρ' 114 i = ρ 114 i) : BS n T La μ' ρ' a K V := by
  obtain ⟨⟨p1, p2, p3, p4, p5, p6, p7, p8, p9, p10⟩, h2, h3, h4⟩ := h
  refine ⟨⟨p1, ⟨by rw [t1]; exact p2.1, fun i i0 i1 => by rw [t4]; exact p2.2 i i0 i1⟩, ⟨p3.1, p3.2.1, by rw [s2 2 (by decide) (by decide)]; exact p3.2.2.1, by rw [s2 3 (by decide) (by decide)]; exact p3.2.2.2⟩, p4, by rw [s3]; exact p5, by rw [s3]; exact p6, fun z => by rw [s3, t1]; exact p7 z, by rw [t1]; exact p8, by rw [t1]; exact p9, fun z => ?_⟩, by rw [t1]; exact h2, by rw [s2 1 (by decide) (by decide)]; exact h3, h4⟩
  rw [t1, s3, s3]
  obtain ⟨d, j, e, e1, e2, e3, e4, e5, e6, e7, e8, e9⟩ := p10 z
  exact ⟨d, j, e, e1, e2, e3, e4, e5, e6, e7, e8, LsT_co d _ _ (fun i _ => s4 i) e9⟩
theorem LD_l {La N : Int} {μ μ' ρ ρ' : Mem} (hL : isL La) (h : LD La μ (ρ 115) N) (s : FL μ μ') (t : FQ ρ ρ') : LD La μ' (ρ' 115) N := by
  have hLo := hL
  unfold isL at hLo
  exact LD_co hL (fun c i _ _ => s c i (by omega) (by omega)) (fun i => t 115 i (by omega)) h
theorem LS_set {n La a K V N f g v : Int} {T : Int → Int} {μ ρ : Mem} (hB : BS n T La μ ρ a K V) (hD : LD La μ (ρ 115) N) (hN : N ≤ a) (hfg : (f = 3 ∧ g = 0) ∨ (f = 4 ∧ g = 55 ∧ 0 ≤ v ∧ v < ρ 115 1) ∨ (f = 5 ∧ g = 4 ∧ 0 ≤ v ∧ v ≤ 9) ∨ (f = 6 ∧ g = 66 ∧ 0 ≤ v ∧ v ≤ 9)) : LnS n T La (ms μ La f v) (ms ρ 115 g v) a K V N := by
  have hL := hB.2.2.2
  have hLo := hL
  unfold isL at hLo
  refine ⟨BS_co hB (fun i => ms_nc (by omega)) (fun i => ms_nc (by omega)) (fun i _ _ => ms_nc (by omega)) (fun i => ms_nc (by decide)) (fun i => ms_nc (by decide)), ?_, hN⟩
  rw [up115]
  exact LD_set hL hD hfg
/-- A number, and where it goes. -/
theorem num_set {n La a K V N lo hi f g : Int} {T : Int → Int} {μ ρ : Mem} (h : LnS n T La μ ρ a K V N) (l0 : 0 ≤ lo) (l9 : lo ≤ 900) (h0 : -900 ≤ hi) (h9 : hi ≤ 900) (hfg : (f = 4 ∧ g = 55 ∧ hi < ρ 115 1) ∨ (f = 5 ∧ g = 4 ∧ hi ≤ 9) ∨ (f = 6 ∧ g = 66 ∧ hi ≤ 9)) :
    ∃ μ2 ρ2, FZ La μ μ2 ∧ FY ρ ρ2 ∧ (∀ C : Mem → Option (Int × Mem), (bn (f_X12_takes 111 lo hi ρ) fun v ρ1 => (nm (ms ρ1 115 g v) fun ρ2 => C ρ2)) = C ρ2) ∧
      (((∃ a' K' V', a + 1 ≤ a' ∧ LnS n T La μ2 ρ2 a' K' V' N) ∧ (∀ i, i ≠ g → ρ2 115 i = ρ 115 i) ∧ ∀ C : Mem → Option (Int × Mem), (bn (f_X7_takeNumber 2 lo hi (-1) μ) fun r μ1 => (if nrm r = 0 then some (0, μ1) else gd (isK (μ1 2 1) 3) (nm (ms μ1 (μ1 2 1) f (μ1 2 4)) fun μ2 => C μ2))) = C μ2) ∨
       (Bd μ2 ρ2 ∧ ∀ C : Mem → Option (Int × Mem), (bn (f_X7_takeNumber 2 lo hi (-1) μ) fun r μ1 => (if nrm r = 0 then some (0, μ1) else gd (isK (μ1 2 1) 3) (nm (ms μ1 (μ1 2 1) f (μ1 2 4)) fun μ2 => C μ2))) = some (0, μ2))) := by
  obtain ⟨hB, hD, hN⟩ := h
  have hL := hB.2.2.2
  obtain ⟨r, v, μ1, ρ1, y1, y2, y3, y4, y5⟩ := BS_num hB l0 l9 h0 h9 (.inl rfl) rfl
  have hr : ∀ C : Mem → Option (Int × Mem), (bn (f_X12_takes 111 lo hi ρ) fun v ρ1 => (nm (ms ρ1 115 g v) fun ρ2 => C ρ2)) = C (ms ρ1 115 g v) := fun C => by rw [bn_eq y2, nm_eq]
  rcases y5 with ⟨rfl, z1, z2, z3, _, a', K', V', z5, z6⟩ | ⟨rfl, hb⟩
  · have e1 : ρ1 115 1 = ρ 115 1 := y4 115 1 (by decide)
    have hS := LS_set (f := f) (g := g) (v := v) z6 (LD_l hL hD y3 y4) (by omega) (by omega)
    refine ⟨ms μ1 La f v, ms ρ1 115 g v, FZ_tr (FZ_l y3) (FZ_ms (by omega)), FY_tr (FY_q y4) FY_ms, hr, .inl ⟨⟨a', K', V', z5, hS⟩, fun i hi => by rw [ms_ni hi, y4 115 i (by omega)], fun C => ?_⟩⟩
    rw [bn_eq y1, if_neg (by decide : ¬ nrm 1 = 0), z6.2.2.1, gd_pos (isL_k hL), z1, nm_eq]
  · refine ⟨μ1, ms ρ1 115 g v, FZ_l y3, FY_tr (FY_q y4) FY_ms, hr, .inr ⟨?_, fun C => by rw [bn_eq y1, if_pos (by decide : nrm 0 = 0)]⟩⟩
    unfold Bd
    rw [ms_nc (by decide), ms_nc (by decide)]
    exact hb
def LRes (n : Int) (T : Int → Int) (La a : Int) (μ ρ : Mem) (f g : Option (Int × Mem)) : Prop := ∃ r μ' ρ', f = some (r, μ') ∧ g = some (0, ρ') ∧ FZ La μ μ' ∧ FY ρ ρ' ∧ ((r = 1 ∧ ∃ a' K' V' N', a + 1 ≤ a' ∧ LnS n T La μ' ρ' a' K' V' N') ∨ (r = 0 ∧ Bd μ' ρ'))
theorem close_ok {n La a K V N : Int} {T : Int → Int} {μ ρ : Mem} (h : LnS n T La μ ρ a K V N) : LRes n T La a μ ρ (f_X7_takeLineEnd 2 μ) (f_X12_closes 111 ρ) := by
  obtain ⟨hB, hD, hN⟩ := h
  have hL := hB.2.2.2
  obtain ⟨r, μ1, ρ1, y1, y2, y3, y4, y5⟩ := BS_take hB (k := 30) (ck := 59) (by unfold kOk; decide) (by decide) (by decide)
  unfold f_X7_takeLineEnd f_X12_closes
  rw [bn_eq y1, y2 (fun ρ => f_X12_closes_j14 111 ρ)]
  unfold f_X12_closes_j14
  rw [nm_eq, show (111 + 4 : Int) = 115 from rfl]
  rcases y5 with ⟨rfl, _, a', K', V', z5, z6⟩ | ⟨rfl, hb⟩
  · have hD1 := LD_l hL hD y3 y4
    have e3 : μ1 La 3 = ρ1 115 0 := hD1.1.2.2.2.1
    have hS := LS_set (f := 3) (g := 0) (v := ρ1 115 0 + 1) z6 hD1 (by omega) (.inl ⟨rfl, rfl⟩)
    rw [if_neg (by decide : ¬ nrm 1 = 0), z6.2.2.1, gd_pos (isL_k hL), e3, nm_eq]
    exact ⟨1, _, _, rfl, rfl, FZ_tr (FZ_l y3) (FZ_ms (by omega)), FY_tr (FY_q y4) FY_ms, .inl ⟨rfl, a', K', V', N, z5, hS⟩⟩
  · rw [if_pos (by decide : nrm 0 = 0)]
    refine ⟨0, _, _, rfl, rfl, FZ_l y3, FY_tr (FY_q y4) FY_ms, .inr ⟨rfl, ?_⟩⟩
    unfold Bd
    rw [ms_nc (by decide), ms_nc (by decide)]
    exact hb
theorem close_no {μ ρ : Mem} (hb : Bd μ ρ) : ∃ ρ', f_X12_closes 111 ρ = some (0, ρ') ∧ FY ρ ρ' ∧ Bd μ ρ' := by
  unfold f_X12_closes
  rw [eats_C hb.1 hb.2.1 (fun ρ => f_X12_closes_j14 111 ρ)]
  unfold f_X12_closes_j14
  rw [nm_eq, show (111 + 4 : Int) = 115 from rfl]
  refine ⟨_, rfl, FY_ms, ?_⟩
  unfold Bd
  rw [ms_nc (by decide), ms_nc (by decide)]
  exact hb
theorem LRes_b {n La a : Int} {T : Int → Int} {μ ρ : Mem} {f g : Option (Int × Mem)} (h : LRes n T La a μ ρ f g) : LRes n T La a μ ρ (bn f fun r μ' => gd (isB r) (some (r, μ'))) g := by
  obtain ⟨r, μ', ρ', h1, h2, h3, h4, h5⟩ := h
  refine ⟨r, μ', ρ', ?_, h2, h3, h4, h5⟩
  rcases h5 with ⟨q, _⟩ | ⟨q, _⟩ <;> rw [bn_eq h1, q, gd_pos (by decide)]
theorem LRes_fr {n La a a0 : Int} {T : Int → Int} {μ ρ μ0 ρ0 : Mem} {f g : Option (Int × Mem)} (h : LRes n T La a μ ρ f g) (ha : a0 ≤ a) (s : FZ La μ0 μ) (t : FY ρ0 ρ) : LRes n T La a0 μ0 ρ0 f g := by
  obtain ⟨r, μ', ρ', h1, h2, h3, h4, h5⟩ := h
  refine ⟨r, μ', ρ', h1, h2, FZ_tr s h3, FY_tr t h4, ?_⟩
  rcases h5 with ⟨q, a', K', V', N', g1, g2⟩ | q
  · exact .inl ⟨q, a', K', V', N', by omega, g2⟩
  · exact .inr q
theorem LS_step {n La a K V N : Int} {T : Int → Int} {μ ρ : Mem} (h : LnS n T La μ ρ a K V N) (hK : K ≠ 24) : ∃ μ' ρ' a' K' V', f_X9_advance 3 μ = some (0, μ') ∧ f_X12_next 111 ρ = some (0, ρ') ∧ FL μ μ' ∧ FQ ρ ρ' ∧ a + 1 ≤ a' ∧ LnS n T La μ' ρ' a' K' V' N := by
  obtain ⟨hB, hD, hN⟩ := h
  obtain ⟨μ', ρ', a', K', V', y1, y2, y3, y4, y5, y6, _⟩ := BS_step hB hK
  exact ⟨μ', ρ', a', K', V', y1, y2, y3, y4, y5, y6, LD_l hB.2.2.2 hD y3 y4, by omega⟩
/-- A line of rain. -/
theorem rain_ok {n La a K V N : Int} {T : Int → Int} {μ ρ : Mem} (h : LnS n T La μ ρ a K V N) (hK : K ≠ 24) : LRes n T La a μ ρ (f_X7_readRain 2 μ) (bn (f_X12_next 111 ρ) fun _ ρ1 => (bn (f_X12_takes 111 0 9 ρ1) fun v ρ2 => (nm (ms ρ2 115 66 v) fun ρ3 => f_X12_closes 111 ρ3))) := by
  obtain ⟨μ1, ρ1, a1, K1, V1, y1, y2, y3, y4, y5, y6⟩ := LS_step h hK
  obtain ⟨μ2, ρ2, z1, z2, z3, z4⟩ := num_set (lo := 0) (hi := 9) (f := 6) (g := 66) y6 (by decide) (by decide) (by decide) (by decide) (.inr (.inr ⟨rfl, rfl, by decide⟩))
  unfold f_X7_readRain
  rw [show (2 + 1 : Int) = 3 from rfl, bn_eq y1, bn_eq y2, z3 (fun ρ => f_X12_closes 111 ρ)]
  have F2 := FZ_tr (FZ_l (La := La) y3) z1
  have S2 := FY_tr (FY_q y4) z2
  rcases z4 with ⟨⟨a2, K2, V2, w1, w2⟩, _, w3⟩ | ⟨hb, w3⟩
  · rw [w3 (fun μ => bn (f_X7_takeLineEnd 2 μ) fun r μ' => gd (isB r) (some (r, μ')))]
    exact LRes_fr (LRes_b (close_ok w2)) (by omega) F2 S2
  · rw [w3 (fun μ => bn (f_X7_takeLineEnd 2 μ) fun r μ' => gd (isB r) (some (r, μ')))]
    obtain ⟨ρ3, c1, c2, c3⟩ := close_no hb
    exact ⟨0, μ2, ρ3, rfl, c1, F2, FY_tr S2 c2, .inr ⟨rfl, c3⟩⟩
