/-! lines: tokens and numbers in step -/
def BS (n : Int) (T : Int → Int) (La : Int) (μ ρ : Mem) (a K V : Int) : Prop := PS n T μ ρ a K V ∧ ρ 111 11 = 0 ∧ μ 2 1 = La ∧ isL La
def FL (μ μ' : Mem) : Prop := ∀ c i, c ≠ 3 → ¬ (c = 2 ∧ (i = 2 ∨ i = 3 ∨ i = 4)) → μ' c i = μ c i
def FQ (ρ ρ' : Mem) : Prop := ∀ c i, ¬ (c = 111 ∧ 6 ≤ i ∧ i ≤ 12 ∧ i ≠ 8) → ρ' c i = ρ c i
theorem FL_rf {μ : Mem} : FL μ μ := fun _ _ _ _ => rfl
theorem FL_tr {a b c : Mem} (h : FL a b) (k : FL b c) : FL a c := fun x i e1 e2 => (k x i e1 e2).trans (h x i e1 e2)
theorem FQ_rf {ρ : Mem} : FQ ρ ρ := fun _ _ _ => rfl
theorem FQ_tr {a b c : Mem} (h : FQ a b) (k : FQ b c) : FQ a c := fun x i e1 => (k x i e1).trans (h x i e1)
theorem FL_a {μ μ' : Mem} (h : FA μ μ') : FL μ μ' := fun c i e1 _ => h c i (by omega)
theorem FQ_n {ρ ρ' : Mem} (h : FN ρ ρ') : FQ ρ ρ' := fun c i e1 => h c i (by omega)
theorem BS_step {n La a K V : Int} {T : Int → Int} {μ ρ : Mem} (h : BS n T La μ ρ a K V) (hK : K ≠ 24) : ∃ μ' ρ' a' K' V', f_X9_advance 3 μ = some (0, μ') ∧ f_X12_next 111 ρ = some (0, ρ') ∧ FL μ μ' ∧ FQ ρ ρ' ∧ a + 1 ≤ a' ∧ BS n T La μ' ρ' a' K' V' ∧ μ' 2 4 = μ 2 4 := by
  obtain ⟨h1, h2, h3, h4⟩ := h
  obtain ⟨μ', ρ', a', K', V', y1, y2, y3, y4, y5, y6⟩ := step h1 hK
  exact ⟨μ', ρ', a', K', V', y1, y2, FL_a y3, FQ_n y4, by omega, ⟨y6, by rw [y4 111 11 (by decide)]; exact h2, by rw [y3 2 1 (by decide)]; exact h3, h4⟩, y3 2 4 (by decide)⟩
theorem BS_bad {n La a K V : Int} {T : Int → Int} {μ ρ : Mem} (h : BS n T La μ ρ a K V) {x : Int} (x0 : 1 ≤ x) (x4 : x ≤ 4) : ∃ μ' ρ', f_X7_refuse 2 x μ = some (0, μ') ∧ f_X12_fails 111 x ρ = some (0, ρ') ∧ FL μ μ' ∧ FQ ρ ρ' ∧ Bd μ' ρ' := by
  obtain ⟨⟨p1, p2, p3, p4, p5, p6, p7, p8, p9, p10⟩, h2, _⟩ := h
  have kc : nrm (cK K) = nrm 1 ↔ K = 25 := by
    rw [cK_n p4]
    exact cK_inj (k := 25) p4 (by unfold kOk; omega)
  have kr : nrm K = nrm 25 ↔ K = 25 := by
    obtain ⟨k1, k2, _⟩ := p4
    rw [nrm_id (z := K) (by omega) (by omega)]
    exact Iff.rfl
  have go : ∀ y, 1 ≤ y → y ≤ 4 → ∃ μ' ρ', f_X7_refuse_j17 2 2 y μ = some (0, μ') ∧ f_X12_fails_j23 111 111 y ρ = some (0, ρ') ∧ FL μ μ' ∧ FQ ρ ρ' ∧ Bd μ' ρ' := by
    intro y y0 y4
    refine ⟨ms (ms μ 2 2 y) 2 3 a, ms (ms ρ 111 11 y) 111 12 a, ?_, ?_, ?_, ?_, ?_⟩
    · unfold f_X7_refuse_j17
      rw [gd_pos kk_2, nm_eq, nm_eq, show (2 + 1 : Int) = 3 from rfl, ms_nc (by decide), p6]
    · unfold f_X12_fails_j23
      rw [gd_pos kk_111, nm_eq, nm_eq, ms_ni (by decide), p8]
    · intro c i e1 e2
      rw [ms_at, if_neg (by omega), ms_at, if_neg (by omega)]
    · intro c i e1
      rw [ms_at, if_neg (by omega), ms_at, if_neg (by omega)]
    · unfold Bd
      rw [ms_ni (by decide), ms_eq, ms_eq, ms_ni (by decide), ms_eq, ms_eq]
      exact ⟨y0, y4, rfl, rfl⟩
  unfold f_X7_refuse f_X12_fails
  rw [show (2 + 1 : Int) = 3 from rfl, p5, h2, if_pos (by decide : nrm 0 = 0), p9]
  by_cases z : K = 25
  · rw [if_pos (kc.mpr z), if_pos (kr.mpr z)]
    exact go 1 (by decide) (by decide)
  · rw [if_neg (fun q => z (kc.mp q)), if_neg (fun q => z (kr.mp q))]
    exact go x x0 x4
theorem BS_is {n La a K V k : Int} {T : Int → Int} {μ ρ : Mem} (h : BS n T La μ ρ a K V) (hk : kOk k) : f_X12_is 111 k ρ = some (if K = k then 1 else 0, ρ) := by
  obtain ⟨⟨p1, p2, p3, p4, p5, p6, p7, p8, p9, p10⟩, h2, _⟩ := h
  obtain ⟨k1, k2, _⟩ := id p4
  obtain ⟨l1, l2, _⟩ := hk
  rw [is_eq, h2, p9, nrm_id (z := K) (by omega) (by omega), nrm_id (z := k) (by omega) (by omega)]
  by_cases z : K = k
  · rw [if_pos ⟨by decide, z⟩, if_pos z]
  · rw [if_neg (fun q => z q.2), if_neg z]
theorem BS_c {n La a K V k : Int} {T : Int → Int} {μ ρ : Mem} (h : BS n T La μ ρ a K V) (hk : kOk k) : nrm (μ 3 0) = cK k ↔ K = k := by
  obtain ⟨⟨p1, p2, p3, p4, p5, _⟩, _⟩ := h
  rw [p5, cK_n p4]
  exact cK_inj p4 hk
def MvB (n : Int) (T : Int → Int) (La a : Int) (μ' ρ' : Mem) : Prop := ∃ a' K' V', a + 1 ≤ a' ∧ BS n T La μ' ρ' a' K' V'
theorem BS_take {n La a K V k ck : Int} {T : Int → Int} {μ ρ : Mem} (h : BS n T La μ ρ a K V) (hk : kOk k) (k24 : k ≠ 24) (hck : nrm ck = cK k) : ∃ r μ' ρ', f_X7_take 2 ck μ = some (r, μ') ∧ (∀ C : Mem → Option (Int × Mem), (bn (f_X12_eats 111 k ρ) fun r ρ1 => (if nrm r = 0 then (bn (f_X12_fails 111 2 ρ1) fun _ ρ2 => C ρ2) else C ρ1)) = C ρ') ∧ FL μ μ' ∧ FQ ρ ρ' ∧ ((r = 1 ∧ K = k ∧ MvB n T La a μ' ρ') ∨ (r = 0 ∧ Bd μ' ρ')) := by
  have hc := BS_c h hk
  have hi := BS_is h hk
  unfold f_X7_take f_X12_eats
  rw [show (2 + 1 : Int) = 3 from rfl, hck]
  by_cases z : K = k
  · obtain ⟨μ', ρ', a', K', V', y1, y2, y3, y4, y5, y6, _⟩ := BS_step h (by omega : K ≠ 24)
    rw [if_pos z] at hi
    refine ⟨1, μ', ρ', by rw [if_pos (hc.mpr z), bn_eq y1], fun C => ?_, y3, y4, .inl ⟨rfl, z, a', K', V', y5, y6⟩⟩
    rw [bn_eq hi, if_neg (by decide : ¬ nrm 1 = 0), bn_eq y2, bn_eq rfl, if_neg (by decide : ¬ nrm 1 = 0)]
  · obtain ⟨μ', ρ', y1, y2, y3, y4, y5⟩ := BS_bad h (x := 2) (by decide) (by decide)
    rw [if_neg z] at hi
    refine ⟨0, μ', ρ', by rw [if_neg (fun q => z (hc.mp q)), bn_eq y1, gd_pos (by decide : isB 0)], fun C => ?_, y3, y4, .inr ⟨rfl, y5⟩⟩
    rw [bn_eq hi, if_pos (by decide : nrm 0 = 0), bn_eq rfl, if_pos (by decide : nrm 0 = 0), bn_eq y2]
theorem takes_no {lo hi : Int} {ρ : Mem} (h : 1 ≤ ρ 111 11) (h4 : ρ 111 11 ≤ 4) : f_X12_takes 111 lo hi ρ = some (ρ 111 10, ρ) := by
  unfold f_X12_takes f_X12_takes_j37
  rw [bn_eq (is_no h h4), if_pos (by decide : nrm 0 = 0), bn_eq (fails_no h h4), nm_eq, nrm_id (z := ρ 111 11) (by omega) (by omega), if_neg (by omega)]
theorem within_i {a b c : Int} {μ : Mem} (ha : nrm a = a) (hb : nrm b = b) (hc : nrm c = c) : f_X12_within (nrm a) (nrm b) (nrm c) μ = some (if b ≤ a ∧ a ≤ c then 1 else 0, μ) := by
  have := within_int μ ha hb hc
  rw [hb, hc]
  exact this
/-- A number within bounds, and not the one that is barred. -/
theorem BS_num {n La a K V lo hi bar : Int} {T : Int → Int} {μ ρ : Mem} (h : BS n T La μ ρ a K V) (l0 : 0 ≤ lo) (l9 : lo ≤ 900) (h0 : -900 ≤ hi) (h9 : hi ≤ 900) (hb : bar = -1 ∨ ¬ (K = 23 ∧ V = bar)) (hbn : nrm bar = bar) : ∃ r v μ' ρ', f_X7_takeNumber 2 lo hi bar μ = some (r, μ') ∧ f_X12_takes 111 lo hi ρ = some (v, ρ') ∧ FL μ μ' ∧ FQ ρ ρ' ∧ ((r = 1 ∧ μ' 2 4 = v ∧ lo ≤ v ∧ v ≤ hi ∧ v ≠ bar ∧ MvB n T La a μ' ρ') ∨ (r = 0 ∧ Bd μ' ρ')) := by
  obtain ⟨⟨p1, p2, p3, p4, p5, p6, p7, p8, p9, p10⟩, h2, h3, h4⟩ := id h
  clear p10
  have hc : nrm (μ 3 0) = nrm 2 ↔ K = 23 := BS_c h (k := 23) (by unfold kOk; decide)
  have hi23 := BS_is h (k := 23) (by unfold kOk; decide)
  unfold f_X7_takeNumber f_X12_takes
  rw [show (2 + 1 : Int) = 3 from rfl]
  by_cases z : K = 23
  · obtain ⟨v1, v2, v3, v4⟩ := p7 z
    rw [if_pos z] at hi23
    have hw : f_X12_within (nrm (ρ 111 10)) (nrm lo) (nrm hi) ρ = some (if lo ≤ V ∧ V ≤ hi then 1 else 0, ρ) := by
      rw [v2]
      exact within_i (nrm_id (by omega) (by omega)) (nrm_id (by omega) (by omega)) (nrm_id (by omega) (by omega))
    rw [if_pos (hc.mpr z), bn_eq hi23, if_neg (by decide : ¬ nrm 1 = 0), bn_eq hw, v1, nrm_id (z := V) (by omega) (by omega), nrm_id (z := lo) (by omega) (by omega), nrm_id (z := hi) (by omega) (by omega), hbn]
    unfold f_X7_takeNumber_j50 f_X12_takes_j37
    by_cases y : lo ≤ V ∧ V ≤ hi
    · have nb : ¬ V = bar := by
        rcases hb with q | q
        · omega
        · exact fun x => q ⟨z, x⟩
      have hB : BS n T La (ms μ 2 4 V) ρ a K V := by
        obtain ⟨q1, q2, q3, q4, q5, q6, q7, q8, q9, q10⟩ := h.1
        refine ⟨⟨q1, q2, ⟨q3.1, q3.2.1, by rw [ms_ni (by decide)]; exact q3.2.2.1, by rw [ms_ni (by decide)]; exact q3.2.2.2⟩, q4, by rw [ms_nc (by decide)]; exact q5, by rw [ms_nc (by decide)]; exact q6, fun x => by rw [ms_nc (by decide)]; exact q7 x, q8, q9, fun x => ?_⟩, h2, by rw [ms_ni (by decide)]; exact h3, h4⟩
        rw [ms_nc (by decide), ms_nc (by decide)]
        obtain ⟨d, j, e, e1, e2, e3, e4, e5, e6, e7, e8, e9⟩ := q10 x
        exact ⟨d, j, e, e1, e2, e3, e4, e5, e6, e7, e8, LsT_co d _ _ (fun i _ => ms_nc (by decide)) e9⟩
      obtain ⟨μ', ρ', a', K', V', y1, y2, y3, y4, y5, y6, y7⟩ := BS_step hB (by omega : K ≠ 24)
      rw [if_neg (by omega), if_neg (by omega), if_neg nb, nm_eq, bn_eq y1, if_pos y, if_neg (by decide : ¬ nrm 1 = 0), nm_eq, h2, if_pos (by decide : nrm 0 = 0), bn_eq y2, v2]
      refine ⟨1, V, μ', ρ', rfl, rfl, FL_tr (fun c i e1 e2 => by rw [ms_at, if_neg (by omega)]) y3, y4, .inl ⟨rfl, by rw [y7, ms_eq], y.1, y.2, nb, a', K', V', y5, y6⟩⟩
    · obtain ⟨μ', ρ', y1, y2, y3, y4, y5⟩ := BS_bad h (x := 3) (by decide) (by decide)
      have w1 := y5.1
      have w2 := y5.2.1
      have e0 : ¬ ρ' 111 11 = 0 := by omega
      rw [if_neg y, if_pos (by decide : nrm 0 = 0), bn_eq y2, nm_eq, nm_eq, nrm_id (z := ρ' 111 11) (by omega) (by omega), if_neg e0, bn_eq y1, gd_pos (by decide : isB 0)]
      refine ⟨0, ρ' 111 10, μ', ρ', ?_, rfl, y3, y4, .inr ⟨rfl, y5⟩⟩
      by_cases q : V < lo
      · rw [if_pos q]
      · rw [if_neg q, if_pos (by omega)]
  · rw [if_neg z] at hi23
    obtain ⟨μ', ρ', y1, y2, y3, y4, y5⟩ := BS_bad h (x := 2) (by decide) (by decide)
    have w1 := y5.1
    have w2 := y5.2.1
    unfold f_X12_takes_j37
    rw [if_neg (fun q => z (hc.mp q)), bn_eq hi23, if_pos (by decide : nrm 0 = 0), bn_eq y2, nm_eq, nrm_id (z := ρ' 111 11) (by omega) (by omega), if_neg (by omega), bn_eq y1, gd_pos (by decide : isB 0)]
    exact ⟨0, ρ' 111 10, μ', ρ', rfl, rfl, y3, y4, .inr ⟨rfl, y5⟩⟩
