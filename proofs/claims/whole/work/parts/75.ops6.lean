theorem EdG_cg {A w w' : Int → Int} (h : ∀ l, 0 ≤ l → l < A 2 → w l = w' l) : EdG A w = EdG A w' := by
  funext e
  apply propext
  constructor
  · intro ⟨l, l0, l1, h1, h2, h3⟩
    exact ⟨l, l0, l1, by rw [← h l l0 l1]; exact h1, by rw [← h l l0 l1]; exact h2, h3⟩
  · intro ⟨l, l0, l1, h1, h2, h3⟩
    exact ⟨l, l0, l1, by rw [h l l0 l1]; exact h1, by rw [h l l0 l1]; exact h2, h3⟩
/-- The weight of a lane: 1, if it is open. -/
def wO (A : Int → Int) (l : Int) : Int := if openM A l = 1 then 1 else -1
theorem wO_ok (A : Int → Int) : okW A (wO A) := by
  intro l _ _
  unfold wO
  split
  · exact .inr (by decide)
  · exact .inl rfl
theorem isOpen_all {μ ρ : Mem} {l : Int} (j : JR μ 58 ρ) (hn : nrm l = l) : ∃ μ', f_X0_isOpen 58 l μ = some (if 0 ≤ l ∧ l < ρ 112 2 then openM (rowA ρ 0) l else 0, μ') ∧ SaC μ μ' := by
  obtain ⟨hL, hR, _, ⟨L0, L9⟩, _, _, hl, _⟩ := now_is j
  by_cases g : 0 ≤ l ∧ l < ρ 112 2
  · obtain ⟨μ2, p1, p2⟩ := isOpen_c kk_58 j g.1 g.2
    refine ⟨μ2, ?_, ScL_sa hL p2⟩
    rw [if_pos g, p1]
    unfold openM
    rw [rowA_0, rowA_0, rowA_0]
  · refine ⟨μ, ?_, SaC_rfl μ⟩
    unfold f_X0_isOpen
    rw [gd_pos (isL_k hL), bn_eq (hasLane_eq hl L0 L9 hn), if_neg g, if_pos (by decide : nrm 0 = 0), if_neg g]
theorem SaC_ms99 {μ : Mem} {i v : Int} : SaC μ (ms μ 99 i v) := by
  intro c j e
  unfold EssC at e
  rw [ms_nc (by omega)]
theorem mo_w {g : Int} {ρ : Mem} : ∀ (d k n : Nat) (μ : Mem), k + d = 9 → d < n → JR μ 58 ρ → (∀ l : Int, 0 ≤ l → l < k → l < ρ 112 2 → μ 99 l = wO (rowA ρ 0) l) →
    ∃ μ', f_X6_measureOpen_w2 n 98 58 g k μ = (bn (f_X6_measure 98 (μ' 58 0) g μ') fun _ μ3 => some (0, μ3)) ∧ SaC μ μ' ∧ (∀ l : Int, 0 ≤ l → l < 9 → l < ρ 112 2 → μ' 99 l = wO (rowA ρ 0) l) := by
  intro d
  induction d with
  | zero =>
    intro k n μ hk hn j h
    obtain ⟨n, rfl⟩ : ∃ q, n = q + 1 := ⟨n - 1, by omega⟩
    obtain rfl : k = 9 := by omega
    refine ⟨μ, ?_, SaC_rfl μ, h⟩
    rw [f_X6_measureOpen_w2, if_pos (by decide), gd_pos kk_58]
  | succ d ih =>
    intro k n μ hk hn j h
    obtain ⟨n, rfl⟩ : ∃ q, n = q + 1 := ⟨n - 1, by omega⟩
    have hLo := j.1
    unfold isL at hLo
    obtain ⟨μ2, p1, p2⟩ := isOpen_all (l := (k : Int)) j (nrm_id (by omega) (by omega))
    have o : openM (rowA ρ 0) k = 0 ∨ openM (rowA ρ 0) k = 1 := mayM_01 _ _ _ _ _
    have hb : (if 0 ≤ (k : Int) ∧ (k : Int) < ρ 112 2 then openM (rowA ρ 0) k else 0) = 0 ∨ (if 0 ≤ (k : Int) ∧ (k : Int) < ρ 112 2 then openM (rowA ρ 0) k else 0) = 1 := by
      split
      · exact o
      · exact .inl rfl
    have e99 : ∀ l, μ2 99 l = μ 99 l := by
      intro l
      have : f_X0_isOpen 58 (k : Int) μ = some (_, μ2) := p1
      obtain ⟨hL, hR, _, ⟨L0, L9⟩, _, _, hl, _⟩ := now_is j
      by_cases g : 0 ≤ (k : Int) ∧ (k : Int) < ρ 112 2
      · obtain ⟨μx, q1, q2⟩ := isOpen_c kk_58 j g.1 g.2
        rw [q1] at p1
        injection p1 with p1
        injection p1 with _ p1
        rw [← p1]
        exact q2 99 l (by omega) (by omega) (by omega)
      · unfold f_X0_isOpen at p1
        rw [gd_pos (isL_k hL), bn_eq (hasLane_eq hl L0 L9 (nrm_id (by omega) (by omega))), if_neg g, if_pos (by decide : nrm 0 = 0)] at p1
        injection p1 with p1
        injection p1 with _ p1
        rw [← p1]
    have hu : ∀ v, f_X6_measureOpen_j26 (f_X6_measureOpen_w2 n) 98 58 g k (98 + 1) k v μ2 = f_X6_measureOpen_w2 n 98 58 g ((k + 1 : Nat) : Int) (ms μ2 99 k v) := by
      intro v
      unfold f_X6_measureOpen_j26
      rw [nrm_id (z := (k : Int)) (by omega) (by omega), gd_pos ⟨by decide, by omega, by show (k : Int) < 9; omega⟩, nm_eq, show ((k + 1 : Nat) : Int) = (k : Int) + 1 by omega]
      rfl
    have nx : ∀ v, ((k : Int) < ρ 112 2 → v = wO (rowA ρ 0) k) → ∃ μ', f_X6_measureOpen_w2 n 98 58 g ((k + 1 : Nat) : Int) (ms μ2 99 k v) = (bn (f_X6_measure 98 (μ' 58 0) g μ') fun _ μ3 => some (0, μ3)) ∧ SaC μ μ' ∧ (∀ l : Int, 0 ≤ l → l < 9 → l < ρ 112 2 → μ' 99 l = wO (rowA ρ 0) l) := by
      intro v hv
      have sa : SaC μ (ms μ2 99 k v) := SaC_tr p2 SaC_ms99
      obtain ⟨μ', y1, y2, y3⟩ := ih (k + 1) n (ms μ2 99 k v) (by omega) (by omega) (JR_sa sa (SaR_rfl ρ) j).1 (by
        intro l l0 l1 l2
        by_cases e : l = k
        · rw [e, ms_eq]; exact hv (by omega)
        · rw [ms_ni e, e99]; exact h l l0 (by omega) l2)
      exact ⟨μ', y1, SaC_tr sa y2, y3⟩
    rw [f_X6_measureOpen_w2, nrm_id (z := (k : Int)) (by omega) (by omega), if_neg (by show ¬ ((9 : Int) ≤ k); omega), gd_pos kk_58, bn_eq p1]
    rcases hb with e | e
    · rw [e, if_pos (by decide : nrm 0 = 0), hu]
      apply nx
      intro hk2
      unfold wO
      rw [if_pos (by omega)] at e
      rw [if_neg (by omega)]
    · rw [e, if_neg (by decide : ¬ nrm 1 = 0), hu]
      apply nx
      intro hk2
      unfold wO
      rw [if_pos (by omega)] at e
      rw [if_pos e]
theorem SaC_100 {μ μ' : Mem} (h : ∀ c i, c ≠ 100 → μ' c i = μ c i) : SaC μ μ' := by
  intro c i e
  unfold EssC at e
  exact h c i (by omega)
/-- The class's distances to a goal by open lanes. -/
theorem measureOpen_eq {g : Int} {μ ρ : Mem} (j : JR μ 58 ρ) (g0 : 0 ≤ g) (g7 : g < 7) : ∃ μ', f_X6_measureOpen 98 58 g μ = some (0, μ') ∧ SaC μ μ' ∧ isD (EdG (rowA ρ 0) (wO (rowA ρ 0))) g (xF μ') ∧ rowOk μ' ∧ (∀ l, 0 ≤ l → l < ρ 112 2 → μ' 99 l = wO (rowA ρ 0) l) := by
  obtain ⟨_, _, _, ⟨L0, L9⟩, _⟩ := now_is j
  obtain ⟨μ2, p1, p2, p3⟩ := mo_w (g := g) (ρ := ρ) 9 0 FU μ (by omega) (by unfold FU; omega) j (fun l _ l1 => absurd l1 (by omega))
  obtain ⟨j2, _⟩ := JR_sa p2 (SaR_rfl ρ) j
  obtain ⟨μ3, q1, q2, q3, q4⟩ := measure_eq (La := μ2 58 0) (A := rowA ρ 0) (w := wO (rowA ρ 0)) j2.1 (wO_ok _) g0 g7 j2.2.1 (fun l l0 l1 => by rw [rowA_0] at l1; exact p3 l l0 (by omega) l1)
  refine ⟨μ3, ?_, SaC_tr p2 (SaC_100 q4), q2, q3, fun l l0 l1 => by rw [q4 99 l (by decide)]; exact p3 l l0 (by omega) l1⟩
  unfold f_X6_measureOpen
  rw [show ((0 : Nat) : Int) = 0 from rfl] at p1
  rw [p1, bn_eq q1]
theorem every_eq {μ ρ : Mem} (j : JR μ 58 ρ) : 0 ≤ jshl 1 (ρ 112 2) - 1 ∧ jshl 1 (ρ 112 2) - 1 < 512 ∧ (∀ l, 0 ≤ l → tb (jshl 1 (ρ 112 2) - 1) l = decide (l < ρ 112 2)) := by
  obtain ⟨_, _, _, ⟨L0, L9⟩, _⟩ := now_is j
  obtain ⟨_, a2, a3, a4⟩ := all_is L0 L9
  exact ⟨a2, a3, a4⟩
theorem wF_all {μ ρ : Mem} (j : JR μ 58 ρ) : EdG (rowA ρ 0) (wF (rowA ρ 0) (jshl 1 (ρ 112 2) - 1)) = EdG (rowA ρ 0) (wO (rowA ρ 0)) := by
  apply EdG_cg
  intro l l0 l1
  rw [rowA_0] at l1
  unfold wF wO
  rw [(every_eq j).2.2 l l0, decide_eq_true l1]
  simp only [true_and]
theorem op_soonest (a : Int) (ha : nrm a = a) : Op2 (f_X11_soonest 0 a) (f_X12_soonest 111 a) := by
  intro μ ρ h
  have h' := RR_co (SaC_rfl μ) (SaR_thrown ρ 0) h
  generalize hρ : ms ρ 111 0 0 = ρ1 at h'
  have j : JR μ 58 ρ1 := h'.2.2.1
  obtain ⟨hL, hR, _, ⟨L0, L9⟩, _, ⟨K1, K7⟩, hl, ⟨c1, c2, c3⟩, _⟩ := now_is j
  unfold f_X11_soonest f_X12_soonest f_X12_everyLane
  rw [nm_eq, hρ, show (0 + 58 : Int) = 58 from rfl, show (0 + 98 : Int) = 98 from rfl, gd_pos (isL_k hL), bn_eq (hasPlace_eq hR ha), bn_eq (isPlace_eq K1 K7 ha), rowA_0, show (111 + 1 : Int) = 112 from rfl]
  by_cases g : 0 ≤ a ∧ a < ρ1 112 1
  · rw [if_pos g, if_neg (by decide : ¬ nrm 1 = 0), if_neg (by decide : ¬ nrm 1 = 0), bn_eq rfl]
    obtain ⟨μ2, p1, p2, p3, p4, _⟩ := measureOpen_eq j g.1 (by omega)
    obtain ⟨e1, e2, _⟩ := every_eq j
    obtain ⟨ρ2, q1, q2, q3⟩ := laysFar_eq e1 e2 j
    rw [wF_all j] at q2
    have ok := EdG_ok hR (wO_ok (rowA ρ1 0))
    have s1 := D_sym ok EdG_sy g.1 (by omega : a < 7) c2 (by omega : ρ1 112 55 < 7) p3 q2
    have s2 := D_sym ok EdG_sy c2 (by omega : ρ1 112 55 < 7) g.1 (by omega : a < 7) q2 p3
    have hRR := RR_co p2 (Sc119_sa q3) h'
    have e58 : μ2 58 1 = ρ1 112 55 := by rw [p2 58 1 (by unfold EssC; omega)]; exact c1
    have hx : xF μ2 (ρ1 112 55) = ρ2 119 a := by omega
    have rk := p4 (ρ1 112 55) c2 (by omega)
    have rr := q2.1.2.1 a g.1 (by omega)
    have hf : farI = 268435456 := rfl
    rw [bn_eq p1, e58, bn_eq (farFrom_eq μ2 c2 (by omega)), bn_eq q1, ha, gd_pos ⟨g.1, by omega⟩, show (111 + 8 : Int) = 119 from rfl]
    unfold f_X12_toldFar
    rw [nrm_id (z := ρ2 119 a) (by omega) (by omega), show nrm 268435456 = 268435456 from rfl]
    by_cases z : ρ2 119 a < 268435456
    · rw [if_pos z, bn_eq rfl]
      simp only [wp_some]
      refine ⟨?_, hRR⟩
      have : ¬ μ2 100 (ρ1 112 55) = -1 := fun q => by
        have := (xf_far rk).mpr q
        unfold xF at hx
        omega
      unfold xF xf at hx
      rw [if_neg this] at hx
      rw [hx]
    · rw [if_neg z, bn_eq rfl]
      simp only [wp_some]
      refine ⟨?_, hRR⟩
      have : μ2 100 (ρ1 112 55) = -1 := (xf_far rk).mp (by unfold xF at hx; omega)
      rw [this]
  · rw [if_neg g, if_pos (by decide : nrm 0 = 0), if_pos (by decide : nrm 0 = 0)]
    simp only [wp_some]
    exact ⟨trivial, h'⟩
/-- The places not infinitely far, as bits. -/
theorem reach_w {K : Int} {F : Int → Int} {ρ : Mem} (hK : ρ 112 1 = K) (K7 : K ≤ 7) (hF : ρ 119 = F) (hb : ∀ k, 0 ≤ k → k < 7 → 0 ≤ F k ∧ F k ≤ farI) : ∀ (d n : Nat) (k x : Int), 0 ≤ k → k + d = K → d < n → 0 ≤ x → x < 2 ^ 7 →
    ∃ v, f_X12_reach_w17 n 111 x k ρ = some (v, ρ) ∧ 0 ≤ v ∧ (∀ j, 0 ≤ j → tb v j = (tb x j || decide (k ≤ j ∧ j < K ∧ F j ≠ farI))) := by
  intro d
  induction d with
  | zero =>
    intro n k x k0 kd hn x0 x1
    obtain ⟨n, rfl⟩ : ∃ q, n = q + 1 := ⟨n - 1, by omega⟩
    refine ⟨x, ?_, x0, ?_⟩
    · rw [f_X12_reach_w17, show (111 + 1 : Int) = 112 from rfl, hK, nrm_id (z := K) (by omega) (by omega), nrm_id (z := k) (by omega) (by omega), if_pos (by omega)]
    · intro j j0
      rw [decide_eq_false (by omega), Bool.or_false]
  | succ d ih =>
    intro n k x k0 kd hn x0 x1
    obtain ⟨n, rfl⟩ : ∃ q, n = q + 1 := ⟨n - 1, by omega⟩
    have hf : farI = 268435456 := rfl
    have hk := hb k k0 (by omega)
    have hu : f_X12_reach_w17 (n + 1) 111 x k ρ = if 268435456 ≤ F k then f_X12_reach_w17 n 111 (jor x 0) (k + 1) ρ else f_X12_reach_w17 n 111 (jor x (jshl 1 k)) (k + 1) ρ := by
      rw [f_X12_reach_w17, show (111 + 1 : Int) = 112 from rfl, show (111 + 8 : Int) = 119 from rfl, hK, hF, nrm_id (z := K) (by omega) (by omega), nrm_id (z := k) (by omega) (by omega), if_neg (by omega), gd_pos (by omega), nrm_id (z := F k) (by omega) (by omega)]
      rfl
    obtain ⟨j1, j2, j3⟩ := jor_tb (x := x) (k := k) x0 (by omega) k0 (by omega)
    by_cases z : 268435456 ≤ F k
    · rw [if_pos z, jor_0 x0 (by omega)] at hu
      obtain ⟨v, y1, y2, y3⟩ := ih n (k + 1) x (by omega) (by omega) (by omega) x0 x1
      refine ⟨v, by rw [hu]; exact y1, y2, ?_⟩
      intro j j0
      rw [y3 j j0]
      congr 1
      apply decide_eq_decide.mpr
      constructor
      · intro q; omega
      · intro ⟨q1, q2, q3⟩
        by_cases e : j = k
        · subst e; omega
        · exact ⟨by omega, q2, q3⟩
    · rw [if_neg z] at hu
      obtain ⟨v, y1, y2, y3⟩ := ih n (k + 1) _ (by omega) (by omega) (by omega) j1 (j3 7 x1 (by omega))
      refine ⟨v, by rw [hu]; exact y1, y2, ?_⟩
      intro j j0
      rw [y3 j j0, j2 j j0, Bool.or_assoc]
      congr 1
      rw [← Bool.decide_or]
      apply decide_eq_decide.mpr
      constructor
      · intro q
        rcases q with q | ⟨q1, q2, q3⟩
        · subst q; exact ⟨by omega, by omega, by omega⟩
        · exact ⟨by omega, q2, q3⟩
      · intro ⟨q1, q2, q3⟩
        by_cases e : j = k
        · exact .inl e
        · exact .inr ⟨by omega, q2, q3⟩
theorem op_reach : Op2 (f_X11_reach 0) (f_X12_reach 111) := by
  intro μ ρ h
  have h' := RR_co (SaC_rfl μ) (SaR_thrown ρ 0) h
  generalize hρ : ms ρ 111 0 0 = ρ1 at h'
  have j : JR μ 58 ρ1 := h'.2.2.1
  obtain ⟨hL, hR, _, ⟨L0, L9⟩, _, ⟨K1, K7⟩, hl, ⟨c1, c2, c3⟩, _⟩ := now_is j
  unfold f_X11_reach f_X12_reach f_X12_everyLane
  obtain ⟨o, μ2, o1, o2, o3, o4, o5⟩ := openLanes_eq j
  obtain ⟨e1, e2, e3⟩ := every_eq j
  obtain ⟨ρ2, q1, q2, q3⟩ := laysFar_eq e1 e2 j
  obtain ⟨j2, j3⟩ := JR_sa o2 (SaR_rfl ρ1) j
  have hR2 := j2.2.1
  rw [j3] at hR2
  obtain ⟨s, s1, s2⟩ := comingFrom_eq hR2 o3 o4 c2 (by omega : ρ1 112 55 < 7)
  have hK2 : ρ2 112 1 = ρ1 112 1 := q3 112 1 (by decide) (by decide) (by decide)
  obtain ⟨v, v1, v2, v3⟩ := reach_w (F := ρ2 119) hK2 K7 rfl q2.1.2.1 (ρ1 112 1).toNat FU 0 0 (by decide) (by omega) (by unfold FU; omega) (by decide) (by decide)
  rw [nm_eq, hρ, show (0 + 58 : Int) = 58 from rfl, bn_eq o1, gd_pos (isL_k hL), c1, bn_eq s1, show (111 + 1 : Int) = 112 from rfl, bn_eq rfl, bn_eq q1, v1]
  simp only [wp_some]
  refine ⟨?_, RR_co o2 (Sc119_sa q3) h'⟩
  congr 1
  apply tb_ext s2.1 v2
  intro k k0
  rw [v3 k k0]
  have z : tb 0 k = false := by unfold tb; simp
  rw [z, Bool.false_or]
  by_cases k7 : k < 7
  · have hs := cm_D hR2 (wF_ok (rowA ρ1 0) (jshl 1 (ρ1 112 2) - 1)) c2 (by omega : ρ1 112 55 < 7) (set := o) (s := s) (by
      intro l l0 l1
      rw [rowA_0] at l1
      rw [o5 l l0]
      unfold wF
      rw [e3 l l0, decide_eq_true l1]
      by_cases q : openM (rowA ρ1 0) l = 1
      · rw [if_pos ⟨rfl, q⟩, decide_eq_true ⟨l1, q⟩]; exact ⟨fun _ => by decide, fun _ => rfl⟩
      · rw [if_neg (fun x => q x.2), decide_eq_false (fun x => q x.2)]
        exact ⟨fun x => (by cases x), fun x => absurd rfl x⟩) s2 q2 k0 k7
    by_cases q : tb s k = true
    · have kK := isCm_K hR2 c2 (by rw [rowA_0]; exact c3) s2 k0 q
      rw [rowA_0] at kK
      rw [q, decide_eq_true ⟨k0, kK, hs.mp q⟩]
    · rw [decide_eq_false (fun x => q (hs.mpr x.2.2))]
      cases y : tb s k
      · rfl
      · exact absurd y q
  · rw [tb_hi s2.2.1 (by omega), decide_eq_false (by omega)]
