def ScD (C La : Int) (μ μ' : Mem) : Prop := (∀ c i, ¬ (c = La + 7 ∧ i = 6) → c ≠ La + 11 → c ≠ La + 12 → c ≠ C → c ≠ C + 1 → μ' c i = μ c i) ∧ μ' C 0 = μ C 0
def DcR (ρ ρ' : Mem) : Prop := ∀ c i, c ≠ 116 → c ≠ 117 → ¬ (c = 112 ∧ 55 ≤ i ∧ i < 68) → ¬ (c = 111 ∧ 19 ≤ i) → ρ' c i = ρ c i
theorem ScD_rf {C La : Int} {a : Mem} : ScD C La a a := ⟨fun _ _ _ _ _ _ _ => rfl, rfl⟩
theorem DcR_rf {a : Mem} : DcR a a := fun _ _ _ _ _ _ => rfl
theorem ScD_tr {C La : Int} {a b c : Mem} (h : ScD C La a b) (k : ScD C La b c) : ScD C La a c :=
  ⟨fun x i e1 e2 e3 e4 e5 => (k.1 x i e1 e2 e3 e4 e5).trans (h.1 x i e1 e2 e3 e4 e5), k.2.trans h.2⟩
theorem DcR_tr {a b c : Mem} (h : DcR a b) (k : DcR b c) : DcR a c := fun x i e1 e2 e3 e4 => (k x i e1 e2 e3 e4).trans (h x i e1 e2 e3 e4)
theorem ScD_of {C La : Int} {a b : Mem} (hC : C = 58 ∨ C = 60) (hL : isL La) (h : ScL La a b) : ScD C La a b := by
  unfold isL at hL
  exact ⟨fun c i e1 e2 e3 _ _ => h c i e1 e2 e3, h C 0 (by omega) (by omega) (by omega)⟩
theorem DcR_of {a b : Mem} (h : ScW a b) : DcR a b := fun c i e1 e2 _ _ => h c i e1 e2
theorem CR_55 {μ ρ : Mem} {C : Int} : CR μ C (rowA ρ 0) 55 ↔ ((μ C 1 = ρ 112 55 ∧ 0 ≤ ρ 112 55 ∧ ρ 112 55 < ρ 112 1) ∧ (μ C 2 = ρ 112 66 ∧ 0 ≤ ρ 112 66 ∧ ρ 112 66 ≤ 9) ∧
  (μ C 3 = ρ 112 65 ∧ 0 ≤ ρ 112 65 ∧ ρ 112 65 < 2 ^ (ρ 112 3).toNat) ∧ μ C 4 = ρ 112 67 ∧
  (∀ l, 0 ≤ l → l < ρ 112 2 → μ (C + 1) l = ρ 112 (56 + l) ∧ 0 ≤ ρ 112 (56 + l) ∧ ρ 112 (56 + l) ≤ 6)) := by
  unfold CR
  simp only [rowA_0, Int.reduceAdd]
theorem JR_new {μ μ' ρ ρ' : Mem} {C : Int} (hC : C = 58 ∨ C = 60) (h : JR μ C ρ) (s : ScD C (μ C 0) μ μ') (t : DcR ρ ρ') (c : CR μ' C (rowA ρ' 0) 55) : JR μ' C ρ' := by
  obtain ⟨hL, hR, _⟩ := h
  unfold JR
  rw [s.2]
  refine ⟨hL, LR_cA (A := rowA ρ 0) ?_ (LR_co hL ?_ hR), c⟩
  · intro j hj
    rw [rowA_0, rowA_0]
    exact t 112 j (by decide) (by decide) (by omega) (by omega)
  · intro c i c1 c2 c3
    have hL' := hL
    unfold isL at hL'
    exact s.1 c i (by omega) (by omega) (by omega) (by omega) (by omega)
def DcS (ρ ρ' : Mem) : Prop := ∀ c i, c ≠ 116 → c ≠ 117 → ¬ (c = 112 ∧ 55 ≤ i ∧ i < 68) → ρ' c i = ρ c i
theorem DcS_R {ρ ρ' : Mem} (h : DcS ρ ρ') : DcR ρ ρ' := fun c i e1 e2 e3 _ => h c i e1 e2 e3
theorem evR_cA {ws cd cd' : Int → Int} : ∀ (n : Nat) (k : Int) (s : List Int), (∀ j, k ≤ j → j < k + n → cd' j = cd j) → evR ws cd' n k s = evR ws cd n k s := by
  intro n
  induction n with
  | zero => intros; rfl
  | succ n ih =>
    intro k s h
    unfold evR
    rw [h k (by omega) (by omega)]
    exact ih (k + 1) _ (fun j h1 h2 => h j (by omega) (by omega))
theorem lawV_cA {μ : Mem} {La w : Int} {A A' ws : Int → Int} (hw : w = 0 ∨ w = 1) (h : LawR μ La A w) (h1 : A (5 + w) = 1) (hA : ∀ j, (0 ≤ j ∧ j < 55) ∨ (200 ≤ j ∧ j < 1100) → A' j = A j) : lawV A' w ws = lawV A w ws := by
  rcases h with ⟨a, _⟩ | ⟨_, b, c, d, _⟩
  · omega
  · unfold lawV
    rw [hA (9 + w) (by omega), hA (7 + w) (by omega)]
    congr 1
    apply evR_cA
    intro j j1 j2
    exact hA (200 + j) (by omega)
theorem wornM_cA {μ : Mem} {La l d r : Int} {A A' : Int → Int} (h : LR μ La A) (hA : ∀ j, (0 ≤ j ∧ j < 55) ∨ (200 ≤ j ∧ j < 1100) → A' j = A j) (l0 : 0 ≤ l) (l1 : l < 9) : wornM A' l d r = wornM A l d r := by
  obtain ⟨_, _, _, _, _, _, _, g8, _⟩ := h
  unfold wornM
  rw [hA 5 (by omega), hA 4 (by omega), hA (29 + l) (by omega)]
  by_cases e : A 5 = 1
  · rw [if_pos e, if_pos e, lawV_cA (.inl rfl) g8 e hA]
  · rw [if_neg e, if_neg e]
theorem mayM_cA {μ : Mem} {La l d r b : Int} {A A' : Int → Int} (h : LR μ La A) (hA : ∀ j, (0 ≤ j ∧ j < 55) ∨ (200 ≤ j ∧ j < 1100) → A' j = A j) (l0 : 0 ≤ l) (l1 : l < 9) : mayM A' l d r b = mayM A l d r b := by
  obtain ⟨_, _, _, _, _, _, _, _, g9⟩ := h
  unfold mayM
  rw [hA 6 (by omega), hA 4 (by omega), hA (29 + l) (by omega)]
  by_cases e : A 6 = 0
  · rw [if_pos e, if_pos e]
  · have e1 : A (5 + 1) = 1 := by
      rcases g9 with q | q
      · exact absurd q.1 e
      · exact q.1
    rw [if_neg e, if_neg e, lawV_cA (.inr rfl) g9 e1 hA]
theorem go_eq {μ ρ : Mem} {C l : Int} (hC : C = 58 ∨ C = 60) (kc : isK C 0) (h : JR μ C ρ) (l0 : 0 ≤ l) (l1 : l < ρ 112 2) (ho : oeM (rowA ρ 0) l (ρ 112 55) ≠ -1) :
    ∃ μ' ρ', f_X0_goBy C l μ = some (0, μ') ∧ f_X12_goes 111 l ρ = some (0, ρ') ∧ JR μ' C ρ' ∧ ScD C (μ C 0) μ μ' ∧ DcS ρ ρ' := by
  obtain ⟨hL, hR, hK, ⟨L0, L9⟩, _, ⟨K1, K7⟩, hl, ⟨c1, c2, c3⟩, ⟨r1, r2, r3⟩, ⟨b1, b2, b3⟩, hd⟩ := now_is h
  have hk := isL_k hL
  have hLo := hL
  unfold isL at hLo
  obtain ⟨d1, d2, d3⟩ := hd l l0 l1
  have hoi := oeM_in (k := ρ 112 55) hR l0 (by rw [rowA_0]; exact l1)
  rw [rowA_0] at hoi
  have hn : nrm l = l := nrm_id (by omega) (by omega)
  generalize hO : oeM (rowA ρ 0) l (ρ 112 55) = o at ho hoi
  have q0 : ms μ C 1 o C 0 = μ C 0 := ms_ni (by decide)
  have q1 : ms μ C 1 o (C + 1) l = ρ 112 (56 + l) := by rw [ms_nc (by omega), d1]
  have q2 : ms μ C 1 o C 2 = ρ 112 66 := by rw [ms_ni (by decide), r1]
  have hR1 : LR (ms μ C 1 o) (μ C 0) (rowA ρ 0) := by
    refine LR_co hL ?_ hR
    intro c i e1 e2 e3
    exact ms_nc (by omega)
  obtain ⟨μ2, w1, w2⟩ := wornFrom_c hL hR1 l0 (by rw [rowA_0]; exact l1) d2 d3 r2 r3
  have hA : ∀ j, (0 ≤ j ∧ j < 55) ∨ (200 ≤ j ∧ j < 1100) → rowA (ms ρ 112 55 o) 0 j = rowA ρ 0 j := by
    intro j hj
    rw [rowA_0, rowA_0, ms_ni (by omega)]
  have hR2 : LR μ (μ C 0) (rowA (ms ρ 112 55 o) 0) := LR_cA hA hR
  have p1 : ms ρ 112 55 o 112 (56 + l) = ρ 112 (56 + l) := ms_ni (by omega)
  have p2 : ms ρ 112 55 o 112 66 = ρ 112 66 := ms_ni (by decide)
  have p3 : ms ρ 112 55 o 112 65 = ρ 112 65 := ms_ni (by decide)
  have p4 : ms ρ 112 55 o 112 2 = ρ 112 2 := ms_ni (by decide)
  obtain ⟨ρ2, v1, v2⟩ := wornTo_m hR2 l0 (by rw [p4]; exact l1) d2 d3 r2 r3 (by rw [p3]; exact b2) (by rw [p3]; exact b3)
  rw [wornM_cA hR hA l0 (by omega)] at v1
  have hw := wornM_in (A := rowA ρ 0) (l := l) (r := ρ 112 66) d2 d3
  generalize wornM (rowA ρ 0) l (ρ 112 (56 + l)) (ρ 112 66) = w at w1 v1 hw
  refine ⟨ms (ms μ2 (C + 1) l w) C 4 (μ2 C 4 + 1), ms (ms ρ2 112 (56 + l) w) 112 67 (ρ2 112 67 + 1), ?_, ?_, ?_⟩
  · unfold f_X0_goBy
    rw [gd_pos hk, c1, bn_eq (otherEnd_c hR l0 (by rw [rowA_0]; exact l1) (nrm_id (by omega) (by omega))), hO, nrm_id (z := o) (by omega) (by omega), show nrm (-1) = -1 from rfl, if_neg ho, gd_pos hk, bn_eq (hasLane_eq hl L0 L9 hn), if_pos (⟨l0, l1⟩ : 0 ≤ l ∧ l < ρ 112 2), if_neg (by decide : ¬ nrm 1 = 0), nm_eq, hn, gd_pos (by omega), q0, gd_pos hk, q1, q2, bn_eq w1, gd_pos (by omega), nm_eq, nm_eq, ms_nc (μ := μ2) (by omega)]
  · unfold f_X12_goes
    simp only [Int.reduceAdd]
    rw [bn_eq (otherEnd_m hR l0 l1 (nrm_id (by omega) (by omega))), hO, nm_eq, nrm_id (z := 56 + l) (by omega) (by omega), gd_pos (by omega), p1, p2, bn_eq v1, gd_pos (by omega), nm_eq, nm_eq, ms_ni (μ := ρ2) (by omega)]
  · have s1 : ScD C (μ C 0) μ (ms (ms μ2 (C + 1) l w) C 4 (μ2 C 4 + 1)) := by
      refine ⟨?_, ?_⟩
      · intro c i e1 e2 e3 e4 e5
        rw [ms_nc e4, ms_nc e5, w2 c i e1 e2 e3, ms_nc e4]
      · rw [ms_ni (by decide), ms_nc (by omega), w2 C 0 (by omega) (by omega) (by omega), ms_ni (by decide)]
    have t1 : DcS ρ (ms (ms ρ2 112 (56 + l) w) 112 67 (ρ2 112 67 + 1)) := by
      intro c i e1 e2 e3
      rw [ms_at, if_neg (by omega), ms_at, if_neg (by omega), v2 c i e1 e2, ms_at, if_neg (by omega)]
    refine ⟨JR_new hC h s1 (DcS_R t1) ?_, s1, t1⟩
    have eC : ∀ i, μ2 C i = ms μ C 1 o C i := fun i => w2 C i (by omega) (by omega) (by omega)
    have eD : ∀ i, μ2 (C + 1) i = μ (C + 1) i := fun i => by rw [w2 (C + 1) i (by omega) (by omega) (by omega), ms_nc (by omega)]
    have eR : ∀ i, ρ2 112 i = ms ρ 112 55 o 112 i := fun i => v2 112 i (by decide) (by decide)
    obtain ⟨k1, k2, k3, k4, k5⟩ := CR_55.mp hK
    refine CR_55.mpr ⟨?_, ?_, ?_, ?_, ?_⟩
    · simp (disch := omega) only [ms_ni, ms_nc, ms_eq, eC, eR]
      exact ⟨trivial, by omega, hoi.2⟩
    · simp (disch := omega) only [ms_ni, ms_nc, ms_eq, eC, eR]
      exact k2
    · simp (disch := omega) only [ms_ni, ms_nc, ms_eq, eC, eR]
      exact k3
    · simp (disch := omega) only [ms_ni, ms_nc, ms_eq, eC, eR]
      omega
    · intro j j0 j1
      have e2 : (ms (ms ρ2 112 (56 + l) w) 112 67 (ρ2 112 67 + 1)) 112 2 = ρ 112 2 := by
        simp (disch := omega) only [ms_ni, ms_nc, ms_eq, eC, eR]
      rw [e2] at j1
      by_cases e : j = l
      · subst e
        simp (disch := omega) only [ms_ni, ms_nc, ms_eq, eC, eR]
        exact ⟨trivial, hw⟩
      · simp (disch := omega) only [ms_ni, ms_nc, ms_eq, eC, eD, eR]
        exact k5 j j0 j1
/-- Why a rut can't be filled or dug; 0. -/
def rutM (A : Int → Int) (l m : Int) : Int := if 0 ≤ l ∧ l < A 2 then (if A (56 + l) = (if 0 ≤ m then 6 else 0) then 2 else 0) else 1
theorem whyRut_eq {μ ρ : Mem} {C l m : Int} (h : JR μ C ρ) (hl : nrl l = l) (hm : m = 1 ∨ m = -1) : f_X12_whyRut 111 l m ρ = some (rutM (rowA ρ 0) l m, ρ) := by
  obtain ⟨hL, hR, hK, ⟨L0, L9⟩, _, _, _, _, _, _, hd⟩ := now_is h
  unfold f_X12_whyRut rutM
  rw [bn_eq (isLane_eq L0 L9), hl, rowA_0]
  by_cases g : 0 ≤ l ∧ l < ρ 112 2
  · obtain ⟨d1, d2, d3⟩ := hd l g.1 g.2
    rw [if_pos g, if_pos g, if_neg (by decide : ¬ nrm 1 = 0), nrm_id (z := 56 + l) (by omega) (by omega), gd_pos (by omega), rowA_0, nrm_id (z := m) (by omega) (by omega)]
    unfold f_X12_whyRut_j32
    rw [show (111 + 1 : Int) = 112 from rfl, nrm_id (z := ρ 112 (56 + l)) (by omega) (by omega), show nrm 6 = 6 from rfl, show nrm 0 = 0 from rfl]
    rcases hm with e | e <;> subst e
    · rw [if_pos (by decide : (0 : Int) ≤ 1), if_pos (by decide : (0 : Int) ≤ 1)]
      split <;> rfl
    · rw [if_neg (by decide : ¬ (0 : Int) ≤ -1), if_neg (by decide : ¬ (0 : Int) ≤ -1)]
      split <;> rfl
  · rw [if_neg g, if_neg g, if_pos (by decide : nrm 0 = 0)]
theorem tryDepth_eq {μ ρ : Mem} {C l m : Int} (hC : C = 58 ∨ C = 60) (h : JR μ C ρ) (hn : nrm l = l) (hm : m = 1 ∨ m = -1) :
    f_X0_tryDepth C l m μ = some (rutM (rowA ρ 0) l m, if rutM (rowA ρ 0) l m = 0 then ms μ (C + 1) l (μ (C + 1) l + m) else μ) := by
  obtain ⟨hL, hR, hK, ⟨L0, L9⟩, _, _, hl, _, _, _, hd⟩ := now_is h
  have hk := isL_k hL
  unfold f_X0_tryDepth rutM
  rw [gd_pos hk, bn_eq (hasLane_eq hl L0 L9 hn), rowA_0, hn]
  by_cases g : 0 ≤ l ∧ l < ρ 112 2
  · obtain ⟨d1, d2, d3⟩ := hd l g.1 g.2
    rw [if_pos g, if_pos g, if_neg (by decide : ¬ nrm 1 = 0), gd_pos (by omega), rowA_0, d1, nrm_id (z := ρ 112 (56 + l) + m) (by omega) (by omega), show nrm 6 = 6 from rfl]
    by_cases z : ρ 112 (56 + l) = (if 0 ≤ m then 6 else 0)
    · rw [if_pos z, if_neg (by decide : ¬ (2 : Int) = 0)]
      rcases hm with e | e <;> subst e
      · rw [if_pos (by decide : (0 : Int) ≤ 1)] at z
        rw [if_neg (by omega), gd_pos (by omega), if_neg (by omega)]
      · rw [if_neg (by decide : ¬ (0 : Int) ≤ -1)] at z
        rw [if_pos (by omega)]
    · rw [if_neg z, if_pos (rfl : (0 : Int) = 0)]
      have : 0 ≤ ρ 112 (56 + l) + m ∧ ρ 112 (56 + l) + m ≤ 6 := by
        rcases hm with e | e <;> subst e
        · rw [if_pos (by decide : (0 : Int) ≤ 1)] at z; omega
        · rw [if_neg (by decide : ¬ (0 : Int) ≤ -1)] at z; omega
      rw [if_neg (by omega), gd_pos (by omega), if_pos (by omega), gd_pos (by omega), gd_pos (by omega), nm_eq]
  · rw [if_neg g, if_neg g, if_pos (by decide : nrm 0 = 0), if_neg (by decide : ¬ (1 : Int) = 0)]
theorem rutM_0 {A : Int → Int} {l m : Int} (h : rutM A l m = 0) : 0 ≤ l ∧ l < A 2 ∧ A (56 + l) ≠ (if 0 ≤ m then 6 else 0) := by
  unfold rutM at h
  by_cases g : 0 ≤ l ∧ l < A 2
  · rw [if_pos g] at h
    by_cases z : A (56 + l) = (if 0 ≤ m then 6 else 0)
    · rw [if_pos z] at h; omega
    · exact ⟨g.1, g.2, z⟩
  · rw [if_neg g] at h; omega
theorem rut_new {μ ρ : Mem} {C l m : Int} (hC : C = 58 ∨ C = 60) (h : JR μ C ρ) (hm : m = 1 ∨ m = -1) (h0 : rutM (rowA ρ 0) l m = 0) :
    JR (ms μ (C + 1) l (μ (C + 1) l + m)) C (ms ρ 112 (56 + l) (ρ 112 (56 + l) + m)) ∧ ScD C (μ C 0) μ (ms μ (C + 1) l (μ (C + 1) l + m)) ∧ DcS ρ (ms ρ 112 (56 + l) (ρ 112 (56 + l) + m)) := by
  obtain ⟨hL, hR, hK, ⟨L0, L9⟩, _, _, hl, _, _, _, hd⟩ := now_is h
  obtain ⟨l0, l1, z⟩ := rutM_0 h0
  rw [rowA_0] at l1 z
  obtain ⟨d1, d2, d3⟩ := hd l l0 l1
  have s1 : ScD C (μ C 0) μ (ms μ (C + 1) l (μ (C + 1) l + m)) := ⟨fun c i _ _ _ _ e5 => ms_nc e5, ms_nc (by omega)⟩
  have t1 : DcS ρ (ms ρ 112 (56 + l) (ρ 112 (56 + l) + m)) := fun c i _ _ e => by rw [ms_at, if_neg (by omega)]
  refine ⟨JR_new hC h s1 (DcS_R t1) ?_, s1, t1⟩
  obtain ⟨k1, k2, k3, k4, k5⟩ := CR_55.mp hK
  have hb : 0 ≤ ρ 112 (56 + l) + m ∧ ρ 112 (56 + l) + m ≤ 6 := by
    rcases hm with e | e <;> subst e
    · rw [if_pos (by decide : (0 : Int) ≤ 1)] at z; omega
    · rw [if_neg (by decide : ¬ (0 : Int) ≤ -1)] at z; omega
  refine CR_55.mpr ⟨?_, ?_, ?_, ?_, ?_⟩
  · simp (disch := omega) only [ms_ni, ms_nc]; exact k1
  · simp (disch := omega) only [ms_ni, ms_nc]; exact k2
  · simp (disch := omega) only [ms_ni, ms_nc]; exact k3
  · simp (disch := omega) only [ms_ni, ms_nc]; exact k4
  · intro j j0 j1
    rw [ms_ni (by omega)] at j1
    by_cases e : j = l
    · subst e
      rw [ms_eq, ms_eq, d1]
      exact ⟨rfl, hb⟩
    · rw [ms_ni e, ms_ni (by omega)]
      exact k5 j j0 j1
