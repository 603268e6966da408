/-! the words -/
def wR : List (Nat × Nat) := [(1, 4), (6, 6), (13, 4), (18, 5), (24, 4), (29, 4), (34, 4), (39, 2), (42, 4), (47, 6), (54, 5), (60, 4), (65, 4), (70, 5), (76, 3), (80, 2), (83, 4), (88, 4), (93, 3), (97, 3), (101, 2), (104, 3), (108, 0)]
def wL : List (Nat × Nat) := [(0, 4), (5, 6), (12, 4), (17, 5), (23, 4), (28, 4), (33, 4), (38, 2), (41, 4), (46, 6), (53, 5), (59, 4), (64, 4), (69, 5), (75, 3), (79, 2), (82, 4), (87, 4), (92, 3), (96, 3), (100, 3), (104, 2), (107, 0)]
def oR (j : Nat) : Nat := (wR.getD j (0, 0)).1
def mR (j : Nat) : Nat := (wR.getD j (0, 0)).2
def oL (j : Nat) : Nat := (wL.getD j (0, 0)).1
def mL (j : Nat) : Nat := (wL.getD j (0, 0)).2
/-- The reference's number of the class's word j. -/
def pW (j : Nat) : Nat := if j = 19 then 21 else if j = 20 then 19 else if j = 21 then 20 else j
theorem wR_ok : ∀ j, j < 22 → oR (j + 1) = oR j + mR j + 1 ∧ 1 ≤ mR j ∧ oR j + mR j < 108 ∧ (∀ i, i < mR j → sch 2 ((oR j : Nat) + (i : Nat) : Int) ≠ 32 ∧ 0 ≤ sch 2 ((oR j : Nat) + (i : Nat) : Int) ∧ sch 2 ((oR j : Nat) + (i : Nat) : Int) ≤ 255) ∧ sch 2 ((oR j : Nat) + (mR j : Nat) : Int) = 32 := by decide +kernel
theorem wL_ok : ∀ j, j < 22 → oL (j + 1) = oL j + mL j + 1 ∧ 1 ≤ mL j ∧ oL j + mL j < 107 ∧ (∀ i, i < mL j → sch 0 ((oL j : Nat) + (i : Nat) : Int) ≠ 32 ∧ 0 ≤ sch 0 ((oL j : Nat) + (i : Nat) : Int) ∧ sch 0 ((oL j : Nat) + (i : Nat) : Int) ≤ 255) ∧ sch 0 ((oL j : Nat) + (mL j : Nat) : Int) = 32 := by decide +kernel
theorem w_same : ∀ j, j < 22 → pW j < 22 ∧ mL j = mR (pW j) ∧ (∀ i, i < mL j → sch 0 ((oL j : Nat) + (i : Nat) : Int) = sch 2 ((oR (pW j) : Nat) + (i : Nat) : Int)) := by decide +kernel
theorem pW_on : ∀ k, k < 22 → ∃ j, j < 22 ∧ pW j = k := by decide +kernel
theorem pW_in : ∀ j, j < 22 → ∀ k, k < 22 → pW j = pW k → j = k := by decide +kernel
theorem w_one : ∀ j, j < 22 → ∀ k, k < 22 → mR j = mR k → (∀ i, i < mR j → sch 2 ((oR j : Nat) + (i : Nat) : Int) = sch 2 ((oR k : Nat) + (i : Nat) : Int)) → j = k := by decide +kernel
/-- From a to e stands the word j. -/
def mt (T : Int → Int) (a e : Int) (j : Nat) : Prop := e - a = mR j ∧ ∀ i : Nat, i < mR j → T (a + i) = sch 2 ((oR j : Nat) + (i : Nat) : Int)
theorem mt_one {T : Int → Int} {a e : Int} {j k : Nat} (j1 : j < 22) (k1 : k < 22) (h1 : mt T a e j) (h2 : mt T a e k) : j = k := by
  have hm : mR j = mR k := by have := h1.1; have := h2.1; omega
  refine w_one j j1 k k1 hm (fun i hi => ?_)
  rw [← h1.2 i hi, h2.2 i (by omega)]
def isKw (T : Int → Int) (a e K : Int) : Prop := (∃ j : Nat, j < 22 ∧ mt T a e j ∧ K = j) ∨ (K = 22 ∧ ∀ j : Nat, j < 22 → ¬ mt T a e j)
theorem isKw_one {T : Int → Int} {a e K K' : Int} (h1 : isKw T a e K) (h2 : isKw T a e K') : K = K' := by
  rcases h1 with ⟨j, j1, j2, j3⟩ | ⟨h1, h3⟩
  · rcases h2 with ⟨k, k1, k2, k3⟩ | ⟨_, h4⟩
    · have := mt_one j1 k1 j2 k2; omega
    · exact absurd j2 (h4 j j1)
  · rcases h2 with ⟨k, k1, k2, _⟩ | ⟨h2, _⟩
    · exact absurd k2 (h3 k k1)
    · omega
theorem key97 {j : Nat} (hj : j < 22) {k4 : Int → Int → Int → Mem → Option (Int × Mem)} {x1 : Int} {ρ : Mem} : ∀ (d m i : Nat), i + d = mR j → d < m → f_X12_keyAt_w97 k4 m 111 x1 ((oR j : Int) + i) ρ = k4 111 (x1 + 1) (oR (j + 1)) ρ := by
  obtain ⟨h1, h2, h3, h4, h5⟩ := wR_ok j hj
  intro d
  induction d with
  | zero =>
    intro m i hi hm
    obtain ⟨m, rfl⟩ : ∃ q, m = q + 1 := ⟨m - 1, by omega⟩
    obtain rfl : i = mR j := by omega
    rw [f_X12_keyAt_w97, nrm_id (z := (oR j : Int) + (mR j : Nat)) (by omega) (by omega), gd_pos (by omega), h5, if_pos rfl, show ((oR (j + 1) : Nat) : Int) = (oR j : Int) + (mR j : Nat) + 1 by omega]
  | succ d ih =>
    intro m i hi hm
    obtain ⟨m, rfl⟩ : ∃ q, m = q + 1 := ⟨m - 1, by omega⟩
    obtain ⟨n32, s0, s1⟩ := h4 i (by omega)
    rw [f_X12_keyAt_w97, nrm_id (z := (oR j : Int) + (i : Nat)) (by omega) (by omega), gd_pos (by omega), nrm_id (z := sch 2 ((oR j : Int) + (i : Nat))) (by omega) (by omega), if_neg (by show ¬ _ = (32 : Int); exact n32), show (oR j : Int) + (i : Nat) + 1 = (oR j : Int) + ((i + 1 : Nat) : Int) by omega]
    exact ih m (i + 1) (by omega) (by omega)
theorem key15 {n a e : Int} {T : Int → Int} {ρ : Mem} {j : Nat} (hj : j < 22) (h : TX n T) (c : TM n T ρ) (e6 : ρ 111 6 = a) (e7 : ρ 111 7 = e) (a0 : 0 ≤ a) (en : e ≤ n) {k4 : Int → Int → Int → Mem → Option (Int × Mem)} {x1 : Int} :
    ∀ (d m i : Nat), i + d = mR j → d < m → a + i ≤ e → (∀ k : Nat, k < i → T (a + k) = sch 2 ((oR j : Nat) + (k : Nat) : Int)) →
      (mt T a e j → f_X12_keyAt_w15 k4 m 111 x1 (oR j) i ρ = some (x1, ρ)) ∧ (¬ mt T a e j → f_X12_keyAt_w15 k4 m 111 x1 (oR j) i ρ = k4 111 (x1 + 1) (oR (j + 1)) ρ) := by
  obtain ⟨h1, h2, h3, h4, h5⟩ := wR_ok j hj
  have hn := h.2.1
  have w97 := key97 hj (k4 := k4) (x1 := x1) (ρ := ρ) (mR j) FU 0 (by omega) (by unfold FU; omega)
  rw [show (oR j : Int) + ((0 : Nat) : Int) = oR j by omega] at w97
  have nb : ∀ i : Nat, i < mR j → f_X12_keyAt_j69 k4 111 x1 (oR j) i ρ = k4 111 (x1 + 1) (oR (j + 1)) ρ := by
    intro i hi
    obtain ⟨n32, s0, s1⟩ := h4 i hi
    unfold f_X12_keyAt_j69
    rw [nrm_id (z := (oR j : Int) + (i : Nat)) (by omega) (by omega), gd_pos (by omega), nrm_id (z := sch 2 ((oR j : Int) + (i : Nat))) (by omega) (by omega), if_neg (by show ¬ _ = (32 : Int); exact n32), w97]
  intro d
  induction d with
  | zero =>
    intro m i hi hm hae hk
    obtain ⟨m, rfl⟩ : ∃ q, m = q + 1 := ⟨m - 1, by omega⟩
    obtain rfl : i = mR j := by omega
    have hu : f_X12_keyAt_w15 k4 (m + 1) 111 x1 (oR j) (mR j : Nat) ρ = if a + (mR j : Nat) = e then some (x1, ρ) else k4 111 (x1 + 1) (oR (j + 1)) ρ := by
      rw [f_X12_keyAt_w15, nrm_id (z := (oR j : Int) + (mR j : Nat)) (by omega) (by omega), gd_pos (by omega), h5, if_pos rfl]
      unfold f_X12_keyAt_j69
      rw [nrm_id (z := (oR j : Int) + (mR j : Nat)) (by omega) (by omega), gd_pos (by omega), h5, if_pos rfl, e6, e7, nrm_id (z := a + (mR j : Nat)) (by omega) (by omega), nrm_id (z := e) (by omega) (by omega), w97]
    rw [hu]
    refine ⟨fun hh => if_pos (by have := hh.1; omega), fun hh => if_neg (fun q => hh ⟨by omega, hk⟩)⟩
  | succ d ih =>
    intro m i hi hm hae hk
    obtain ⟨m, rfl⟩ : ∃ q, m = q + 1 := ⟨m - 1, by omega⟩
    obtain ⟨n32, s0, s1⟩ := h4 i (by omega)
    rw [f_X12_keyAt_w15, nrm_id (z := (oR j : Int) + (i : Nat)) (by omega) (by omega), gd_pos (by omega), nrm_id (z := sch 2 ((oR j : Int) + (i : Nat))) (by omega) (by omega), if_neg (by show ¬ _ = (32 : Int); exact n32), e6, e7, nrm_id (z := a + (i : Nat)) (by omega) (by omega), nrm_id (z := e) (by omega) (by omega)]
    by_cases z : e ≤ a + i
    · rw [if_pos z, nb i (by omega)]
      refine ⟨fun hh => ?_, fun _ => rfl⟩
      have := hh.1
      omega
    · have hT := h.2.2 (a + i) (by omega) (by omega)
      rw [if_neg z, gd_pos (by omega), gd_pos (by omega), show (111 + 3 : Int) = 114 from rfl, c.2 (a + i) (by omega) (by omega), nrm_id (z := T (a + i)) (by omega) (by omega)]
      by_cases y : T (a + i) = sch 2 ((oR j : Int) + (i : Nat))
      · rw [if_pos y, show (i : Int) + 1 = ((i + 1 : Nat) : Int) by omega]
        refine ih m (i + 1) (by omega) (by omega) (by omega) (fun k hk2 => ?_)
        by_cases q : k = i
        · rw [q]; exact y
        · exact hk k (by omega)
      · rw [if_neg y, nb i (by omega)]
        refine ⟨fun hh => absurd (hh.2 i (by omega)) y, fun _ => rfl⟩
theorem keyAt_eq {n a e : Int} {T : Int → Int} {ρ : Mem} (h : TX n T) (c : TM n T ρ) (e6 : ρ 111 6 = a) (e7 : ρ 111 7 = e) (a0 : 0 ≤ a) (ae : a ≤ e) (en : e ≤ n) : ∃ K, f_X12_keyAt 111 ρ = some (K, ρ) ∧ isKw T a e K := by
  have all : ∀ (d m j : Nat), j + d = 22 → d < m → (∀ k : Nat, k < j → ¬ mt T a e k) → ∃ K, f_X12_keyAt_w4 m 111 j (oR j) ρ = some (K, ρ) ∧ isKw T a e K := by
    intro d
    induction d with
    | zero =>
      intro m j hj hm hk
      obtain ⟨m, rfl⟩ : ∃ q, m = q + 1 := ⟨m - 1, by omega⟩
      obtain rfl : j = 22 := by omega
      refine ⟨22, ?_, .inr ⟨rfl, fun k hk2 => hk k hk2⟩⟩
      rw [f_X12_keyAt_w4, if_pos (by decide)]
    | succ d ih =>
      intro m j hj hm hk
      obtain ⟨m, rfl⟩ : ∃ q, m = q + 1 := ⟨m - 1, by omega⟩
      obtain ⟨h1, h2, h3, h4, h5⟩ := wR_ok j (by omega)
      obtain ⟨y1, y2⟩ := key15 (k4 := f_X12_keyAt_w4 m) (x1 := (j : Int)) (by omega : j < 22) h c e6 e7 a0 en (mR j) FU 0 (by omega) (by unfold FU; omega) (by omega) (fun k hk => by omega)
      rw [f_X12_keyAt_w4, nrm_id (z := (oR j : Int)) (by omega) (by omega), if_neg (by show ¬ ((108 : Int) ≤ _); omega)]
      by_cases q : mt T a e j
      · refine ⟨j, y1 q, .inl ⟨j, by omega, q, rfl⟩⟩
      · rw [show (0 : Int) = ((0 : Nat) : Int) from rfl, y2 q, show (j : Int) + 1 = ((j + 1 : Nat) : Int) by omega]
        refine ih m (j + 1) (by omega) (by omega) (fun k hk2 => ?_)
        by_cases z : k = j
        · rw [z]; exact q
        · exact hk k (by omega)
  exact all 22 FU 0 (by omega) (by unfold FU; omega) (fun k hk => by omega)
