theorem stores_w {ρ : Mem} : ∀ (d k n : Nat), k + d = 13 → d < n → f_X12_stores_w2 n 111 k (cpr ρ 118 0 112 55 k) = some (0, cpr ρ 118 0 112 55 13) := by
  intro d
  induction d with
  | zero =>
    intro i n h1 h2
    obtain ⟨n, rfl⟩ : ∃ m, n = m + 1 := ⟨n - 1, by omega⟩
    have hi : (i : Int) = 13 := by omega
    unfold f_X12_stores_w2
    rw [hi, if_pos (Int.le_refl _)]
  | succ d ih =>
    intro i n h1 h2
    obtain ⟨n, rfl⟩ : ∃ m, n = m + 1 := ⟨n - 1, by omega⟩
    unfold f_X12_stores_w2
    simp only [Int.reduceAdd]
    rw [show nrm 13 = 13 from rfl, nrm_id (z := (i : Int)) (by omega) (by omega), if_neg (by omega), nrm_id (z := 55 + (i : Int)) (by omega) (by omega), gd_pos (by omega), gd_pos (by omega), nm_eq]
    have := ih (i + 1) n (by omega) (by omega)
    rw [show ((i + 1 : Nat) : Int) = (i : Int) + 1 by omega, ← cpr_step (by omega) (by omega), Int.zero_add] at this
    exact this
theorem stores_eq (ρ : Mem) : f_X12_stores 111 ρ = some (0, cpr ρ 118 0 112 55 13) := by
  have := stores_w (ρ := ρ) 13 0 FU (by omega) (by unfold FU; omega)
  simp only [Int.ofNat_zero, Int.natCast_zero, cpr_0] at this
  exact this
theorem isAgain_w {ρ : Mem} : ∀ (d k n : Nat), k + d = 13 → d < n → f_X12_isAgain_w2 n 111 k (cpr ρ 112 55 118 0 k) = some (0, cpr ρ 112 55 118 0 13) := by
  intro d
  induction d with
  | zero =>
    intro i n h1 h2
    obtain ⟨n, rfl⟩ : ∃ m, n = m + 1 := ⟨n - 1, by omega⟩
    have hi : (i : Int) = 13 := by omega
    unfold f_X12_isAgain_w2
    rw [hi, if_pos (Int.le_refl _)]
  | succ d ih =>
    intro i n h1 h2
    obtain ⟨n, rfl⟩ : ∃ m, n = m + 1 := ⟨n - 1, by omega⟩
    unfold f_X12_isAgain_w2
    simp only [Int.reduceAdd]
    rw [show nrm 13 = 13 from rfl, nrm_id (z := (i : Int)) (by omega) (by omega), if_neg (by omega), nrm_id (z := 55 + (i : Int)) (by omega) (by omega), gd_pos (by omega), gd_pos (by omega), nm_eq]
    have := ih (i + 1) n (by omega) (by omega)
    rw [show ((i + 1 : Nat) : Int) = (i : Int) + 1 by omega, ← cpr_step (by omega) (by omega), Int.zero_add] at this
    exact this
theorem isAgain_eq (ρ : Mem) : f_X12_isAgain 111 ρ = some (0, cpr ρ 112 55 118 0 13) := by
  have := isAgain_w (ρ := ρ) 13 0 FU (by omega) (by unfold FU; omega)
  simp only [Int.ofNat_zero, Int.natCast_zero, cpr_0] at this
  exact this
theorem notes_w {ρ : Mem} {N : Int} (hN : ρ 112 68 = N) (N0 : 0 ≤ N) (N9 : N ≤ 9) : ∀ (d k n : Nat), k + d = 13 → d < n → f_X12_notes_w57 n 111 k (cpr ρ 112 (69 + 13 * N) 118 0 k) = some (0, ms (cpr ρ 112 (69 + 13 * N) 118 0 13) 112 68 (N + 1)) := by
  intro d
  induction d with
  | zero =>
    intro i n h1 h2
    obtain ⟨n, rfl⟩ : ∃ m, n = m + 1 := ⟨n - 1, by omega⟩
    have hi : (i : Int) = 13 := by omega
    unfold f_X12_notes_w57
    rw [show (111 + 1 : Int) = 112 from rfl, hi, if_pos (Int.le_refl _), nm_eq, cpr_out (by omega), hN]
  | succ d ih =>
    intro i n h1 h2
    obtain ⟨n, rfl⟩ : ∃ m, n = m + 1 := ⟨n - 1, by omega⟩
    unfold f_X12_notes_w57
    rw [show (111 + 1 : Int) = 112 from rfl, show (111 + 7 : Int) = 118 from rfl, show nrm 13 = 13 from rfl, nrm_id (z := (i : Int)) (by omega) (by omega), if_neg (by omega), gd_pos (by omega), cpr_out (c := 112) (j := 68) (by omega), hN, nrm_id (z := 69 + 13 * N + (i : Int)) (by omega) (by omega), gd_pos (by omega), nm_eq]
    have := ih (i + 1) n (by omega) (by omega)
    rw [show ((i + 1 : Nat) : Int) = (i : Int) + 1 by omega, ← cpr_step (by omega) (by omega), Int.zero_add] at this
    exact this
theorem notes_s {ρ : Mem} (hN : ρ 112 68 = 10) : ∀ (d k n : Nat), k + d = 117 → d < n → f_X12_notes_w14 n 111 k (cpr ρ 112 69 112 82 k) = some (0, ms (cpr (ms (cpr ρ 112 69 112 82 117) 112 68 9) 112 186 118 0 13) 112 68 10) := by
  intro d
  induction d with
  | zero =>
    intro i n h1 h2
    obtain ⟨n, rfl⟩ : ∃ m, n = m + 1 := ⟨n - 1, by omega⟩
    have hi : (i : Int) = 117 := by omega
    unfold f_X12_notes_w14
    rw [show (111 + 1 : Int) = 112 from rfl, hi, if_pos (Int.le_refl _), nm_eq, cpr_out (by omega), hN]
    have := notes_w (ρ := ms (cpr ρ 112 69 112 82 117) 112 68 9) (N := 9) (ms_eq _ _ _ _) (by decide) (by decide) 13 0 FU (by omega) (by unfold FU; omega)
    simp only [Int.ofNat_zero, Int.natCast_zero, cpr_0, Int.reduceAdd, Int.reduceMul] at this
    exact this
  | succ d ih =>
    intro i n h1 h2
    obtain ⟨n, rfl⟩ : ∃ m, n = m + 1 := ⟨n - 1, by omega⟩
    unfold f_X12_notes_w14
    rw [show (111 + 1 : Int) = 112 from rfl, show nrm 117 = 117 from rfl, nrm_id (z := (i : Int)) (by omega) (by omega), if_neg (by omega), nrm_id (z := 82 + (i : Int)) (by omega) (by omega), nrm_id (z := 69 + (i : Int)) (by omega) (by omega), gd_pos (by omega), gd_pos (by omega), nm_eq]
    have := ih (i + 1) n (by omega) (by omega)
    rw [show ((i + 1 : Nat) : Int) = (i : Int) + 1 by omega, ← cpr_step (by omega) (by omega)] at this
    exact this
def notesM (ρ : Mem) : Mem := if ρ 112 68 = 10 then ms (cpr (ms (cpr ρ 112 69 112 82 117) 112 68 9) 112 186 118 0 13) 112 68 10 else ms (cpr ρ 112 (69 + 13 * ρ 112 68) 118 0 13) 112 68 (ρ 112 68 + 1)
theorem notes_eq {ρ : Mem} (N0 : 0 ≤ ρ 112 68) (N10 : ρ 112 68 ≤ 10) : f_X12_notes 111 ρ = some (0, notesM ρ) := by
  unfold f_X12_notes notesM
  rw [show (111 + 1 : Int) = 112 from rfl, nrm_id (z := ρ 112 68) (by omega) (by omega), show nrm 10 = 10 from rfl]
  by_cases g : ρ 112 68 = 10
  · rw [if_pos g, if_pos g]
    have := notes_s g 117 0 FU (by omega) (by unfold FU; omega)
    simp only [Int.ofNat_zero, Int.natCast_zero, cpr_0] at this
    exact this
  · rw [if_neg g, if_neg g]
    have := notes_w (ρ := ρ) rfl N0 (by omega) 13 0 FU (by omega) (by unfold FU; omega)
    simp only [Int.ofNat_zero, Int.natCast_zero, cpr_0] at this
    exact this
theorem nt_o {ρ : Mem} {c i : Int} (N0 : 0 ≤ ρ 112 68) (N10 : ρ 112 68 ≤ 10) (h : c ≠ 112 ∨ i < 68 ∨ 199 ≤ i) : notesM ρ c i = ρ c i := by
  unfold notesM cpr ms
  split <;> simp only []
  · rw [if_neg (by omega), if_neg (by omega), if_neg (by omega), if_neg (by omega)]
  · rw [if_neg (by omega), if_neg (by omega)]
theorem nt_n {ρ : Mem} : notesM ρ 112 68 = if ρ 112 68 = 10 then 10 else ρ 112 68 + 1 := by
  unfold notesM
  split <;> rw [ms_eq]
theorem nt_new {ρ : Mem} {j : Int} (N0 : 0 ≤ ρ 112 68) (N10 : ρ 112 68 ≤ 10) (j0 : 0 ≤ j) (j1 : j < 13) : notesM ρ 112 (69 + 13 * (if ρ 112 68 = 10 then 9 else ρ 112 68) + j) = ρ 118 j := by
  unfold notesM
  split
  · rw [ms_ni (by omega), cpr_in (by omega) (by omega), ms_nc (by decide), cpr_nc (by decide)]
    congr 1
    omega
  · rw [ms_ni (by omega), cpr_in (by omega) (by omega)]
    congr 1
    omega
theorem nt_old {ρ : Mem} {j k : Int} (N0 : 0 ≤ ρ 112 68) (N10 : ρ 112 68 ≤ 10) (k0 : 0 ≤ k) (k1 : k < (if ρ 112 68 = 10 then 9 else ρ 112 68)) (j0 : 0 ≤ j) (j1 : j < 13) : notesM ρ 112 (69 + 13 * k + j) = ρ 112 (69 + 13 * (if ρ 112 68 = 10 then k + 1 else k) + j) := by
  unfold notesM
  by_cases g : ρ 112 68 = 10
  · rw [if_pos g] at k1
    rw [if_pos g, if_pos g, ms_ni (by omega), cpr_out (by omega), ms_ni (by omega), cpr_in (by omega) (by omega)]
    congr 1
    omega
  · rw [if_neg g] at k1
    rw [if_neg g, if_neg g, ms_ni (by omega), cpr_out (by omega)]
def keepM (μ : Mem) (X : Int) : Mem := ms (ms (tko μ (64 + 2 * μ 62 1) X) 62 1 ((μ 62 1 + 1) % 10)) 62 2 (if μ 62 2 = 10 then 10 else μ 62 2 + 1)
theorem keep_eq {μ : Mem} {X : Int} (hX : X = 58 ∨ X = 60) (n0 : 0 ≤ μ 62 1) (n9 : μ 62 1 < 10) (s0 : 0 ≤ μ 62 2) (s10 : μ 62 2 ≤ 10) : f_X2_keep 62 X μ = some (0, keepM μ X) := by
  have kX : isK X 0 := by rcases hX with e | e <;> subst e <;> first | exact kk_58 | exact kk_60
  unfold f_X2_keep keepM
  simp only [Int.reduceAdd]
  rw [nrm_id (z := μ 62 1) (by omega) (by omega), show nrm 10 = 10 from rfl, if_neg (by omega), if_neg (by omega), gd_pos (by omega), if_neg (by omega), gd_pos (by omega), bn_eq (takeOver_eq μ kX (by omega) (by omega) (by omega)), nm_eq, tko_nc (c := 62) (by omega) (by omega), jrem_nn (by omega) (by omega) (by decide) (by decide), ms_ni (i' := 2) (by decide), tko_nc (c := 62) (by omega) (by omega), bn_eq (min_eq _ rfl (nrm_id (by omega) (by omega))), nm_eq]
  congr 3
  split <;> split <;> omega
theorem kp_o {μ : Mem} {X c i : Int} (n0 : 0 ≤ μ 62 1) (n9 : μ 62 1 < 10) (h : ¬ (62 ≤ c ∧ c ≤ 83)) : keepM μ X c i = μ c i := by
  unfold keepM
  rw [ms_nc (by omega), ms_nc (by omega), tko_nc (by omega) (by omega)]
def wasA (ρ : Mem) : Int → Int := fun i => if 55 ≤ i ∧ i < 68 then ρ 118 (i - 55) else ρ 112 i
theorem CR_mv {μ : Mem} {C o o' : Int} {A A' : Int → Int} (h2 : A 2 ≤ 9) (e1 : A' 1 = A 1) (e2 : A' 2 = A 2) (e3 : A' 3 = A 3) (hA : ∀ j, 0 ≤ j → j < 13 → A' (o' + j) = A (o + j)) (h : CR μ C A o) : CR μ C A' o' := by
  obtain ⟨a, b, c, d, e⟩ := h
  have h0 := hA 0 (by decide) (by decide)
  rw [Int.add_zero, Int.add_zero] at h0
  refine ⟨?_, ?_, ?_, ?_, ?_⟩
  · rw [h0, e1]; exact a
  · rw [hA 11 (by decide) (by decide)]; exact b
  · rw [hA 10 (by decide) (by decide), e3]; exact c
  · rw [hA 12 (by decide) (by decide)]; exact d
  · intro l l1 l2
    rw [e2] at l2
    rw [Int.add_assoc, hA (1 + l) (by omega) (by omega), ← Int.add_assoc]
    exact e l l1 l2
theorem hist_push {μ ρ : Mem} {X : Int} (hX : X = 58 ∨ X = 60) (h9 : ρ 112 2 ≤ 9) (h : HistR μ ρ) (hc : CR μ X (wasA ρ) 55) (hl : μ X 0 = μ 58 0) : HistR (keepM μ X) (notesM ρ) := by
  obtain ⟨h1, h2, h3, h4, h5, h6⟩ := h
  have e58 : keepM μ X 58 0 = μ 58 0 := kp_o h4 h5 (by decide)
  have e621 : keepM μ X 62 1 = (μ 62 1 + 1) % 10 := by
    unfold keepM
    rw [ms_ni (by decide), ms_eq]
  have e622 : keepM μ X 62 2 = if ρ 112 68 = 10 then 10 else ρ 112 68 + 1 := by
    unfold keepM
    rw [ms_eq, h1]
  have r1 : notesM ρ 112 1 = ρ 112 1 := nt_o h2 h3 (by omega)
  have r2 : notesM ρ 112 2 = ρ 112 2 := nt_o h2 h3 (by omega)
  have r3 : notesM ρ 112 3 = ρ 112 3 := nt_o h2 h3 (by omega)
  unfold HistR
  rw [e58, e621, e622, nt_n]
  refine ⟨rfl, by split <;> omega, by split <;> omega, by omega, by omega, ?_⟩
  intro k k0 k1
  by_cases last : k = (if ρ 112 68 = 10 then 9 else ρ 112 68)
  · have ei : ((μ 62 1 + 1) % 10 - (if ρ 112 68 = 10 then 10 else ρ 112 68 + 1) + k) % 10 = μ 62 1 := by
      by_cases g : ρ 112 68 = 10
      · rw [if_pos g] at last ⊢; omega
      · rw [if_neg g] at last ⊢; omega
    rw [ei]
    refine ⟨?_, ?_⟩
    · refine CR_mv (A := wasA ρ) (o := 55) ?_ ?_ ?_ ?_ ?_ (CR_co ?_ ?_ (CR_tko (d := 64 + 2 * μ 62 1) ?_ hc))
      · exact h9
      · rw [rowA_0, r1]; rfl
      · rw [rowA_0, r2]; rfl
      · rw [rowA_0, r3]; rfl
      · intro j j0 j1
        rw [rowA_0, last, nt_new h2 h3 j0 j1]
        unfold wasA
        rw [if_pos (by omega)]
        congr 1
        omega
      · intro i; unfold keepM; rw [ms_nc (by omega), ms_nc (by omega)]
      · intro i; unfold keepM; rw [ms_nc (by omega), ms_nc (by omega)]
      · exact h9
    · unfold keepM
      rw [ms_nc (by omega), ms_nc (by omega), tko_at (by decide) (by decide), hl]
  · have hk : k < (if ρ 112 68 = 10 then 9 else ρ 112 68) := by
      by_cases g : ρ 112 68 = 10
      · rw [if_pos g] at last k1 ⊢; omega
      · rw [if_neg g] at last k1 ⊢; omega
    have hb : 0 ≤ (if ρ 112 68 = 10 then k + 1 else k) ∧ (if ρ 112 68 = 10 then k + 1 else k) < ρ 112 68 := by
      by_cases g : ρ 112 68 = 10
      · rw [if_pos g] at hk ⊢; omega
      · rw [if_neg g] at hk ⊢; omega
    obtain ⟨g1, g2⟩ := h6 _ hb.1 hb.2
    have ei : ((μ 62 1 + 1) % 10 - (if ρ 112 68 = 10 then 10 else ρ 112 68 + 1) + k) % 10 = (μ 62 1 - ρ 112 68 + (if ρ 112 68 = 10 then k + 1 else k)) % 10 := by
      by_cases g : ρ 112 68 = 10
      · rw [if_pos g, if_pos g]; omega
      · rw [if_neg g, if_neg g]; omega
    have en : (μ 62 1 - ρ 112 68 + (if ρ 112 68 = 10 then k + 1 else k)) % 10 ≠ μ 62 1 := by
      by_cases g : ρ 112 68 = 10
      · rw [if_pos g] at hk ⊢; omega
      · rw [if_neg g] at hk ⊢; omega
    rw [ei]
    have hq0 : 0 ≤ (μ 62 1 - ρ 112 68 + (if ρ 112 68 = 10 then k + 1 else k)) % 10 ∧ (μ 62 1 - ρ 112 68 + (if ρ 112 68 = 10 then k + 1 else k)) % 10 < 10 := by omega
    generalize (μ 62 1 - ρ 112 68 + (if ρ 112 68 = 10 then k + 1 else k)) % 10 = q at g1 g2 en hq0
    have hq : ∀ c i, (c = 64 + 2 * q ∨ c = 64 + 2 * q + 1) → keepM μ X c i = μ c i := by
      intro c i hc
      unfold keepM
      rw [ms_nc (by omega), ms_nc (by omega), tko_nc (by omega) (by omega)]
    refine ⟨?_, ?_⟩
    · refine CR_mv (A := rowA ρ 0) ?_ ?_ ?_ ?_ ?_ (CR_co (fun i => hq _ i (.inl rfl)) (fun i => hq _ i (.inr rfl)) g1)
      · rw [rowA_0]; exact h9
      · rw [rowA_0, rowA_0, r1]
      · rw [rowA_0, rowA_0, r2]
      · rw [rowA_0, rowA_0, r3]
      · intro j j0 j1
        rw [rowA_0, rowA_0, nt_old h2 h3 k0 hk j0 j1]
    · rw [hq _ 0 (.inl rfl)]; exact g2
theorem RR_deed {μ μ' ρ ρ' : Mem} {La : Int} (h : RR μ ρ) (hL : isL La) (s : ∀ c i, ¬ (c = La + 7 ∧ i = 6) → c ≠ La + 11 → c ≠ La + 12 → ¬ (58 ≤ c ∧ c ≤ 83) → μ' c i = μ c i) (t : ∀ c i, EssR c i → ¬ (c = 112 ∧ 55 ≤ i ∧ i < 199) → ρ' c i = ρ c i) (n : NowR μ' ρ') (hh : HistR μ' ρ') : RR μ' ρ' := by
  obtain ⟨h1, h2, h3, h4, ⟨h5, h6, h7⟩, h8⟩ := h
  unfold isL at hL
  have aL : ∀ c i, 6 ≤ c → c < 58 → (c - 6) % 13 ≤ 10 → (c - 6) % 13 ≠ 7 → μ' c i = μ c i := fun c i c1 c2 c3 c4 => s c i (by omega) (by omega) (by omega) (by omega)
  have a0 : ∀ i, μ' 0 i = μ 0 i := fun i => s 0 i (by omega) (by omega) (by omega) (by omega)
  have a1 : ∀ i, μ' 1 i = μ 1 i := fun i => s 1 i (by omega) (by omega) (by omega) (by omega)
  have aH : ∀ c i, 84 ≤ c → μ' c i = μ c i := fun c i c1 => s c i (by omega) (by omega) (by omega) (by omega)
  have b3 : ∀ i, ρ' 113 i = ρ 113 i := fun i => t 113 i (by unfold EssR; omega) (by omega)
  refine ⟨TapeR_c (a0 1) a1 (t 111 5 (by unfold EssR; omega) (by omega)) (fun i => t 114 i (by unfold EssR; omega) (by omega)) h1,
    FaultR_c (a0 3) (a0 4) (t 111 13 (by unfold EssR; omega) (by omega)) (t 111 14 (by unfold EssR; omega) (by omega)) (fun i _ => aH 108 i (by decide)) h2, n, hh, ⟨?_, ?_, ?_⟩, ?_⟩
  · exact ImgR_c (.inl rfl) aL (fun j => aH _ j (by omega)) (fun j => aH _ j (by omega)) (b3 0) (fun j _ _ => t 112 _ (by unfold EssR; omega) (by omega)) h5
  · exact ImgR_c (.inr rfl) aL (fun j => aH _ j (by omega)) (fun j => aH _ j (by omega)) (b3 1) (fun j _ _ => t 112 _ (by unfold EssR; omega) (by omega)) h6
  · rw [a0, b3, b3]; exact h7
  · intro i i1 i2
    exact TrayR_c (fun j => aH _ j (by omega)) (fun j => aH _ j (by omega)) (t 126 _ (by unfold EssR; omega) (by omega)) (t 127 _ (by unfold EssR; omega) (by omega)) (fun j _ _ => t 128 _ (by unfold EssR; omega) (by omega)) (h8 i i1 i2)
theorem JR_tko {μ ρ : Mem} (h : JR μ 58 ρ) : JR (tko μ 60 58) 58 ρ ∧ JR (tko μ 60 58) 60 ρ ∧ tko μ 60 58 58 0 = μ 58 0 ∧ tko μ 60 58 60 0 = μ 58 0 := by
  obtain ⟨hL, hR, hK⟩ := h
  have hL' := hL
  unfold isL at hL'
  have e0 : tko μ 60 58 58 0 = μ 58 0 := tko_nc (by decide) (by decide)
  have e1 : tko μ 60 58 60 0 = μ 58 0 := tko_at (by decide) (by decide)
  have hR' : LR (tko μ 60 58) (μ 58 0) (rowA ρ 0) := LR_co hL (fun c i c1 c2 c3 => tko_nc (by omega) (by omega)) hR
  refine ⟨?_, ?_, e0, e1⟩
  · unfold JR
    rw [e0]
    exact ⟨hL, hR', CR_co (fun i => tko_nc (by decide) (by decide)) (fun i => tko_nc (by decide) (by decide)) hK⟩
  · unfold JR
    rw [e1]
    exact ⟨hL, hR', CR_tko (LR_2 hR) hK⟩
theorem JR_st {μ ρ : Mem} {C : Int} (h : JR μ C ρ) : JR μ C (cpr ρ 118 0 112 55 13) := by
  have e : rowA (cpr ρ 118 0 112 55 13) 0 = rowA ρ 0 := by
    funext i
    rw [rowA_0, rowA_0, cpr_nc (by decide)]
  unfold JR
  rw [e]
  exact h
/-- Deeds were done by now, and what was is kept. -/
theorem deed_done {μ ρ μ2 ρ1 ρ2 : Mem} (h : RR μ ρ) (s : ScD 58 (μ 58 0) (tko μ 60 58) μ2) (t1 : ScW ρ ρ1) (t2 : DcR (cpr ρ1 118 0 112 55 13) ρ2) (j : JR μ2 58 ρ2) :
    f_X2_keep 62 60 μ2 = some (0, keepM μ2 60) ∧ f_X12_notes 111 ρ2 = some (0, notesM ρ2) ∧ RR (keepM μ2 60) (notesM ρ2) := by
  have hL := h.2.2.1.1
  have hL' := hL
  unfold isL at hL'
  have hK := h.2.2.1.2.2
  have h9 := LR_2 h.2.2.1.2.1
  rw [rowA_0] at h9
  have em : ∀ c i, ¬ (c = μ 58 0 + 7 ∧ i = 6) → c ≠ μ 58 0 + 11 → c ≠ μ 58 0 + 12 → ¬ (58 ≤ c ∧ c ≤ 61) → μ2 c i = μ c i := by
    intro c i e1 e2 e3 e4
    rw [s.1 c i e1 e2 e3 (by omega) (by omega), tko_nc (by omega) (by omega)]
  have er : ∀ c i, c ≠ 116 → c ≠ 117 → c ≠ 118 → ¬ (c = 112 ∧ 55 ≤ i ∧ i < 68) → ¬ (c = 111 ∧ 19 ≤ i) → ρ2 c i = ρ c i := by
    intro c i e1 e2 e3 e4 e5
    rw [t2 c i e1 e2 e4 e5, cpr_nc e3, t1 c i e1 e2]
  have ew : ∀ j, 0 ≤ j → j < 13 → ρ2 118 j = ρ 112 (55 + j) := by
    intro j j0 j1
    rw [t2 118 j (by decide) (by decide) (by omega) (by omega), cpr_in (by omega) (by omega), t1 112 _ (by decide) (by decide)]
    congr 1
    omega
  have e58 : μ2 58 0 = μ 58 0 := by rw [s.2, tko_nc (by decide) (by decide)]
  have hH : HistR μ2 ρ2 := HistR_c e58 (fun c i c1 c2 => em c i (by omega) (by omega) (by omega) (by omega)) (fun i hi => er 112 i (by decide) (by decide) (by decide) (by omega) (by omega)) h9 h.2.2.2.1
  have g := hH
  obtain ⟨g1, g2, g3, g4, g5, _⟩ := g
  have e60 : ∀ i, μ2 60 i = tko μ 60 58 60 i := fun i => s.1 60 i (by omega) (by omega) (by omega) (by decide) (by decide)
  have e61 : ∀ i, μ2 61 i = tko μ 60 58 61 i := fun i => s.1 61 i (by omega) (by omega) (by omega) (by decide) (by decide)
  have hW : CR μ2 60 (wasA ρ2) 55 := by
    refine CR_mv (A := rowA ρ 0) (o := 55) (by rw [rowA_0]; exact h9) ?_ ?_ ?_ ?_ (CR_co e60 e61 (CR_tko (d := 60) (by rw [rowA_0]; exact h9) hK))
    · rw [rowA_0]; exact er 112 1 (by decide) (by decide) (by decide) (by omega) (by omega)
    · rw [rowA_0]; exact er 112 2 (by decide) (by decide) (by decide) (by omega) (by omega)
    · rw [rowA_0]; exact er 112 3 (by decide) (by decide) (by decide) (by omega) (by omega)
    · intro j j0 j1
      unfold wasA
      rw [if_pos (by omega), show 55 + j - 55 = j by omega, ew j j0 j1, rowA_0]
  have e6 : μ2 60 0 = μ2 58 0 := by rw [e60, tko_at (by decide) (by decide), e58]
  have h92 : ρ2 112 2 ≤ 9 := by rw [er 112 2 (by decide) (by decide) (by decide) (by omega) (by omega)]; exact h9
  refine ⟨keep_eq (.inr rfl) g4 g5 (by omega) (by omega), notes_eq g2 g3, ?_⟩
  refine RR_deed h hL ?_ ?_ ?_ (hist_push (.inr rfl) h92 hH hW e6)
  · intro c i e1 e2 e3 e4
    rw [kp_o g4 g5 (by omega), em c i e1 e2 e3 (by omega)]
  · intro c i e1 e2
    unfold EssR at e1
    rw [nt_o g2 g3 (by omega), er c i (by omega) (by omega) (by omega) (by omega) (by omega)]
  · exact NowR_c (fun c i c1 c2 _ _ => kp_o g4 g5 (by omega)) (fun i => kp_o g4 g5 (by decide)) (fun i => kp_o g4 g5 (by decide)) (fun i hi => nt_o g2 g3 (by omega)) j
/-- Deeds that left now as it was, or changed it and are undone. -/
theorem deed_not {μ ρ μ2 ρ2 : Mem} (h : RR μ ρ) (s : ScD 58 (μ 58 0) (tko μ 60 58) μ2) (t : DcR ρ ρ2) (j : JR μ2 58 ρ2) : RR μ2 ρ2 := by
  have hL := h.2.2.1.1
  have hL' := hL
  unfold isL at hL'
  have h9 := LR_2 h.2.2.1.2.1
  rw [rowA_0] at h9
  have em : ∀ c i, ¬ (c = μ 58 0 + 7 ∧ i = 6) → c ≠ μ 58 0 + 11 → c ≠ μ 58 0 + 12 → ¬ (58 ≤ c ∧ c ≤ 61) → μ2 c i = μ c i := by
    intro c i e1 e2 e3 e4
    rw [s.1 c i e1 e2 e3 (by omega) (by omega), tko_nc (by omega) (by omega)]
  have e58 : μ2 58 0 = μ 58 0 := by rw [s.2, tko_nc (by decide) (by decide)]
  have hH : HistR μ2 ρ2 := HistR_c e58 (fun c i c1 c2 => em c i (by omega) (by omega) (by omega) (by omega)) (fun i hi => t 112 i (by decide) (by decide) (by omega) (by omega)) h9 h.2.2.2.1
  refine RR_deed h hL ?_ ?_ j hH
  · intro c i e1 e2 e3 e4
    exact em c i e1 e2 e3 (by omega)
  · intro c i e1 e2
    unfold EssR at e1
    exact t c i (by omega) (by omega) (by omega) (by omega)
