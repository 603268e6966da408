theorem tyR_cg {w : Int} {f g : Int → Int} : ∀ (n : Nat) (k : Int) (s : List Bool), (∀ j, k ≤ j → j < k + n → f j = g j) → tyR w f n k s = tyR w g n k s := by
  intro n
  induction n with
  | zero => intros; rfl
  | succ n ih =>
    intro k s h
    unfold tyR
    rw [h k (by omega) (by omega)]
    congr 1
    funext t
    exact ih (k + 1) t (fun j h1 h2 => h j (by omega) (by omega))
theorem LR_cA {μ : Mem} {La : Int} {A A' : Int → Int} (hA : ∀ j, (0 ≤ j ∧ j < 55) ∨ (200 ≤ j ∧ j < 1100) → A' j = A j) (h : LR μ La A) : LR μ La A' := by
  obtain ⟨h1, h2, h3, h4, h5, h6, h7, h8, h9⟩ := h
  have hw : ∀ w, (w = 0 ∨ w = 1) → LawR μ La A w → LawR μ La A' w := by
    intro w hw h
    unfold LawR at h ⊢
    rw [hA (5 + w) (by omega), hA (7 + w) (by omega), hA (9 + w) (by omega)]
    rcases h with h | ⟨a, b, c, d, e, f, g, k⟩
    · exact .inl h
    · refine .inr ⟨a, b, c, d, e, f, ?_, ?_⟩
      · intro j j1 j2
        rw [hA (200 + j) (by omega)]
        exact g j j1 j2
      · rw [← k]
        apply tyR_cg
        intro j j1 j2
        exact hA (200 + j) (by omega)
  have e2 : A' 2 = A 2 := hA 2 (by omega)
  have e3 : A' 3 = A 3 := hA 3 (by omega)
  refine ⟨?_, ?_, ?_, ?_, ?_, ?_, ?_, hw 0 (.inl rfl) h8, hw 1 (.inr rfl) h9⟩
  · rw [hA 1 (by omega)]; exact h1
  · rw [e2]; exact h2
  · rw [e3]; exact h3
  · rw [hA 0 (by omega)]; exact h4
  · rw [hA 4 (by omega)]; exact h5
  · intro l l1 l2
    have h := h6 l l1 (by omega)
    unfold LaneR at h ⊢
    rw [hA 1 (by omega), hA (11 + l) (by omega), hA (20 + l) (by omega), hA (29 + l) (by omega), hA (38 + l) (by omega)]
    exact h
  · intro l l1 l2
    have h := h7 l l1 (by omega)
    unfold TurnR at h ⊢
    rw [hA (47 + l) (by omega)]
    exact h
theorem CR_cA {μ : Mem} {C o : Int} {A A' : Int → Int} (h2 : A 2 ≤ 9) (e1 : A' 1 = A 1) (e2 : A' 2 = A 2) (e3 : A' 3 = A 3) (hA : ∀ j, o ≤ j → j < o + 13 → A' j = A j) (h : CR μ C A o) : CR μ C A' o := by
  obtain ⟨a, b, c, d, e⟩ := h
  refine ⟨?_, ?_, ?_, ?_, ?_⟩
  · rw [hA o (by omega) (by omega), e1]; exact a
  · rw [hA (o + 11) (by omega) (by omega)]; exact b
  · rw [hA (o + 10) (by omega) (by omega), e3]; exact c
  · rw [hA (o + 12) (by omega) (by omega)]; exact d
  · intro l l1 l2
    rw [e2] at l2
    rw [hA (o + 1 + l) (by omega) (by omega)]
    exact e l l1 l2
theorem LR_2 {μ : Mem} {La : Int} {A : Int → Int} (h : LR μ La A) : A 2 ≤ 9 := h.2.1.2.2

/-- All but the trays. -/
def RA (μ ρ : Mem) : Prop := TapeR μ ρ ∧ FaultR μ ρ ∧ NowR μ ρ ∧ HistR μ ρ ∧ (ImgR μ ρ 0 ∧ ImgR μ ρ 1 ∧ μ 0 10 = ρ 113 0 + 2 * ρ 113 1)
theorem RR_of {μ ρ : Mem} (h : RA μ ρ) (t : ∀ t, 0 ≤ t → t < 4 → TrayR μ ρ t) : RR μ ρ := ⟨h.1, h.2.1, h.2.2.1, h.2.2.2.1, h.2.2.2.2, t⟩
theorem RA_of {μ ρ : Mem} (h : RR μ ρ) : RA μ ρ := ⟨h.1, h.2.1, h.2.2.1, h.2.2.2.1, h.2.2.2.2.1⟩
theorem TapeR_c {μ μ' ρ ρ' : Mem} (a : μ' 0 1 = μ 0 1) (b : ∀ i, μ' 1 i = μ 1 i) (c : ρ' 111 5 = ρ 111 5) (d : ∀ i, ρ' 114 i = ρ 114 i) (h : TapeR μ ρ) : TapeR μ' ρ' := by
  unfold TapeR at h ⊢
  simp only [a, b, c, d]
  exact h
theorem FaultR_c {μ μ' ρ ρ' : Mem} (a : μ' 0 3 = μ 0 3) (b : μ' 0 4 = μ 0 4) (c : ρ' 111 13 = ρ 111 13) (d : ρ' 111 14 = ρ 111 14) (o : ∀ i, (i = 0 ∨ i = 1) → μ' 108 i = μ 108 i) (h : FaultR μ ρ) : FaultR μ' ρ' := by
  unfold FaultR OddR at h ⊢
  simp only [a, b, c, d, o 0 (.inl rfl), o 1 (.inr rfl)]
  exact h
theorem NowR_c {μ μ' ρ ρ' : Mem} (a : ∀ c i, 6 ≤ c → c < 58 → (c - 6) % 13 ≤ 10 → (c - 6) % 13 ≠ 7 → μ' c i = μ c i) (b : ∀ i, μ' 58 i = μ 58 i) (c : ∀ i, μ' 59 i = μ 59 i) (d : ∀ i, (0 ≤ i ∧ i < 68) ∨ (200 ≤ i ∧ i < 1100) → ρ' 112 i = ρ 112 i) (h : NowR μ ρ) : NowR μ' ρ' := by
  obtain ⟨h1, h2, h3⟩ := h
  have hA : ∀ i, (0 ≤ i ∧ i < 68) ∨ (200 ≤ i ∧ i < 1100) → rowA ρ' 0 i = rowA ρ 0 i := by
    intro i hi
    simp only [rowA, Int.zero_add]
    exact d i hi
  unfold NowR
  rw [b]
  refine ⟨h1, LR_cA (A := rowA ρ 0) (fun j hj => hA j (by omega)) (LR_co h1 ?_ h2), CR_cA (A := rowA ρ 0) (LR_2 h2) (hA 1 (by omega)) (hA 2 (by omega)) (hA 3 (by omega)) (fun j j1 j2 => hA j (by omega)) (CR_co b c h3)⟩
  intro c i c1 c2 c3
  unfold isL at h1
  exact a c i (by omega) (by omega) (by omega) (by omega)
theorem HistR_c {μ μ' ρ ρ' : Mem} (a : μ' 58 0 = μ 58 0) (b : ∀ c i, 62 ≤ c → c < 84 → μ' c i = μ c i) (d : ∀ i, (i = 1 ∨ i = 2 ∨ i = 3) ∨ (68 ≤ i ∧ i < 199) → ρ' 112 i = ρ 112 i) (h9 : ρ 112 2 ≤ 9) (h : HistR μ ρ) : HistR μ' ρ' := by
  obtain ⟨h1, h2, h3, h4, h5, h6⟩ := h
  have hA : ∀ i, (i = 1 ∨ i = 2 ∨ i = 3) ∨ (68 ≤ i ∧ i < 199) → rowA ρ' 0 i = rowA ρ 0 i := by
    intro i hi
    simp only [rowA, Int.zero_add]
    exact d i hi
  unfold HistR
  rw [a, b 62 2 (by omega) (by omega), b 62 1 (by omega) (by omega), d 68 (by omega)]
  refine ⟨h1, h2, h3, h4, h5, fun k k1 k2 => ?_⟩
  obtain ⟨g1, g2⟩ := h6 k k1 k2
  refine ⟨CR_cA (A := rowA ρ 0) (by simpa [rowA] using h9) (hA 1 (by omega)) (hA 2 (by omega)) (hA 3 (by omega)) (fun j j1 j2 => hA j (by omega)) (CR_co (fun i => b _ i (by omega) (by omega)) (fun i => b _ i (by omega) (by omega)) g1), ?_⟩
  rw [b _ 0 (by omega) (by omega)]
  exact g2
theorem ImgR_c {μ μ' ρ ρ' : Mem} {i : Int} (hi : i = 0 ∨ i = 1) (a : ∀ c i, 6 ≤ c → c < 58 → (c - 6) % 13 ≤ 10 → (c - 6) % 13 ≠ 7 → μ' c i = μ c i) (b : ∀ j, μ' (85 + 2 * i) j = μ (85 + 2 * i) j) (c : ∀ j, μ' (85 + 2 * i + 1) j = μ (85 + 2 * i + 1) j) (d : ρ' 113 i = ρ 113 i) (e : ∀ j, 0 ≤ j → j < 1100 → ρ' 112 (1100 * (i + 1) + j) = ρ 112 (1100 * (i + 1) + j)) (h : ImgR μ ρ i) : ImgR μ' ρ' i := by
  obtain ⟨h1, h2, h3⟩ := h
  unfold ImgR
  rw [d, b]
  refine ⟨h1, h2, fun x => ?_⟩
  obtain ⟨g1, g2⟩ := h3 x
  refine ⟨LR_cA (A := rowA ρ (1100 * (i + 1))) (fun j hj => e j (by omega) (by omega)) (LR_co h2 ?_ g1), CR_cA (A := rowA ρ (1100 * (i + 1))) (LR_2 g1) (e 1 (by omega) (by omega)) (e 2 (by omega) (by omega)) (e 3 (by omega) (by omega)) (fun j j1 j2 => e j (by omega) (by omega)) (CR_co b c g2)⟩
  intro c i c1 c2 c3
  unfold isL at h2
  exact a c i (by omega) (by omega) (by omega) (by omega)
theorem TrayR_c {μ μ' ρ ρ' : Mem} {t : Int} (a : ∀ j, μ' (90 + 2 * t) j = μ (90 + 2 * t) j) (b : ∀ j, μ' (91 + 2 * t) j = μ (91 + 2 * t) j) (c : ρ' 126 t = ρ 126 t) (d : ρ' 127 t = ρ 127 t) (e : ∀ j, 0 ≤ j → j < 40 → ρ' 128 (40 * t + j) = ρ 128 (40 * t + j)) (h : TrayR μ ρ t) : TrayR μ' ρ' t := by
  unfold TrayR at h ⊢
  rw [a, a, a, c, d]
  rcases h with h | ⟨g1, g2, g3, g4, g5, g6, g7, g8⟩
  · exact .inl h
  · refine .inr ⟨g1, g2, g3, g4, g5, g6, g7, fun j j1 j2 => ?_⟩
    rw [b, e j j1 (by omega)]
    exact g8 j j1 j2
theorem RA_c {μ μ' ρ ρ' : Mem} (a : ∀ c i, (c < 90 ∨ 97 < c) → EssC c i → μ' c i = μ c i) (b : ∀ c i, c < 126 → EssR c i → ρ' c i = ρ c i) (h : RA μ ρ) : RA μ' ρ' := by
  obtain ⟨h1, h2, h3, h4, h5, h6, h7⟩ := h
  have aL : ∀ c i, 6 ≤ c → c < 58 → (c - 6) % 13 ≤ 10 → (c - 6) % 13 ≠ 7 → μ' c i = μ c i := fun c i c1 c2 c3 c4 => a c i (by omega) (by unfold EssC; omega)
  have a0 : ∀ i, μ' 0 i = μ 0 i := fun i => a 0 i (by omega) (by unfold EssC; omega)
  have b2 : ∀ i, ρ' 112 i = ρ 112 i := fun i => b 112 i (by omega) (by unfold EssR; omega)
  have b3 : ∀ i, ρ' 113 i = ρ 113 i := fun i => b 113 i (by omega) (by unfold EssR; omega)
  have h9 : ρ 112 2 ≤ 9 := by
    have := LR_2 h3.2.1
    simpa [rowA] using this
  refine ⟨TapeR_c (a0 1) (fun i => a 1 i (by omega) (by unfold EssC; omega)) (b 111 5 (by omega) (by unfold EssR; omega)) (fun i => b 114 i (by omega) (by unfold EssR; omega)) h1,
    FaultR_c (a0 3) (a0 4) (b 111 13 (by omega) (by unfold EssR; omega)) (b 111 14 (by omega) (by unfold EssR; omega)) (fun i hi => a 108 i (by omega) (by unfold EssC; omega)) h2,
    NowR_c aL (fun i => a 58 i (by omega) (by unfold EssC; omega)) (fun i => a 59 i (by omega) (by unfold EssC; omega)) (fun i _ => b2 i) h3,
    HistR_c (a 58 0 (by omega) (by unfold EssC; omega)) (fun c i c1 c2 => a c i (by omega) (by unfold EssC; omega)) (fun i _ => b2 i) h9 h4,
    ImgR_c (.inl rfl) aL (fun j => a _ j (by omega) (by unfold EssC; omega)) (fun j => a _ j (by omega) (by unfold EssC; omega)) (b3 0) (fun j _ _ => b2 _) h5,
    ImgR_c (.inr rfl) aL (fun j => a _ j (by omega) (by unfold EssC; omega)) (fun j => a _ j (by omega) (by unfold EssC; omega)) (b3 1) (fun j _ _ => b2 _) h6, ?_⟩
  rw [a0, b3, b3]; exact h7
