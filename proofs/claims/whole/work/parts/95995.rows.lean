/-- The rows and counts of a land anew. -/
theorem LD_up {La N : Int} {μ μ' : Mem} {A A' : Int → Int} (h : LD La μ A N) (sL : ∀ i, i = 0 ∨ i = 3 ∨ i = 4 ∨ i = 5 ∨ i = 6 → μ' La i = μ La i) (s7 : ∀ c i, La + 7 ≤ c → c ≤ La + 10 → μ' c i = μ c i)
    (t : ∀ i, i = 0 ∨ i = 1 ∨ (4 ≤ i ∧ i ≤ 10) ∨ i = 55 ∨ 66 ≤ i → A' i = A i) (p1 : μ' La 1 = A' 2 ∧ 0 ≤ A' 2 ∧ A' 2 ≤ 9) (p2 : μ' La 2 = A' 3 ∧ 0 ≤ A' 3 ∧ A' 3 ≤ 8) (p7 : μ' La 7 = A' 65 ∧ 0 ≤ A' 65 ∧ A' 65 < 2 ^ (A' 3).toNat)
    (lanes : ∀ l, 0 ≤ l → l < A' 2 → LaneR μ' La A' l) (turns : ∀ p, 0 ≤ p → p < A' 3 → TurnR μ' La A' p)
    (nine : ∀ l, 0 ≤ l → l < 9 → (μ' (La + 3) l = A' (56 + l) ∧ 0 ≤ A' (56 + l) ∧ A' (56 + l) ≤ 6) ∧ (μ' (La + 4) l = A' (29 + l) ∧ 0 ≤ A' (29 + l) ∧ A' (29 + l) ≤ 9) ∧ (μ' (La + 5) l = A' (38 + l) ∧ 0 ≤ A' (38 + l) ∧ A' (38 + l) ≤ 10)) : LD La μ' A' N := by
  obtain ⟨⟨g1, g2, g3, g4, g5, g6, g7, g8, g9⟩, h2, h3, h4, h5, h6, h7, h8, h9, h10, h11, h12, h13⟩ := h
  have hw : ∀ w, (w = 0 ∨ w = 1) → LawR μ La A w → LawR μ' La A' w := by
    intro w hw h
    unfold LawR at h ⊢
    rw [t (5 + w) (by omega), t (7 + w) (by omega), t (9 + w) (by omega), s7 (La + 9) w (by omega) (by omega), s7 (La + 10) w (by omega) (by omega)]
    rcases h with h | ⟨a, b, c, d, e, f, g, k⟩
    · exact .inl h
    · refine .inr ⟨a, b, c, d, e, f, ?_, ?_⟩
      · intro j j1 j2
        rw [s7 (La + 8) j (by omega) (by omega), t (200 + j) (by omega)]
        exact g j j1 j2
      · rw [tyR_cg2 (cd' := fun j => A (200 + j)) _ _ _ (fun i i0 i1 => t (200 + i) (by omega))]
        exact k
  refine ⟨⟨by rw [sL 0 (by omega), t 1 (by omega)]; exact g1, p1, p2, by rw [sL 3 (by omega), t 0 (by omega)]; exact g4, by rw [sL 5 (by omega), t 4 (by omega)]; exact g5, lanes, turns, hw 0 (.inl rfl) g8, hw 1 (.inr rfl) g9⟩, by rw [sL 4 (by omega), t 55 (by omega), t 1 (by omega)]; exact h2, by rw [sL 6 (by omega), t 66 (by omega)]; exact h3, p7, nine, by rw [t 67 (by omega)]; exact h6, by rw [t 68 (by omega)]; exact h7, by rw [t 199 (by omega)]; exact h8, by rw [s7 (La + 7) 1 (by omega) (by omega)]; exact h9, h10, ?_, by rw [t 5 (by omega), t 7 (by omega), t 9 (by omega)]; exact h12, by rw [t 6 (by omega), t 8 (by omega), t 10 (by omega)]; exact h13⟩
  intro j j0 j1
  rw [s7 (La + 8) j (by omega) (by omega), t (200 + j) (by omega)]
  exact h11 j j0 j1
/-- One element of a row anew, behind what was told. -/
theorem LD_row {La N k g j v : Int} {μ : Mem} {A : Int → Int} (h : LD La μ A N) (j0 : 0 ≤ j) (hk : (k = 1 ∧ g = 11 + j ∧ A 2 ≤ j ∧ j < 9) ∨ (k = 2 ∧ g = 20 + j ∧ A 2 ≤ j ∧ j < 9) ∨ (k = 3 ∧ g = 56 + j ∧ A 2 ≤ j ∧ j < 9 ∧ 0 ≤ v ∧ v ≤ 6) ∨ (k = 4 ∧ g = 29 + j ∧ A 2 ≤ j ∧ j < 9 ∧ 0 ≤ v ∧ v ≤ 9) ∨ (k = 5 ∧ g = 38 + j ∧ A 2 ≤ j ∧ j < 9 ∧ 0 ≤ v ∧ v ≤ 10) ∨ (k = 6 ∧ g = 47 + j ∧ A 3 ≤ j ∧ j < 8)) : LD La (ms μ (La + k) j v) (upF A g v) N := by
  have s : ∀ c i, ¬ (c = La + k ∧ i = j) → ms μ (La + k) j v c i = μ c i := fun c i hc => by rw [ms_at, if_neg hc]
  have t : ∀ i, i ≠ g → upF A g v i = A i := fun i hi => upF_ne hi
  have hh := h
  obtain ⟨⟨g1, g2, g3, g4, g5, g6, g7, g8, g9⟩, h2, h3, h4, h5, h6, h7, h8, h9, h10, h11, h12, h13⟩ := h
  refine LD_up hh (fun i hi => s La i (by omega)) (fun c i c1 c2 => s c i (by omega)) (fun i hi => t i (by omega)) (by rw [s La 1 (by omega), t 2 (by omega)]; exact g2) (by rw [s La 2 (by omega), t 3 (by omega)]; exact g3) (by rw [s La 7 (by omega), t 65 (by omega), t 3 (by omega)]; exact h4) ?_ ?_ ?_
  · intro l l0 l1
    rw [t 2 (by omega)] at l1
    have := g6 l l0 l1
    unfold LaneR at this ⊢
    rw [t 1 (by omega), t (11 + l) (by omega), t (20 + l) (by omega), t (29 + l) (by omega), t (38 + l) (by omega), s (La + 1) l (by omega), s (La + 2) l (by omega), s (La + 4) l (by omega), s (La + 5) l (by omega)]
    exact this
  · intro p p0 p1
    rw [t 3 (by omega)] at p1
    have := g7 p p0 p1
    unfold TurnR at this ⊢
    rw [t (47 + p) (by omega), s (La + 6) p (by omega)]
    exact this
  · intro l l0 l1
    obtain ⟨x3, x4, x5⟩ := h5 l l0 l1
    refine ⟨?_, ?_, ?_⟩
    · by_cases q : k = 3 ∧ l = j
      · rw [show La + 3 = La + k by omega, q.2, ms_eq, show 56 + j = g by omega, upF_eq]
        omega
      · rw [s (La + 3) l (by omega), t (56 + l) (by omega)]
        exact x3
    · by_cases q : k = 4 ∧ l = j
      · rw [show La + 4 = La + k by omega, q.2, ms_eq, show 29 + j = g by omega, upF_eq]
        omega
      · rw [s (La + 4) l (by omega), t (29 + l) (by omega)]
        exact x4
    · by_cases q : k = 5 ∧ l = j
      · rw [show La + 5 = La + k by omega, q.2, ms_eq, show 38 + j = g by omega, upF_eq]
        omega
      · rw [s (La + 5) l (by omega), t (38 + l) (by omega)]
        exact x5
/-- One lane more. -/
theorem LD_lane {La N L : Int} {μ : Mem} {A : Int → Int} (h : LD La μ A N) (hL : A 2 = L) (l9 : L < 9) (x1 : μ (La + 1) L = A (11 + L) ∧ 0 ≤ A (11 + L) ∧ A (11 + L) < A 1) (x2 : μ (La + 2) L = A (20 + L) ∧ 0 ≤ A (20 + L) ∧ A (20 + L) < A 1) (x3 : A (11 + L) ≠ A (20 + L)) : LD La (ms μ La 1 (L + 1)) (upF A 2 (L + 1)) N := by
  have s : ∀ c i, ¬ (c = La ∧ i = 1) → ms μ La 1 (L + 1) c i = μ c i := fun c i hc => by rw [ms_at, if_neg hc]
  have t : ∀ i, i ≠ 2 → upF A 2 (L + 1) i = A i := fun i hi => upF_ne hi
  have hh := h
  obtain ⟨⟨g1, g2, g3, g4, g5, g6, g7, g8, g9⟩, h2, h3, h4, h5, h6, h7, h8, h9, h10, h11, h12, h13⟩ := h
  refine LD_up hh (fun i hi => s La i (by omega)) (fun c i c1 c2 => s c i (by omega)) (fun i hi => t i (by omega)) ⟨by rw [ms_eq, upF_eq], by rw [upF_eq]; omega, by rw [upF_eq]; omega⟩ (by rw [s La 2 (by omega), t 3 (by omega)]; exact g3) (by rw [s La 7 (by omega), t 65 (by omega), t 3 (by omega)]; exact h4) ?_ ?_ ?_
  · intro l l0 l1
    rw [upF_eq] at l1
    unfold LaneR
    rw [t 1 (by omega), t (11 + l) (by omega), t (20 + l) (by omega), t (29 + l) (by omega), t (38 + l) (by omega), s (La + 1) l (by omega), s (La + 2) l (by omega), s (La + 4) l (by omega), s (La + 5) l (by omega)]
    by_cases q : l = L
    · rw [q]
      obtain ⟨y3, y4, y5⟩ := h5 L (by omega) l9
      exact ⟨x1.1, x1.2.1, x1.2.2, x2.1, x2.2.1, x2.2.2, x3, y4.1, y4.2.1, y4.2.2, y5.1, y5.2.1, y5.2.2⟩
    · have := g6 l l0 (by omega)
      unfold LaneR at this
      exact this
  · intro p p0 p1
    rw [t 3 (by omega)] at p1
    have := g7 p p0 p1
    unfold TurnR at this ⊢
    rw [t (47 + p) (by omega), s (La + 6) p (by omega)]
    exact this
  · intro l l0 l1
    rw [s (La + 3) l (by omega), s (La + 4) l (by omega), s (La + 5) l (by omega), t (56 + l) (by omega), t (29 + l) (by omega), t (38 + l) (by omega)]
    exact h5 l l0 l1
theorem BS_no {n La a K V k : Int} {T : Int → Int} {μ ρ : Mem} (h : BS n T La μ ρ a K V) (hk : kOk k) (z : K ≠ k) : f_X12_eats 111 k ρ = some (0, ρ) := by
  have hi := BS_is h hk
  rw [if_neg z] at hi
  unfold f_X12_eats
  rw [bn_eq hi, if_pos (by decide : nrm 0 = 0)]
theorem BS_yes {n La a K V k : Int} {T : Int → Int} {μ ρ ρ' : Mem} (h : BS n T La μ ρ a K V) (hk : kOk k) (z : K = k) (y : f_X12_next 111 ρ = some (0, ρ')) : f_X12_eats 111 k ρ = some (1, ρ') := by
  have hi := BS_is h hk
  rw [if_pos z] at hi
  unfold f_X12_eats
  rw [bn_eq hi, if_neg (by decide : ¬ nrm 1 = 0), bn_eq y]
/-- An element of a row, on both sides. -/
theorem LS_row {n La a K V N k g j v : Int} {T : Int → Int} {μ ρ : Mem} (h : LnS n T La μ ρ a K V N) (j0 : 0 ≤ j) (hk : (k = 1 ∧ g = 11 + j ∧ ρ 115 2 ≤ j ∧ j < 9) ∨ (k = 2 ∧ g = 20 + j ∧ ρ 115 2 ≤ j ∧ j < 9) ∨ (k = 3 ∧ g = 56 + j ∧ ρ 115 2 ≤ j ∧ j < 9 ∧ 0 ≤ v ∧ v ≤ 6) ∨ (k = 4 ∧ g = 29 + j ∧ ρ 115 2 ≤ j ∧ j < 9 ∧ 0 ≤ v ∧ v ≤ 9) ∨ (k = 5 ∧ g = 38 + j ∧ ρ 115 2 ≤ j ∧ j < 9 ∧ 0 ≤ v ∧ v ≤ 10) ∨ (k = 6 ∧ g = 47 + j ∧ ρ 115 3 ≤ j ∧ j < 8)) : LnS n T La (ms μ (La + k) j v) (ms ρ 115 g v) a K V N := by
  obtain ⟨hB, hD, hN⟩ := h
  have hL := hB.2.2.2
  have hLo := hL
  unfold isL at hLo
  refine ⟨BS_co hB (fun i => ms_nc (by omega)) (fun i => ms_nc (by omega)) (fun i _ _ => ms_nc (by omega)) (fun i => ms_nc (by decide)) (fun i => ms_nc (by decide)), ?_, hN⟩
  rw [up115]
  exact LD_row hD j0 hk
