/-- The land that is being read, on both sides. -/
def LD (La : Int) (μ : Mem) (A : Int → Int) (N : Int) : Prop := LR μ La A ∧ (μ La 4 = A 55 ∧ 0 ≤ A 55 ∧ A 55 < A 1) ∧ (μ La 6 = A 66 ∧ 0 ≤ A 66 ∧ A 66 ≤ 9) ∧ (μ La 7 = A 65 ∧ 0 ≤ A 65 ∧ A 65 < 2 ^ (A 3).toNat) ∧
  (∀ l, 0 ≤ l → l < 9 → (μ (La + 3) l = A (56 + l) ∧ 0 ≤ A (56 + l) ∧ A (56 + l) ≤ 6) ∧ (μ (La + 4) l = A (29 + l) ∧ 0 ≤ A (29 + l) ∧ A (29 + l) ≤ 9) ∧ (μ (La + 5) l = A (38 + l) ∧ 0 ≤ A (38 + l) ∧ A (38 + l) ≤ 10)) ∧
  A 67 = 0 ∧ A 68 = 0 ∧ A 199 = N ∧ μ (La + 7) 1 = N ∧ 0 ≤ N ∧ (∀ j, 0 ≤ j → j < N → μ (La + 8) j = phi (A (200 + j))) ∧ (A 5 = 1 → A 7 + A 9 ≤ N) ∧ (A 6 = 1 → A 8 + A 10 ≤ N)
theorem LD_co {La N : Int} {μ μ' : Mem} {A A' : Int → Int} (hL : isL La) (s : ∀ c i, La ≤ c → c ≤ La + 10 → μ' c i = μ c i) (t : ∀ i, A' i = A i) (h : LD La μ A N) : LD La μ' A' N := by
  have e : A' = A := funext t
  subst e
  obtain ⟨h1, h2, h3, h4, h5, h6, h7, h8, h9, h10, h11, h12, h13⟩ := h
  refine ⟨LR_co hL (fun c i a b _ => s c i a b) h1, by rw [s La 4 (by omega) (by omega)]; exact h2, by rw [s La 6 (by omega) (by omega)]; exact h3, by rw [s La 7 (by omega) (by omega)]; exact h4, ?_, h6, h7, h8, by rw [s (La + 7) 1 (by omega) (by omega)]; exact h9, h10, ?_, h12, h13⟩
  · intro l l0 l1
    rw [s (La + 3) l (by omega) (by omega), s (La + 4) l (by omega) (by omega), s (La + 5) l (by omega) (by omega)]
    exact h5 l l0 l1
  · intro j j0 j1
    rw [s (La + 8) j (by omega) (by omega)]
    exact h11 j j0 j1
/-- The parts of a land that its single numbers leave as they are. -/
theorem LR_set {La : Int} {μ μ' : Mem} {A A' : Int → Int} (hL : isL La) (s : ∀ c i, La < c → c ≤ La + 10 → μ' c i = μ c i) (t : ∀ i, (1 ≤ i ∧ i ≤ 3) ∨ (5 ≤ i ∧ i ≤ 54) ∨ (200 ≤ i ∧ i < 1100) → A' i = A i) (h : LR μ La A) (e0 : μ' La 0 = μ La 0) (e1 : μ' La 1 = μ La 1) (e2 : μ' La 2 = μ La 2) (e3 : μ' La 3 = A' 0) (e5 : μ' La 5 = A' 4 ∧ 0 ≤ A' 4 ∧ A' 4 ≤ 9) : LR μ' La A' := by
  obtain ⟨h1, h2, h3, h4, h5, h6, h7, h8, h9⟩ := h
  have hw : ∀ w, (w = 0 ∨ w = 1) → LawR μ La A w → LawR μ' La A' w := by
    intro w hw h
    unfold LawR at h ⊢
    rw [t (5 + w) (by omega), t (7 + w) (by omega), t (9 + w) (by omega), s (La + 9) w (by omega) (by omega), s (La + 10) w (by omega) (by omega)]
    rcases h with h | ⟨a, b, c, d, e, f, g, k⟩
    · exact .inl h
    · refine .inr ⟨a, b, c, d, e, f, ?_, ?_⟩
      · intro j j1 j2
        rw [s (La + 8) j (by omega) (by omega), t (200 + j) (by omega)]
        exact g j j1 j2
      · rw [tyR_cg2 (cd' := fun j => A (200 + j)) _ _ _ (fun i i0 i1 => t (200 + i) (by omega))]
        exact k
  have t1 := t 1 (by omega)
  have t2 := t 2 (by omega)
  have t3 := t 3 (by omega)
  refine ⟨by rw [e0, t1]; exact h1, by rw [e1, t2]; exact h2, by rw [e2, t3]; exact h3, e3, e5, ?_, ?_, hw 0 (.inl rfl) h8, hw 1 (.inr rfl) h9⟩
  · intro l l0 l1
    rw [t2] at l1
    have l9 := h2.2.2
    have := h6 l l0 l1
    unfold LaneR at this ⊢
    rw [t1, t (11 + l) (by omega), t (20 + l) (by omega), t (29 + l) (by omega), t (38 + l) (by omega), s (La + 1) l (by omega) (by omega), s (La + 2) l (by omega) (by omega), s (La + 4) l (by omega) (by omega), s (La + 5) l (by omega) (by omega)]
    exact this
  · intro p p0 p1
    rw [t3] at p1
    have p9 := h3.2.2
    have := h7 p p0 p1
    unfold TurnR at this ⊢
    rw [t (47 + p) (by omega), s (La + 6) p (by omega) (by omega)]
    exact this
/-- One of the single numbers anew: lines, cart, pull or rain. -/
theorem LD_set {La N f g v : Int} {μ : Mem} {A : Int → Int} (hL : isL La) (h : LD La μ A N) (hfg : (f = 3 ∧ g = 0) ∨ (f = 4 ∧ g = 55 ∧ 0 ≤ v ∧ v < A 1) ∨ (f = 5 ∧ g = 4 ∧ 0 ≤ v ∧ v ≤ 9) ∨ (f = 6 ∧ g = 66 ∧ 0 ≤ v ∧ v ≤ 9)) : LD La (ms μ La f v) (upF A g v) N := by
  obtain ⟨h1, h2, h3, h4, h5, h6, h7, h8, h9, h10, h11, h12, h13⟩ := h
  have s : ∀ c i, c ≠ La → ms μ La f v c i = μ c i := fun c i hc => ms_nc hc
  have sf : ∀ i, ms μ La f v La i = if i = f then v else μ La i := by
    intro i
    by_cases e : i = f
    · rw [e, ms_eq, if_pos rfl]
    · rw [ms_ni e, if_neg e]
  have t : ∀ i, upF A g v i = if i = g then v else A i := by
    intro i
    by_cases e : i = g
    · rw [e, upF_eq, if_pos rfl]
    · rw [upF_ne e, if_neg e]
  have tn : ∀ i, i ≠ g → upF A g v i = A i := fun i hi => upF_ne hi
  have g13 : ∀ i, (1 ≤ i ∧ i ≤ 3) ∨ (5 ≤ i ∧ i ≤ 54) ∨ (67 ≤ i) ∨ i = 65 ∨ (56 ≤ i ∧ i ≤ 64) → upF A g v i = A i := fun i hi => tn i (by omega)
  refine ⟨LR_set hL (fun c i a b => s c i (by omega)) (fun i hi => g13 i (by omega)) h1 (by rw [sf, if_neg (by omega)]) (by rw [sf, if_neg (by omega)]) (by rw [sf, if_neg (by omega)]) ?_ ?_, ?_, ?_, ?_, ?_, by rw [g13 67 (by omega)]; exact h6, by rw [g13 68 (by omega)]; exact h7, by rw [g13 199 (by omega)]; exact h8, by rw [s _ _ (by omega)]; exact h9, h10, ?_, by rw [g13 5 (by omega), g13 7 (by omega), g13 9 (by omega)]; exact h12, by rw [g13 6 (by omega), g13 8 (by omega), g13 10 (by omega)]; exact h13⟩
  · rw [sf, t]
    rcases hfg with q | q | q | q
    · rw [if_pos (by omega), if_pos (by omega)]
    · rw [if_neg (by omega), if_neg (by omega)]; exact h1.2.2.2.1
    · rw [if_neg (by omega), if_neg (by omega)]; exact h1.2.2.2.1
    · rw [if_neg (by omega), if_neg (by omega)]; exact h1.2.2.2.1
  · rw [sf, t]
    rcases hfg with q | q | q | q
    · rw [if_neg (by omega), if_neg (by omega)]; exact h1.2.2.2.2.1
    · rw [if_neg (by omega), if_neg (by omega)]; exact h1.2.2.2.2.1
    · rw [if_pos (by omega), if_pos (by omega)]; exact ⟨rfl, by omega, by omega⟩
    · rw [if_neg (by omega), if_neg (by omega)]; exact h1.2.2.2.2.1
  · rw [sf, t, g13 1 (by omega)]
    rcases hfg with q | q | q | q
    · rw [if_neg (by omega), if_neg (by omega)]; exact h2
    · rw [if_pos (by omega), if_pos (by omega)]; exact ⟨rfl, by omega, by omega⟩
    · rw [if_neg (by omega), if_neg (by omega)]; exact h2
    · rw [if_neg (by omega), if_neg (by omega)]; exact h2
  · rw [sf, t]
    rcases hfg with q | q | q | q
    · rw [if_neg (by omega), if_neg (by omega)]; exact h3
    · rw [if_neg (by omega), if_neg (by omega)]; exact h3
    · rw [if_neg (by omega), if_neg (by omega)]; exact h3
    · rw [if_pos (by omega), if_pos (by omega)]; exact ⟨rfl, by omega, by omega⟩
  · rw [sf, if_neg (by omega), g13 65 (by omega), g13 3 (by omega)]; exact h4
  · intro l l0 l1
    rw [s _ _ (by omega), s _ _ (by omega), s _ _ (by omega), g13 (56 + l) (by omega), g13 (29 + l) (by omega), g13 (38 + l) (by omega)]
    exact h5 l l0 l1
  · intro j j0 j1
    rw [s _ _ (by omega), g13 (200 + j) (by omega)]
    exact h11 j j0 j1
